section G_X2_carryOut
variable {p : Program} {l : Launch} {e : Env} {s : State} {m : MethodId} {args : Array Value} {below : List Frame} {meth : Method} {c : Code} {D : va_G} {cs : C4} {A : Nat → Prop} {h0 hz : Hp} {mc ms : Nat}
def B_X2_carryOut_145 (N : Nat) (t0 : Nat) (h : Hp) : Option (Hp × Unit) := some (h, ())
theorem mb_X2_carryOut_145 (N : Nat) (t0 : Nat) (h : Hp) (hJ : B_X2_carryOut_145 N t0 h = some (hz, ())) : Mo h hz := by
  unfold B_X2_carryOut_145 at hJ
  obtain ⟨rfl, -⟩ := rs2 hJ
  exact ⟨fun _ _ => rfl, Nat.le_refl _, Nat.le_refl _, rfl, fun _ _ => rfl⟩
set_option maxRecDepth 100000 in
set_option maxHeartbeats 4000000 in
theorem sb_X2_carryOut_145 (C : Cx p s m args meth c cX2_carryOut 3 none RX2 D cs A h0.se) (hz2 : hz.nx ≤ h0.nx + mc ∧ hz.su ≤ h0.su + ms) (N : Nat) (t0 : Nat) (h : Hp) (hJ : B_X2_carryOut_145 N t0 h = some (hz, ())) (hk0 : h.kd t0 = 5) {H : Heap} {locs : List Loc} {cells slots : Nat} (w : Wo D cs A s h0 h H locs cells slots) {ls : Array Slot} (hl : lv_has ls 3 [(0, .ref t0)]) : W p l e { frames := 8, cells := mc, slots := ms, locals := 260 } s m args below meth c H locs cells slots (MQ below (Zv D cs A hz) args s mc ms A) (F0 m 145 ls []) := by
  obtain ⟨hx, hb, hml, hown, hts, -⟩ := id C
  unfold B_X2_carryOut_145 at hJ
  obtain ⟨rfl, -⟩ := rs2 hJ
  exact jr_vret C w hz2 dX2_carryOut_145
def B_X2_carryOut_139 (N : Nat) (t0 : Nat) (h : Hp) (y0 : Option Nat) (y1 : Int32) : Option (Hp × Unit) := dr h 3 y0 (fun a1 => B_X2_carryOut_145 N t0 (h.sfi 300 a1 y1))
theorem mb_X2_carryOut_139 (N : Nat) (t0 : Nat) (h : Hp) (y0 : Option Nat) (y1 : Int32) (hJ : B_X2_carryOut_139 N t0 h y0 y1 = some (hz, ())) : Mo h hz := by
  unfold B_X2_carryOut_139 at hJ
  obtain ⟨a1, ea1, -, hJ⟩ := dr_some hJ
  exact (Mo.tr (show Mo h (h.sfi 300 a1 y1) from ⟨fun _ _ => rfl, Nat.le_refl _, Nat.le_refl _, rfl, fun _ _ => rfl⟩) (mb_X2_carryOut_145 N t0 _ hJ))
set_option maxRecDepth 100000 in
set_option maxHeartbeats 4000000 in
theorem sb_X2_carryOut_139 (C : Cx p s m args meth c cX2_carryOut 3 none RX2 D cs A h0.se) (hz2 : hz.nx ≤ h0.nx + mc ∧ hz.su ≤ h0.su + ms) (N : Nat) (t0 : Nat) (h : Hp) (y0 : Option Nat) (y1 : Int32) (hJ : B_X2_carryOut_139 N t0 h y0 y1 = some (hz, ())) (hk0 : h.kd t0 = 5) {H : Heap} {locs : List Loc} {cells slots : Nat} (w : Wo D cs A s h0 h H locs cells slots) {ls : Array Slot} (hl : lv_has ls 3 [(0, .ref t0)]) : W p l e { frames := 8, cells := mc, slots := ms, locals := 260 } s m args below meth c H locs cells slots (MQ below (Zv D cs A hz) args s mc ms A) (F0 m 139 ls [.int y1, va_rf y0]) := by
  obtain ⟨hx, hb, hml, hown, hts, -⟩ := id C
  unfold B_X2_carryOut_139 at hJ
  obtain ⟨a1, ea1, hka1, hJ⟩ := dr_some hJ
  rw [ea1]
  refine fp_300 (x := y1) C w hka1 tw_1_88 dX2_carryOut_139 (fun H locs w => ?_)
  refine lv_goto (tgt := 145) hx hb dX2_carryOut_142 (by decide) ?_
  exact sb_X2_carryOut_145 C hz2 N t0 _ hJ hk0 w hl
def B_X2_carryOut_124 (N : Nat) (t0 : Nat) (h : Hp) (y0 : Option Nat) (y1 : Int32) : Option (Hp × Unit) := dr h 3 y0 (fun a2 => B_X2_carryOut_145 N t0 (h.sfi 300 a2 y1))
theorem mb_X2_carryOut_124 (N : Nat) (t0 : Nat) (h : Hp) (y0 : Option Nat) (y1 : Int32) (hJ : B_X2_carryOut_124 N t0 h y0 y1 = some (hz, ())) : Mo h hz := by
  unfold B_X2_carryOut_124 at hJ
  obtain ⟨a2, ea2, -, hJ⟩ := dr_some hJ
  exact (Mo.tr (show Mo h (h.sfi 300 a2 y1) from ⟨fun _ _ => rfl, Nat.le_refl _, Nat.le_refl _, rfl, fun _ _ => rfl⟩) (mb_X2_carryOut_145 N t0 _ hJ))
set_option maxRecDepth 100000 in
set_option maxHeartbeats 4000000 in
theorem sb_X2_carryOut_124 (C : Cx p s m args meth c cX2_carryOut 3 none RX2 D cs A h0.se) (hz2 : hz.nx ≤ h0.nx + mc ∧ hz.su ≤ h0.su + ms) (N : Nat) (t0 : Nat) (h : Hp) (y0 : Option Nat) (y1 : Int32) (hJ : B_X2_carryOut_124 N t0 h y0 y1 = some (hz, ())) (hk0 : h.kd t0 = 5) {H : Heap} {locs : List Loc} {cells slots : Nat} (w : Wo D cs A s h0 h H locs cells slots) {ls : Array Slot} (hl : lv_has ls 3 [(0, .ref t0)]) : W p l e { frames := 8, cells := mc, slots := ms, locals := 260 } s m args below meth c H locs cells slots (MQ below (Zv D cs A hz) args s mc ms A) (F0 m 124 ls [.int y1, va_rf y0]) := by
  obtain ⟨hx, hb, hml, hown, hts, -⟩ := id C
  unfold B_X2_carryOut_124 at hJ
  obtain ⟨a2, ea2, hka2, hJ⟩ := dr_some hJ
  rw [ea2]
  refine fp_300 (x := y1) C w hka2 tw_1_88 dX2_carryOut_124 (fun H locs w => ?_)
  refine lv_goto (tgt := 145) hx hb dX2_carryOut_127 (by decide) ?_
  exact sb_X2_carryOut_145 C hz2 N t0 _ hJ hk0 w hl
def B_X2_carryOut_113 (N : Nat) (t0 : Nat) (h : Hp) (y0 : Option Nat) (y1 : Int32) : Option (Hp × Unit) := dr h 3 y0 (fun a3 => B_X2_carryOut_145 N t0 (h.sfi 300 a3 y1))
theorem mb_X2_carryOut_113 (N : Nat) (t0 : Nat) (h : Hp) (y0 : Option Nat) (y1 : Int32) (hJ : B_X2_carryOut_113 N t0 h y0 y1 = some (hz, ())) : Mo h hz := by
  unfold B_X2_carryOut_113 at hJ
  obtain ⟨a3, ea3, -, hJ⟩ := dr_some hJ
  exact (Mo.tr (show Mo h (h.sfi 300 a3 y1) from ⟨fun _ _ => rfl, Nat.le_refl _, Nat.le_refl _, rfl, fun _ _ => rfl⟩) (mb_X2_carryOut_145 N t0 _ hJ))
set_option maxRecDepth 100000 in
set_option maxHeartbeats 4000000 in
theorem sb_X2_carryOut_113 (C : Cx p s m args meth c cX2_carryOut 3 none RX2 D cs A h0.se) (hz2 : hz.nx ≤ h0.nx + mc ∧ hz.su ≤ h0.su + ms) (N : Nat) (t0 : Nat) (h : Hp) (y0 : Option Nat) (y1 : Int32) (hJ : B_X2_carryOut_113 N t0 h y0 y1 = some (hz, ())) (hk0 : h.kd t0 = 5) {H : Heap} {locs : List Loc} {cells slots : Nat} (w : Wo D cs A s h0 h H locs cells slots) {ls : Array Slot} (hl : lv_has ls 3 [(0, .ref t0)]) : W p l e { frames := 8, cells := mc, slots := ms, locals := 260 } s m args below meth c H locs cells slots (MQ below (Zv D cs A hz) args s mc ms A) (F0 m 113 ls [.int y1, va_rf y0]) := by
  obtain ⟨hx, hb, hml, hown, hts, -⟩ := id C
  unfold B_X2_carryOut_113 at hJ
  obtain ⟨a3, ea3, hka3, hJ⟩ := dr_some hJ
  rw [ea3]
  refine fp_300 (x := y1) C w hka3 tw_1_88 dX2_carryOut_113 (fun H locs w => ?_)
  refine lv_goto (tgt := 145) hx hb dX2_carryOut_116 (by decide) ?_
  exact sb_X2_carryOut_145 C hz2 N t0 _ hJ hk0 w hl
def B_X2_carryOut_93 (N : Nat) (t0 : Nat) (h : Hp) : Option (Hp × Unit) := B_X2_carryOut_145 N t0 h
theorem mb_X2_carryOut_93 (N : Nat) (t0 : Nat) (h : Hp) (hJ : B_X2_carryOut_93 N t0 h = some (hz, ())) : Mo h hz := by
  unfold B_X2_carryOut_93 at hJ
  exact mb_X2_carryOut_145 N t0 _ hJ
set_option maxRecDepth 100000 in
set_option maxHeartbeats 4000000 in
theorem sb_X2_carryOut_93 (C : Cx p s m args meth c cX2_carryOut 3 none RX2 D cs A h0.se) (hz2 : hz.nx ≤ h0.nx + mc ∧ hz.su ≤ h0.su + ms) (N : Nat) (t0 : Nat) (h : Hp) (hJ : B_X2_carryOut_93 N t0 h = some (hz, ())) (hk0 : h.kd t0 = 5) {H : Heap} {locs : List Loc} {cells slots : Nat} (w : Wo D cs A s h0 h H locs cells slots) {ls : Array Slot} (hl : lv_has ls 3 [(0, .ref t0)]) : W p l e { frames := 8, cells := mc, slots := ms, locals := 260 } s m args below meth c H locs cells slots (MQ below (Zv D cs A hz) args s mc ms A) (F0 m 93 ls []) := by
  obtain ⟨hx, hb, hml, hown, hts, -⟩ := id C
  unfold B_X2_carryOut_93 at hJ
  refine lv_goto (tgt := 145) hx hb dX2_carryOut_93 (by decide) ?_
  exact sb_X2_carryOut_145 C hz2 N t0 _ hJ hk0 w hl
def B_X2_carryOut_73 (N : Nat) (t0 : Nat) (h : Hp) : Option (Hp × Unit) := B_X2_carryOut_145 N t0 h
theorem mb_X2_carryOut_73 (N : Nat) (t0 : Nat) (h : Hp) (hJ : B_X2_carryOut_73 N t0 h = some (hz, ())) : Mo h hz := by
  unfold B_X2_carryOut_73 at hJ
  exact mb_X2_carryOut_145 N t0 _ hJ
set_option maxRecDepth 100000 in
set_option maxHeartbeats 4000000 in
theorem sb_X2_carryOut_73 (C : Cx p s m args meth c cX2_carryOut 3 none RX2 D cs A h0.se) (hz2 : hz.nx ≤ h0.nx + mc ∧ hz.su ≤ h0.su + ms) (N : Nat) (t0 : Nat) (h : Hp) (hJ : B_X2_carryOut_73 N t0 h = some (hz, ())) (hk0 : h.kd t0 = 5) {H : Heap} {locs : List Loc} {cells slots : Nat} (w : Wo D cs A s h0 h H locs cells slots) {ls : Array Slot} (hl : lv_has ls 3 [(0, .ref t0)]) : W p l e { frames := 8, cells := mc, slots := ms, locals := 260 } s m args below meth c H locs cells slots (MQ below (Zv D cs A hz) args s mc ms A) (F0 m 73 ls []) := by
  obtain ⟨hx, hb, hml, hown, hts, -⟩ := id C
  unfold B_X2_carryOut_73 at hJ
  refine lv_goto (tgt := 145) hx hb dX2_carryOut_73 (by decide) ?_
  exact sb_X2_carryOut_145 C hz2 N t0 _ hJ hk0 w hl
def B_X2_carryOut_57 (N : Nat) (t0 : Nat) (h : Hp) : Option (Hp × Unit) := B_X2_carryOut_145 N t0 h
theorem mb_X2_carryOut_57 (N : Nat) (t0 : Nat) (h : Hp) (hJ : B_X2_carryOut_57 N t0 h = some (hz, ())) : Mo h hz := by
  unfold B_X2_carryOut_57 at hJ
  exact mb_X2_carryOut_145 N t0 _ hJ
set_option maxRecDepth 100000 in
set_option maxHeartbeats 4000000 in
theorem sb_X2_carryOut_57 (C : Cx p s m args meth c cX2_carryOut 3 none RX2 D cs A h0.se) (hz2 : hz.nx ≤ h0.nx + mc ∧ hz.su ≤ h0.su + ms) (N : Nat) (t0 : Nat) (h : Hp) (hJ : B_X2_carryOut_57 N t0 h = some (hz, ())) (hk0 : h.kd t0 = 5) {H : Heap} {locs : List Loc} {cells slots : Nat} (w : Wo D cs A s h0 h H locs cells slots) {ls : Array Slot} (hl : lv_has ls 3 [(0, .ref t0)]) : W p l e { frames := 8, cells := mc, slots := ms, locals := 260 } s m args below meth c H locs cells slots (MQ below (Zv D cs A hz) args s mc ms A) (F0 m 57 ls []) := by
  obtain ⟨hx, hb, hml, hown, hts, -⟩ := id C
  unfold B_X2_carryOut_57 at hJ
  refine lv_goto (tgt := 145) hx hb dX2_carryOut_57 (by decide) ?_
  exact sb_X2_carryOut_145 C hz2 N t0 _ hJ hk0 w hl
def B_X2_carryOut_4 (N : Nat) (t0 : Nat) (h : Hp) (x1 : Option Nat) (x2 : Option Nat) : Option (Hp × Unit) := if (h.fi 500 t0) = (0 : Int32) then (dr h 11 x1 (fun a5 => (J_X8_answerRead N a5 h (h.fi 501 t0) x2).bind (fun z => B_X2_carryOut_57 N t0 z.1))) else (if (h.fi 500 t0) = (1 : Int32) then (dr h 11 x1 (fun a11 => (J_X8_answerNear N a11 h (h.fi 501 t0) (h.fi 504 t0) x2).bind (fun z => B_X2_carryOut_73 N t0 z.1))) else (if (h.fi 500 t0) = (2 : Int32) then (dr h 11 x1 (fun a17 => (J_X8_answerScan N a17 h (h.fi 501 t0) (h.fi 502 t0) (h.fi 503 t0) x2).bind (fun z => B_X2_carryOut_93 N t0 z.1))) else (if (h.fi 500 t0) = (3 : Int32) then (dr h 11 x1 (fun a23 => (J_X8_putOwn N a23 h (h.fi 501 t0) (h.fi 504 t0) (h.fl 505 t0)).bind (fun z => B_X2_carryOut_113 N t0 z.1 x2 z.2))) else (if (h.fi 500 t0) = (4 : Int32) then (dr h 11 x1 (fun a29 => (J_X8_addPlace N a29 h).bind (fun z => B_X2_carryOut_124 N t0 z.1 x2 z.2))) else (if (h.fi 500 t0) = (5 : Int32) then (dr h 11 x1 (fun a35 => (J_X8_comeBack N a35 h (h.fi 503 t0)).bind (fun z => B_X2_carryOut_139 N t0 z.1 x2 z.2))) else (B_X2_carryOut_145 N t0 h))))))
theorem mb_X2_carryOut_4 (N : Nat) (t0 : Nat) (h : Hp) (x1 : Option Nat) (x2 : Option Nat) (hJ : B_X2_carryOut_4 N t0 h x1 x2 = some (hz, ())) : Mo h hz := by
  unfold B_X2_carryOut_4 at hJ
  by_cases c4 : (h.fi 500 t0) = (0 : Int32)
  · have hJ := it_pos c4 hJ
    obtain ⟨a5, ea5, -, hJ⟩ := dr_some hJ
    obtain ⟨⟨h6, r7⟩, e8, hJ⟩ := ob_some hJ
    exact (mo_X8_answerRead N a5 h (h.fi 501 t0) x2 e8).tr (mb_X2_carryOut_57 N t0 _ hJ)
  · have hJ := it_neg c4 hJ
    by_cases c10 : (h.fi 500 t0) = (1 : Int32)
    · have hJ := it_pos c10 hJ
      obtain ⟨a11, ea11, -, hJ⟩ := dr_some hJ
      obtain ⟨⟨h12, r13⟩, e14, hJ⟩ := ob_some hJ
      exact (mo_X8_answerNear N a11 h (h.fi 501 t0) (h.fi 504 t0) x2 e14).tr (mb_X2_carryOut_73 N t0 _ hJ)
    · have hJ := it_neg c10 hJ
      by_cases c16 : (h.fi 500 t0) = (2 : Int32)
      · have hJ := it_pos c16 hJ
        obtain ⟨a17, ea17, -, hJ⟩ := dr_some hJ
        obtain ⟨⟨h18, r19⟩, e20, hJ⟩ := ob_some hJ
        exact (mo_X8_answerScan N a17 h (h.fi 501 t0) (h.fi 502 t0) (h.fi 503 t0) x2 e20).tr (mb_X2_carryOut_93 N t0 _ hJ)
      · have hJ := it_neg c16 hJ
        by_cases c22 : (h.fi 500 t0) = (3 : Int32)
        · have hJ := it_pos c22 hJ
          obtain ⟨a23, ea23, -, hJ⟩ := dr_some hJ
          obtain ⟨⟨h24, r25⟩, e26, hJ⟩ := ob_some hJ
          exact (mo_X8_putOwn N a23 h (h.fi 501 t0) (h.fi 504 t0) (h.fl 505 t0) e26).tr (mb_X2_carryOut_113 N t0 _ _ _ hJ)
        · have hJ := it_neg c22 hJ
          by_cases c28 : (h.fi 500 t0) = (4 : Int32)
          · have hJ := it_pos c28 hJ
            obtain ⟨a29, ea29, -, hJ⟩ := dr_some hJ
            obtain ⟨⟨h30, r31⟩, e32, hJ⟩ := ob_some hJ
            exact (mo_X8_addPlace N a29 h e32).tr (mb_X2_carryOut_124 N t0 _ _ _ hJ)
          · have hJ := it_neg c28 hJ
            by_cases c34 : (h.fi 500 t0) = (5 : Int32)
            · have hJ := it_pos c34 hJ
              obtain ⟨a35, ea35, -, hJ⟩ := dr_some hJ
              obtain ⟨⟨h36, r37⟩, e38, hJ⟩ := ob_some hJ
              exact (mo_X8_comeBack N a35 h (h.fi 503 t0) e38).tr (mb_X2_carryOut_139 N t0 _ _ _ hJ)
            · have hJ := it_neg c34 hJ
              exact mb_X2_carryOut_145 N t0 _ hJ
set_option maxRecDepth 100000 in
set_option maxHeartbeats 4000000 in
theorem sb_X2_carryOut_4 (C : Cx p s m args meth c cX2_carryOut 3 none RX2 D cs A h0.se) (hz2 : hz.nx ≤ h0.nx + mc ∧ hz.su ≤ h0.su + ms) (N : Nat) (t0 : Nat) (h : Hp) (x1 : Option Nat) (x2 : Option Nat) (hJ : B_X2_carryOut_4 N t0 h x1 x2 = some (hz, ())) (hk0 : h.kd t0 = 5) {H : Heap} {locs : List Loc} {cells slots : Nat} (w : Wo D cs A s h0 h H locs cells slots) {ls : Array Slot} (hl : lv_has ls 3 [(0, .ref t0), (1, va_rf x1), (2, va_rf x2)]) : W p l e { frames := 8, cells := mc, slots := ms, locals := 260 } s m args below meth c H locs cells slots (MQ below (Zv D cs A hz) args s mc ms A) (F0 m 4 ls []) := by
  obtain ⟨hx, hb, hml, hown, hts, -⟩ := id C
  unfold B_X2_carryOut_4 at hJ
  refine lv_aload_n hx hb dX2_carryOut_4 rfl (lv_at hl 0 rfl) ?_
  refine fg_500 C w hk0 tw_5_137 dX2_carryOut_5 ?_
  by_cases c4 : (h.fi 500 t0) = (0 : Int32)
  · have hJ := it_pos c4 hJ
    refine lv_tableIn (tgt := 48) hx hb dX2_carryOut_8 (by rw [c4]; decide) (by rw [c4]; decide) (off := 40) (by rw [c4]; rfl) (by decide) ?_
    refine jv_aload_n hx hb dX2_carryOut_48 rfl (lv_at hl 1 rfl) ?_
    refine lv_aload_n hx hb dX2_carryOut_49 rfl (lv_at hl 0 rfl) ?_
    refine fg_501 C w hk0 tw_5_139 dX2_carryOut_50 ?_
    refine jv_aload_n hx hb dX2_carryOut_53 rfl (lv_at hl 2 rfl) ?_
    obtain ⟨a5, ea5, hka5, hJ⟩ := dr_some hJ
    rw [ea5] at hl
    rw [ea5]
    obtain ⟨⟨h6, r7⟩, e8, hJ⟩ := ob_some hJ
    refine jc_Vv (As := [.int (h.fi 501 t0), va_rf x2]) C w (cc_X8_answerRead N a5 h (h.fi 501 t0) x2 hka5 e8) (mo_X8_answerRead N a5 h (h.fi 501 t0) x2 e8) (mb_X2_carryOut_57 N t0 _ hJ) hz2 hka5 (by decide) rfl (fs := fs11 h a5) rfl rfl ⟨tw_3_94, tw_3_91, tw_3_92, tw_3_93, tw_1_8⟩ cd_X8_answerRead ⟨by decide, by decide⟩ hl.1 (by first | exact Nat.le_of_ble_eq_true rfl | simp [rf_cat, cat_i, cat_l, cat_r]) rfl dX2_carryOut_54 (fun H locs w1 => ?_)
    have hk9 := kd_keep w (mo_X8_answerRead N a5 h (h.fi 501 t0) x2 e8) hk0 (by decide)
    have w := w1
    exact sb_X2_carryOut_57 C hz2 N t0 _ hJ hk9 w (lv_sub (l' := [(0, .ref t0)]) hl [0] rfl)
  · have hJ := it_neg c4 hJ
    by_cases c10 : (h.fi 500 t0) = (1 : Int32)
    · have hJ := it_pos c10 hJ
      refine lv_tableIn (tgt := 60) hx hb dX2_carryOut_8 (by rw [c10]; decide) (by rw [c10]; decide) (off := 52) (by rw [c10]; rfl) (by decide) ?_
      refine jv_aload_n hx hb dX2_carryOut_60 rfl (lv_at hl 1 rfl) ?_
      refine lv_aload_n hx hb dX2_carryOut_61 rfl (lv_at hl 0 rfl) ?_
      refine fg_501 C w hk0 tw_5_139 dX2_carryOut_62 ?_
      refine lv_aload_n hx hb dX2_carryOut_65 rfl (lv_at hl 0 rfl) ?_
      refine fg_504 C w hk0 tw_5_144 dX2_carryOut_66 ?_
      refine jv_aload_n hx hb dX2_carryOut_69 rfl (lv_at hl 2 rfl) ?_
      obtain ⟨a11, ea11, hka11, hJ⟩ := dr_some hJ
      rw [ea11] at hl
      rw [ea11]
      obtain ⟨⟨h12, r13⟩, e14, hJ⟩ := ob_some hJ
      refine jc_Vv (As := [.int (h.fi 501 t0), .int (h.fi 504 t0), va_rf x2]) C w (cc_X8_answerNear N a11 h (h.fi 501 t0) (h.fi 504 t0) x2 hka11 e14) (mo_X8_answerNear N a11 h (h.fi 501 t0) (h.fi 504 t0) x2 e14) (mb_X2_carryOut_73 N t0 _ hJ) hz2 hka11 (by decide) rfl (fs := fs11 h a11) rfl rfl ⟨tw_3_112, tw_3_109, tw_3_110, tw_3_111, tw_1_8⟩ cd_X8_answerNear ⟨by decide, by decide⟩ hl.1 (by first | exact Nat.le_of_ble_eq_true rfl | simp [rf_cat, cat_i, cat_l, cat_r]) rfl dX2_carryOut_70 (fun H locs w1 => ?_)
      have hk15 := kd_keep w (mo_X8_answerNear N a11 h (h.fi 501 t0) (h.fi 504 t0) x2 e14) hk0 (by decide)
      have w := w1
      exact sb_X2_carryOut_73 C hz2 N t0 _ hJ hk15 w (lv_sub (l' := [(0, .ref t0)]) hl [0] rfl)
    · have hJ := it_neg c10 hJ
      by_cases c16 : (h.fi 500 t0) = (2 : Int32)
      · have hJ := it_pos c16 hJ
        refine lv_tableIn (tgt := 76) hx hb dX2_carryOut_8 (by rw [c16]; decide) (by rw [c16]; decide) (off := 68) (by rw [c16]; rfl) (by decide) ?_
        refine jv_aload_n hx hb dX2_carryOut_76 rfl (lv_at hl 1 rfl) ?_
        refine lv_aload_n hx hb dX2_carryOut_77 rfl (lv_at hl 0 rfl) ?_
        refine fg_501 C w hk0 tw_5_139 dX2_carryOut_78 ?_
        refine lv_aload_n hx hb dX2_carryOut_81 rfl (lv_at hl 0 rfl) ?_
        refine fg_502 C w hk0 tw_5_140 dX2_carryOut_82 ?_
        refine lv_aload_n hx hb dX2_carryOut_85 rfl (lv_at hl 0 rfl) ?_
        refine fg_503 C w hk0 tw_5_142 dX2_carryOut_86 ?_
        refine jv_aload_n hx hb dX2_carryOut_89 rfl (lv_at hl 2 rfl) ?_
        obtain ⟨a17, ea17, hka17, hJ⟩ := dr_some hJ
        rw [ea17] at hl
        rw [ea17]
        obtain ⟨⟨h18, r19⟩, e20, hJ⟩ := ob_some hJ
        refine jc_Vv (As := [.int (h.fi 501 t0), .int (h.fi 502 t0), .int (h.fi 503 t0), va_rf x2]) C w (cc_X8_answerScan N a17 h (h.fi 501 t0) (h.fi 502 t0) (h.fi 503 t0) x2 hka17 e20) (mo_X8_answerScan N a17 h (h.fi 501 t0) (h.fi 502 t0) (h.fi 503 t0) x2 e20) (mb_X2_carryOut_93 N t0 _ hJ) hz2 hka17 (by decide) rfl (fs := fs11 h a17) rfl rfl ⟨tw_3_128, tw_3_125, tw_3_126, tw_3_127, tw_1_8⟩ cd_X8_answerScan ⟨by decide, by decide⟩ hl.1 (by first | exact Nat.le_of_ble_eq_true rfl | simp [rf_cat, cat_i, cat_l, cat_r]) rfl dX2_carryOut_90 (fun H locs w1 => ?_)
        have hk21 := kd_keep w (mo_X8_answerScan N a17 h (h.fi 501 t0) (h.fi 502 t0) (h.fi 503 t0) x2 e20) hk0 (by decide)
        have w := w1
        exact sb_X2_carryOut_93 C hz2 N t0 _ hJ hk21 w (lv_sub (l' := [(0, .ref t0)]) hl [0] rfl)
      · have hJ := it_neg c16 hJ
        by_cases c22 : (h.fi 500 t0) = (3 : Int32)
        · have hJ := it_pos c22 hJ
          refine lv_tableIn (tgt := 96) hx hb dX2_carryOut_8 (by rw [c22]; decide) (by rw [c22]; decide) (off := 88) (by rw [c22]; rfl) (by decide) ?_
          refine jv_aload_n hx hb dX2_carryOut_96 rfl (lv_at hl 2 rfl) ?_
          refine jv_aload_n hx hb dX2_carryOut_97 rfl (lv_at hl 1 rfl) ?_
          refine lv_aload_n hx hb dX2_carryOut_98 rfl (lv_at hl 0 rfl) ?_
          refine fg_501 C w hk0 tw_5_139 dX2_carryOut_99 ?_
          refine lv_aload_n hx hb dX2_carryOut_102 rfl (lv_at hl 0 rfl) ?_
          refine fg_504 C w hk0 tw_5_144 dX2_carryOut_103 ?_
          refine lv_aload_n hx hb dX2_carryOut_106 rfl (lv_at hl 0 rfl) ?_
          refine fg_505 C w hk0 tw_5_146 dX2_carryOut_107 ?_
          obtain ⟨a23, ea23, hka23, hJ⟩ := dr_some hJ
          rw [ea23] at hl
          rw [ea23]
          obtain ⟨⟨h24, r25⟩, e26, hJ⟩ := ob_some hJ
          refine jc_Vi (As := [.int (h.fi 501 t0), .int (h.fi 504 t0), .long (h.fl 505 t0)]) C w (cc_X8_putOwn N a23 h (h.fi 501 t0) (h.fi 504 t0) (h.fl 505 t0) hka23 e26) (mo_X8_putOwn N a23 h (h.fi 501 t0) (h.fi 504 t0) (h.fl 505 t0) e26) (mb_X2_carryOut_113 N t0 _ _ _ hJ) hz2 hka23 (by decide) rfl (fs := fs11 h a23) rfl rfl ⟨tw_3_136, tw_3_133, tw_3_134, tw_3_135, tw_1_8⟩ cd_X8_putOwn ⟨by decide, by decide⟩ hl.1 (by first | exact Nat.le_of_ble_eq_true rfl | simp [rf_cat, cat_i, cat_l, cat_r]) rfl dX2_carryOut_110 (fun H locs w1 => ?_)
          have hk27 := kd_keep w (mo_X8_putOwn N a23 h (h.fi 501 t0) (h.fi 504 t0) (h.fl 505 t0) e26) hk0 (by decide)
          have w := w1
          exact sb_X2_carryOut_113 C hz2 N t0 _ _ _ hJ hk27 w (lv_sub (l' := [(0, .ref t0)]) hl [0] rfl)
        · have hJ := it_neg c22 hJ
          by_cases c28 : (h.fi 500 t0) = (4 : Int32)
          · have hJ := it_pos c28 hJ
            refine lv_tableIn (tgt := 119) hx hb dX2_carryOut_8 (by rw [c28]; decide) (by rw [c28]; decide) (off := 111) (by rw [c28]; rfl) (by decide) ?_
            refine jv_aload_n hx hb dX2_carryOut_119 rfl (lv_at hl 2 rfl) ?_
            refine jv_aload_n hx hb dX2_carryOut_120 rfl (lv_at hl 1 rfl) ?_
            obtain ⟨a29, ea29, hka29, hJ⟩ := dr_some hJ
            rw [ea29] at hl
            rw [ea29]
            obtain ⟨⟨h30, r31⟩, e32, hJ⟩ := ob_some hJ
            refine jc_Vi (As := []) C w (cc_X8_addPlace N a29 h hka29 e32) (mo_X8_addPlace N a29 h e32) (mb_X2_carryOut_124 N t0 _ _ _ hJ) hz2 hka29 (by decide) rfl (fs := fs11 h a29) rfl rfl ⟨tw_5_47, tw_5_44, tw_5_45, tw_5_46, tw_1_8⟩ cd_X8_addPlace ⟨by decide, by decide⟩ hl.1 (by first | exact Nat.le_of_ble_eq_true rfl | simp [rf_cat, cat_i, cat_l, cat_r]) rfl dX2_carryOut_121 (fun H locs w1 => ?_)
            have hk33 := kd_keep w (mo_X8_addPlace N a29 h e32) hk0 (by decide)
            have w := w1
            exact sb_X2_carryOut_124 C hz2 N t0 _ _ _ hJ hk33 w (lv_sub (l' := [(0, .ref t0)]) hl [0] rfl)
          · have hJ := it_neg c28 hJ
            by_cases c34 : (h.fi 500 t0) = (5 : Int32)
            · have hJ := it_pos c34 hJ
              refine lv_tableIn (tgt := 130) hx hb dX2_carryOut_8 (by rw [c34]; decide) (by rw [c34]; decide) (off := 122) (by rw [c34]; rfl) (by decide) ?_
              refine jv_aload_n hx hb dX2_carryOut_130 rfl (lv_at hl 2 rfl) ?_
              refine jv_aload_n hx hb dX2_carryOut_131 rfl (lv_at hl 1 rfl) ?_
              refine lv_aload_n hx hb dX2_carryOut_132 rfl (lv_at hl 0 rfl) ?_
              refine fg_503 C w hk0 tw_5_142 dX2_carryOut_133 ?_
              obtain ⟨a35, ea35, hka35, hJ⟩ := dr_some hJ
              rw [ea35] at hl
              rw [ea35]
              obtain ⟨⟨h36, r37⟩, e38, hJ⟩ := ob_some hJ
              refine jc_Vi (As := [.int (h.fi 503 t0)]) C w (cc_X8_comeBack N a35 h (h.fi 503 t0) hka35 e38) (mo_X8_comeBack N a35 h (h.fi 503 t0) e38) (mb_X2_carryOut_139 N t0 _ _ _ hJ) hz2 hka35 (by decide) rfl (fs := fs11 h a35) rfl rfl ⟨tw_5_51, tw_5_48, tw_5_49, tw_5_50, tw_1_8⟩ cd_X8_comeBack ⟨by decide, by decide⟩ hl.1 (by first | exact Nat.le_of_ble_eq_true rfl | simp [rf_cat, cat_i, cat_l, cat_r]) rfl dX2_carryOut_136 (fun H locs w1 => ?_)
              have hk39 := kd_keep w (mo_X8_comeBack N a35 h (h.fi 503 t0) e38) hk0 (by decide)
              have w := w1
              exact sb_X2_carryOut_139 C hz2 N t0 _ _ _ hJ hk39 w (lv_sub (l' := [(0, .ref t0)]) hl [0] rfl)
            · have hJ := it_neg c34 hJ
              refine lv_tableOut (tgt := 145) hx hb dX2_carryOut_8 (by have := ne_ti (n := 0) rfl c4; have := ne_ti (n := 1) rfl c10; have := ne_ti (n := 2) rfl c16; have := ne_ti (n := 3) rfl c22; have := ne_ti (n := 4) rfl c28; have := ne_ti (n := 5) rfl c34;  omega) (by decide) ?_
              exact sb_X2_carryOut_145 C hz2 N t0 _ hJ hk0 w (lv_sub (l' := [(0, .ref t0)]) hl [0] rfl)
def B_X2_carryOut_0 (N : Nat) (t0 : Nat) (h : Hp) (x1 : Option Nat) (x2 : Option Nat) : Option (Hp × Unit) := dr h 3 x2 (fun a40 => (J_X0_clear N a40 h).bind (fun z => B_X2_carryOut_4 N t0 z.1 x1 (some a40)))
theorem mb_X2_carryOut_0 (N : Nat) (t0 : Nat) (h : Hp) (x1 : Option Nat) (x2 : Option Nat) (hJ : B_X2_carryOut_0 N t0 h x1 x2 = some (hz, ())) : Mo h hz := by
  unfold B_X2_carryOut_0 at hJ
  obtain ⟨a40, ea40, -, hJ⟩ := dr_some hJ
  obtain ⟨⟨h41, r42⟩, e43, hJ⟩ := ob_some hJ
  exact (mo_X0_clear N a40 h e43).tr (mb_X2_carryOut_4 N t0 _ _ _ hJ)
set_option maxRecDepth 100000 in
set_option maxHeartbeats 4000000 in
theorem sb_X2_carryOut_0 (C : Cx p s m args meth c cX2_carryOut 3 none RX2 D cs A h0.se) (hz2 : hz.nx ≤ h0.nx + mc ∧ hz.su ≤ h0.su + ms) (N : Nat) (t0 : Nat) (h : Hp) (x1 : Option Nat) (x2 : Option Nat) (hJ : B_X2_carryOut_0 N t0 h x1 x2 = some (hz, ())) (hk0 : h.kd t0 = 5) {H : Heap} {locs : List Loc} {cells slots : Nat} (w : Wo D cs A s h0 h H locs cells slots) {ls : Array Slot} (hl : lv_has ls 3 [(0, .ref t0), (1, va_rf x1), (2, va_rf x2)]) : W p l e { frames := 8, cells := mc, slots := ms, locals := 260 } s m args below meth c H locs cells slots (MQ below (Zv D cs A hz) args s mc ms A) (F0 m 0 ls []) := by
  obtain ⟨hx, hb, hml, hown, hts, -⟩ := id C
  unfold B_X2_carryOut_0 at hJ
  refine jv_aload_n hx hb dX2_carryOut_0 rfl (lv_at hl 2 rfl) ?_
  obtain ⟨a40, ea40, hka40, hJ⟩ := dr_some hJ
  rw [ea40] at hl
  rw [ea40]
  obtain ⟨⟨h41, r42⟩, e43, hJ⟩ := ob_some hJ
  refine jc_Vv (As := []) C w (cc_X0_clear N a40 h hka40 e43) (mo_X0_clear N a40 h e43) (mb_X2_carryOut_4 N t0 _ _ _ hJ) hz2 hka40 (by decide) rfl (fs := fs3 h a40) rfl rfl ⟨tw_3_90, tw_3_87, tw_3_88, tw_3_89, tw_1_6⟩ cd_X0_clear ⟨by decide, by decide⟩ hl.1 (by first | exact Nat.le_of_ble_eq_true rfl | simp [rf_cat, cat_i, cat_l, cat_r]) rfl dX2_carryOut_1 (fun H locs w1 => ?_)
  have hk44 := kd_keep w (mo_X0_clear N a40 h e43) hk0 (by decide)
  have w := w1
  exact sb_X2_carryOut_4 C hz2 N t0 _ _ _ hJ hk44 w hl
def J_X2_carryOut (N : Nat) (t0 : Nat) (h : Hp) (x1 : Option Nat) (x2 : Option Nat) : Option (Hp × Unit) := B_X2_carryOut_0 N t0 h x1 x2
theorem mo_X2_carryOut (N : Nat) (t0 : Nat) (h : Hp) (x1 : Option Nat) (x2 : Option Nat) (hJ : J_X2_carryOut N t0 h x1 x2 = some (hz, ())) : Mo h hz := mb_X2_carryOut_0 N t0 h x1 x2 hJ
theorem cd_X2_carryOut : Cd yX2_carryOut 2 := ⟨by decide +kernel, by decide +kernel, by decide +kernel⟩
theorem cc_X2_carryOut (N : Nat) (t0 : Nat) (h : Hp) (x1 : Option Nat) (x2 : Option Nat) (hk0 : h.kd t0 = 5) (hJ : J_X2_carryOut N t0 h x1 x2 = some (hz, ())) : Cv l yX2_carryOut cX2_carryOut 3 none 8 260 D cs h hz [.ref t0, va_rf x1, va_rf x2] := by
  intro mc ms g1 g2
  refine je_any (by decide) (by simp [lg_sl, rf_cat, cat_i, cat_l, cat_r]) ?_
  intro p e s m args below meth c C hin2 w ls hl
  have hl : lv_has ls 3 [(0, .ref t0), (1, va_rf x1), (2, va_rf x2)] := by simpa [lv_args, rf_cat, cat_i, cat_l, cat_r] using hl
  exact sb_X2_carryOut_0 C ⟨g1, g2⟩ N t0 h x1 x2 hJ hk0 w hl
end G_X2_carryOut
section G_X2_init
variable {p : Program} {l : Launch} {e : Env} {s : State} {m : MethodId} {args : Array Value} {below : List Frame} {meth : Method} {c : Code} {D : va_G} {cs : C4} {A : Nat → Prop} {h0 hz : Hp} {mc ms : Nat}
def B_X2_init_24 (N : Nat) (t0 : Nat) (h : Hp) (x1 : Int32) (x2 : Int32) : Option (Hp × Unit) := some (((h.sfr 506 t0 none).sfi 500 t0 x1).sfi 501 t0 x2, ())
theorem mb_X2_init_24 (N : Nat) (t0 : Nat) (h : Hp) (x1 : Int32) (x2 : Int32) (hJ : B_X2_init_24 N t0 h x1 x2 = some (hz, ())) : Mo h hz := by
  unfold B_X2_init_24 at hJ
  obtain ⟨rfl, -⟩ := rs2 hJ
  exact ⟨fun _ _ => rfl, Nat.le_refl _, Nat.le_refl _, rfl, fun _ _ => rfl⟩
set_option maxRecDepth 100000 in
set_option maxHeartbeats 4000000 in
theorem sb_X2_init_24 (C : Cx p s m args meth c cX2_init 3 none RX2 D cs A h0.se) (hin2 : meth.name = "<init>") (hz2 : hz.nx ≤ h0.nx + mc ∧ hz.su ≤ h0.su + ms) (N : Nat) (t0 : Nat) (h : Hp) (x1 : Int32) (x2 : Int32) (hJ : B_X2_init_24 N t0 h x1 x2 = some (hz, ())) (hk0 : h.kd t0 = 5) {H : Heap} {locs : List Loc} {cells slots : Nat} (w : Wo D cs A s h0 h H locs cells slots) {ls : Array Slot} (hl : lv_has ls 3 [(0, .ref t0), (1, .int x1), (2, .int x2)]) : W p l e { frames := 1, cells := mc, slots := ms, locals := 40 } s m args below meth c H locs cells slots (MQ below (Zv D cs A hz) args s mc ms A) (F0 m 24 ls []) := by
  obtain ⟨hx, hb, hml, hown, hts, -⟩ := id C
  unfold B_X2_init_24 at hJ
  refine lv_aload_n hx hb dX2_init_24 rfl (lv_at hl 0 rfl) ?_
  refine lv_null hx hb dX2_init_25 ?_
  change W _ _ _ _ _ _ _ _ _ _ _ _ _ _ _ (F0 m 26 ls [va_rf none, .ref t0])
  refine fp_506 (x := none) C w hk0 tw_5_148 dX2_init_26 (fun H locs w => ?_)
  refine lv_aload_n hx hb dX2_init_29 rfl (lv_at hl 0 rfl) ?_
  refine lv_iload_n hx hb dX2_init_30 rfl (lv_at hl 1 rfl) ?_
  refine fp_500 (x := x1) C hin2 w hk0 tw_5_137 dX2_init_31 (fun H locs w => ?_)
  refine lv_aload_n hx hb dX2_init_34 rfl (lv_at hl 0 rfl) ?_
  refine lv_iload_n hx hb dX2_init_35 rfl (lv_at hl 2 rfl) ?_
  refine fp_501 (x := x2) C hin2 w hk0 tw_5_139 dX2_init_36 (fun H locs w => ?_)
  obtain ⟨rfl, -⟩ := rs2 hJ
  exact jr_vret C w hz2 dX2_init_39
def B_X2_init_0 (N : Nat) (t0 : Nat) (h : Hp) (x1 : Int32) (x2 : Int32) : Option (Hp × Unit) := B_X2_init_24 N t0 ((((h.sfi 502 t0 (0 : Int32)).sfi 503 t0 (0 : Int32)).sfi 504 t0 (0 : Int32)).sfl 505 t0 (0 : Int64)) x1 x2
theorem mb_X2_init_0 (N : Nat) (t0 : Nat) (h : Hp) (x1 : Int32) (x2 : Int32) (hJ : B_X2_init_0 N t0 h x1 x2 = some (hz, ())) : Mo h hz := by
  unfold B_X2_init_0 at hJ
  exact (Mo.tr (show Mo h ((((h.sfi 502 t0 (0 : Int32)).sfi 503 t0 (0 : Int32)).sfi 504 t0 (0 : Int32)).sfl 505 t0 (0 : Int64)) from ⟨fun _ _ => rfl, Nat.le_refl _, Nat.le_refl _, rfl, fun _ _ => rfl⟩) (mb_X2_init_24 N t0 _ _ _ hJ))
set_option maxRecDepth 100000 in
set_option maxHeartbeats 4000000 in
theorem sb_X2_init_0 (C : Cx p s m args meth c cX2_init 3 none RX2 D cs A h0.se) (hin2 : meth.name = "<init>") (hz2 : hz.nx ≤ h0.nx + mc ∧ hz.su ≤ h0.su + ms) (N : Nat) (t0 : Nat) (h : Hp) (x1 : Int32) (x2 : Int32) (hJ : B_X2_init_0 N t0 h x1 x2 = some (hz, ())) (hk0 : h.kd t0 = 5) {H : Heap} {locs : List Loc} {cells slots : Nat} (w : Wo D cs A s h0 h H locs cells slots) {ls : Array Slot} (hl : lv_has ls 3 [(0, .ref t0), (1, .int x1), (2, .int x2)]) : W p l e { frames := 1, cells := mc, slots := ms, locals := 40 } s m args below meth c H locs cells slots (MQ below (Zv D cs A hz) args s mc ms A) (F0 m 0 ls []) := by
  obtain ⟨hx, hb, hml, hown, hts, -⟩ := id C
  unfold B_X2_init_0 at hJ
  refine lv_aload_n hx hb dX2_init_0 rfl (lv_at hl 0 rfl) ?_
  refine jc_O C tw_5_136 tw_1_41 tw_obj hl.1 (by first | exact Nat.le_of_ble_eq_true rfl | simp [rf_cat, cat_i, cat_l, cat_r]) (by decide) dX2_init_1 ?_
  refine lv_aload_n hx hb dX2_init_4 rfl (lv_at hl 0 rfl) ?_
  refine lv_iconst (v := (0 : Int32)) hx hb dX2_init_5 (by decide) ?_
  refine fp_502 (x := (0 : Int32)) C w hk0 tw_5_140 dX2_init_6 (fun H locs w => ?_)
  refine lv_aload_n hx hb dX2_init_9 rfl (lv_at hl 0 rfl) ?_
  refine lv_iconst (v := (0 : Int32)) hx hb dX2_init_10 (by decide) ?_
  refine fp_503 (x := (0 : Int32)) C w hk0 tw_5_142 dX2_init_11 (fun H locs w => ?_)
  refine lv_aload_n hx hb dX2_init_14 rfl (lv_at hl 0 rfl) ?_
  refine lv_iconst (v := (0 : Int32)) hx hb dX2_init_15 (by decide) ?_
  refine fp_504 (x := (0 : Int32)) C w hk0 (Or.inl rfl) tw_5_144 dX2_init_16 (fun H locs w => ?_)
  refine lv_aload_n hx hb dX2_init_19 rfl (lv_at hl 0 rfl) ?_
  refine lv_lconst (v := (0 : Int64)) hx hb dX2_init_20 (by decide) ?_
  refine fp_505 (x := (0 : Int64)) C w hk0 tw_5_146 dX2_init_21 (fun H locs w => ?_)
  exact sb_X2_init_24 C hin2 hz2 N t0 _ _ _ hJ hk0 w hl
def J_X2_init (N : Nat) (t0 : Nat) (h : Hp) (x1 : Int32) (x2 : Int32) : Option (Hp × Unit) := B_X2_init_0 N t0 h x1 x2
theorem mo_X2_init (N : Nat) (t0 : Nat) (h : Hp) (x1 : Int32) (x2 : Int32) (hJ : J_X2_init N t0 h x1 x2 = some (hz, ())) : Mo h hz := mb_X2_init_0 N t0 h x1 x2 hJ
theorem cd_X2_init : Cd yX2_init 2 := ⟨by decide +kernel, by decide +kernel, by decide +kernel⟩
theorem cc_X2_init (N : Nat) (t0 : Nat) (h : Hp) (x1 : Int32) (x2 : Int32) (hk0 : h.kd t0 = 5) (hJ : J_X2_init N t0 h x1 x2 = some (hz, ())) : Cv l yX2_init cX2_init 3 none 1 40 D cs h hz [.ref t0, .int x1, .int x2] := by
  intro mc ms g1 g2
  refine je_any (by decide) (by simp [lg_sl, rf_cat, cat_i, cat_l, cat_r]) ?_
  intro p e s m args below meth c C hin2 w ls hl
  have hl : lv_has ls 3 [(0, .ref t0), (1, .int x1), (2, .int x2)] := hl
  exact sb_X2_init_0 C hin2 ⟨g1, g2⟩ N t0 h x1 x2 hJ hk0 w hl
end G_X2_init
section G_X2_isLooking
variable {p : Program} {l : Launch} {e : Env} {s : State} {m : MethodId} {args : Array Value} {below : List Frame} {meth : Method} {c : Code} {D : va_G} {cs : C4} {A : Nat → Prop} {h0 hz : Hp} {mc ms : Nat} {rz : Int32}
def B_X2_isLooking_28 (N : Nat) (t0 : Nat) (h : Hp) (y0 : Int32) : Option (Hp × Int32) := ck (y0 = 0 ∨ y0 = 1) (some (h, y0))
theorem mb_X2_isLooking_28 (N : Nat) (t0 : Nat) (h : Hp) (y0 : Int32) (hJ : B_X2_isLooking_28 N t0 h y0 = some (hz, rz)) : Mo h hz := by
  unfold B_X2_isLooking_28 at hJ
  obtain ⟨-, hJ⟩ := ck_some hJ
  obtain ⟨rfl, -⟩ := rs2 hJ
  exact ⟨fun _ _ => rfl, Nat.le_refl _, Nat.le_refl _, rfl, fun _ _ => rfl⟩
set_option maxRecDepth 100000 in
set_option maxHeartbeats 4000000 in
theorem sb_X2_isLooking_28 (C : Cx p s m args meth c cX2_isLooking 1 (some .boolean) RX2 D cs A h0.se) (hz2 : hz.nx ≤ h0.nx + mc ∧ hz.su ≤ h0.su + ms) (N : Nat) (t0 : Nat) (h : Hp) (y0 : Int32) (hJ : B_X2_isLooking_28 N t0 h y0 = some (hz, rz)) (hk0 : h.kd t0 = 5) {H : Heap} {locs : List Loc} {cells slots : Nat} (w : Wo D cs A s h0 h H locs cells slots) {ls : Array Slot} (hl : lv_has ls 1 [(0, .ref t0)]) : W p l e { frames := 0, cells := mc, slots := ms, locals := 0 } s m args below meth c H locs cells slots (MQ below (Zi D cs A hz rz) args s mc ms A) (F0 m 28 ls [.int y0]) := by
  obtain ⟨hx, hb, hml, hown, hts, -⟩ := id C
  unfold B_X2_isLooking_28 at hJ
  obtain ⟨hzo1, hJ⟩ := ck_some hJ
  obtain ⟨rfl, rfl⟩ := rs2 hJ
  exact jr_zret C w hzo1 hz2 dX2_isLooking_28
def B_X2_isLooking_23 (N : Nat) (t0 : Nat) (h : Hp) : Option (Hp × Int32) := B_X2_isLooking_28 N t0 h (1 : Int32)
theorem mb_X2_isLooking_23 (N : Nat) (t0 : Nat) (h : Hp) (hJ : B_X2_isLooking_23 N t0 h = some (hz, rz)) : Mo h hz := by
  unfold B_X2_isLooking_23 at hJ
  exact mb_X2_isLooking_28 N t0 _ _ hJ
set_option maxRecDepth 100000 in
set_option maxHeartbeats 4000000 in
theorem sb_X2_isLooking_23 (C : Cx p s m args meth c cX2_isLooking 1 (some .boolean) RX2 D cs A h0.se) (hz2 : hz.nx ≤ h0.nx + mc ∧ hz.su ≤ h0.su + ms) (N : Nat) (t0 : Nat) (h : Hp) (hJ : B_X2_isLooking_23 N t0 h = some (hz, rz)) (hk0 : h.kd t0 = 5) {H : Heap} {locs : List Loc} {cells slots : Nat} (w : Wo D cs A s h0 h H locs cells slots) {ls : Array Slot} (hl : lv_has ls 1 [(0, .ref t0)]) : W p l e { frames := 0, cells := mc, slots := ms, locals := 0 } s m args below meth c H locs cells slots (MQ below (Zi D cs A hz rz) args s mc ms A) (F0 m 23 ls []) := by
  obtain ⟨hx, hb, hml, hown, hts, -⟩ := id C
  unfold B_X2_isLooking_23 at hJ
  refine lv_iconst (v := (1 : Int32)) hx hb dX2_isLooking_23 (by decide) ?_
  refine lv_goto (tgt := 28) hx hb dX2_isLooking_24 (by decide) ?_
  exact sb_X2_isLooking_28 C hz2 N t0 _ _ hJ hk0 w hl
def B_X2_isLooking_0 (N : Nat) (t0 : Nat) (h : Hp) : Option (Hp × Int32) := if (h.fi 500 t0) = 0 then (B_X2_isLooking_23 N t0 h) else (if (h.fi 500 t0) = (1 : Int32) then (B_X2_isLooking_23 N t0 h) else (if (h.fi 500 t0) = (2 : Int32) then (B_X2_isLooking_23 N t0 h) else (B_X2_isLooking_28 N t0 h (0 : Int32))))
theorem mb_X2_isLooking_0 (N : Nat) (t0 : Nat) (h : Hp) (hJ : B_X2_isLooking_0 N t0 h = some (hz, rz)) : Mo h hz := by
  unfold B_X2_isLooking_0 at hJ
  by_cases c2 : (h.fi 500 t0) = 0
  · have hJ := it_pos c2 hJ
    exact mb_X2_isLooking_23 N t0 _ hJ
  · have hJ := it_neg c2 hJ
    by_cases c3 : (h.fi 500 t0) = (1 : Int32)
    · have hJ := it_pos c3 hJ
      exact mb_X2_isLooking_23 N t0 _ hJ
    · have hJ := it_neg c3 hJ
      by_cases c4 : (h.fi 500 t0) = (2 : Int32)
      · have hJ := it_pos c4 hJ
        exact mb_X2_isLooking_23 N t0 _ hJ
      · have hJ := it_neg c4 hJ
        exact mb_X2_isLooking_28 N t0 _ _ hJ
set_option maxRecDepth 100000 in
set_option maxHeartbeats 4000000 in
theorem sb_X2_isLooking_0 (C : Cx p s m args meth c cX2_isLooking 1 (some .boolean) RX2 D cs A h0.se) (hz2 : hz.nx ≤ h0.nx + mc ∧ hz.su ≤ h0.su + ms) (N : Nat) (t0 : Nat) (h : Hp) (hJ : B_X2_isLooking_0 N t0 h = some (hz, rz)) (hk0 : h.kd t0 = 5) {H : Heap} {locs : List Loc} {cells slots : Nat} (w : Wo D cs A s h0 h H locs cells slots) {ls : Array Slot} (hl : lv_has ls 1 [(0, .ref t0)]) : W p l e { frames := 0, cells := mc, slots := ms, locals := 0 } s m args below meth c H locs cells slots (MQ below (Zi D cs A hz rz) args s mc ms A) (F0 m 0 ls []) := by
  obtain ⟨hx, hb, hml, hown, hts, -⟩ := id C
  unfold B_X2_isLooking_0 at hJ
  refine lv_aload_n hx hb dX2_isLooking_0 rfl (lv_at hl 0 rfl) ?_
  refine fg_500 C w hk0 tw_5_137 dX2_isLooking_1 ?_
  refine lv_if_eq (tgt := 23) hx hb dX2_isLooking_4 (by decide) (fun c2 => ?_) (fun c2 => ?_)
  · have hJ := it_pos c2 hJ
    exact sb_X2_isLooking_23 C hz2 N t0 _ hJ hk0 w hl
  · have hJ := it_neg c2 hJ
    refine lv_aload_n hx hb dX2_isLooking_7 rfl (lv_at hl 0 rfl) ?_
    refine fg_500 C w hk0 tw_5_137 dX2_isLooking_8 ?_
    refine lv_iconst (v := (1 : Int32)) hx hb dX2_isLooking_11 (by decide) ?_
    refine lv_icmp_eq (tgt := 23) hx hb dX2_isLooking_12 (by decide) (fun c3 => ?_) (fun c3 => ?_)
    · have hJ := it_pos c3 hJ
      exact sb_X2_isLooking_23 C hz2 N t0 _ hJ hk0 w hl
    · have hJ := it_neg c3 hJ
      refine lv_aload_n hx hb dX2_isLooking_15 rfl (lv_at hl 0 rfl) ?_
      refine fg_500 C w hk0 tw_5_137 dX2_isLooking_16 ?_
      refine lv_iconst (v := (2 : Int32)) hx hb dX2_isLooking_19 (by decide) ?_
      refine lv_icmp_ne (tgt := 27) hx hb dX2_isLooking_20 (by decide) (fun c4 => ?_) (fun c4 => ?_)
      · have hJ := it_neg c4 hJ
        refine lv_iconst (v := (0 : Int32)) hx hb dX2_isLooking_27 (by decide) ?_
        exact sb_X2_isLooking_28 C hz2 N t0 _ _ hJ hk0 w hl
      · have hJ := it_pos c4 hJ
        exact sb_X2_isLooking_23 C hz2 N t0 _ hJ hk0 w hl
def J_X2_isLooking (N : Nat) (t0 : Nat) (h : Hp) : Option (Hp × Int32) := B_X2_isLooking_0 N t0 h
theorem mo_X2_isLooking (N : Nat) (t0 : Nat) (h : Hp) (hJ : J_X2_isLooking N t0 h = some (hz, rz)) : Mo h hz := mb_X2_isLooking_0 N t0 h hJ
theorem cd_X2_isLooking : Cd yX2_isLooking 0 := ⟨by decide +kernel, by decide +kernel, by decide +kernel⟩
theorem cc_X2_isLooking (N : Nat) (t0 : Nat) (h : Hp) (hk0 : h.kd t0 = 5) (hJ : J_X2_isLooking N t0 h = some (hz, rz)) : Ci l yX2_isLooking cX2_isLooking 1 (some .boolean) 0 0 D cs h hz [.ref t0] rz := by
  intro mc ms g1 g2
  refine je_any (by decide) (by simp [lg_sl, rf_cat, cat_i, cat_l, cat_r]) ?_
  intro p e s m args below meth c C hin2 w ls hl
  have hl : lv_has ls 1 [(0, .ref t0)] := hl
  exact sb_X2_isLooking_0 C ⟨g1, g2⟩ N t0 h hJ hk0 w hl
end G_X2_isLooking
