section G_X10_keptMany
variable {p : Program} {l : Launch} {e : Env} {s : State} {m : MethodId} {args : Array Value} {below : List Frame} {meth : Method} {c : Code} {D : va_G} {cs : C4} {A : Nat → Prop} {h0 hz : Hp} {mc ms : Nat} {rz : Int32}
def B_X10_keptMany_61 (N : Nat) (k4 : Hp → Int32 → Int32 → Int32 → Option (Hp × Int32)) (t0 : Nat) (h : Hp) (x1 : Int32) (x3 : Int32) (y0 : Int32) (y1 : Int32) : Option (Hp × Int32) := k4 h x1 (y0 + y1) (x3 + (1 : Int32))
theorem mb_X10_keptMany_61 (N : Nat) (k4 : Hp → Int32 → Int32 → Int32 → Option (Hp × Int32)) (t0 : Nat) (h : Hp) (x1 : Int32) (x3 : Int32) (y0 : Int32) (y1 : Int32) (m4 : ∀ (h : Hp) (x1 : Int32) (x2 : Int32) (x3 : Int32), k4 h x1 x2 x3 = some (hz, rz) → Mo h hz) (hJ : B_X10_keptMany_61 N k4 t0 h x1 x3 y0 y1 = some (hz, rz)) : Mo h hz := by
  unfold B_X10_keptMany_61 at hJ
  exact m4 _ _ _ _ hJ
set_option maxRecDepth 100000 in
set_option maxHeartbeats 4000000 in
theorem sb_X10_keptMany_61 (C : Cx p s m args meth c cX10_keptMany 5 (some .int) RX10 D cs A h0.se) (hz2 : hz.nx ≤ h0.nx + mc ∧ hz.su ≤ h0.su + ms) (N : Nat) (k4 : Hp → Int32 → Int32 → Int32 → Option (Hp × Int32)) (t0 : Nat) (m4 : ∀ (h : Hp) (x1 : Int32) (x2 : Int32) (x3 : Int32), k4 h x1 x2 x3 = some (hz, rz) → Mo h hz) (i4 : ∀ (h : Hp) (x1 : Int32) (x2 : Int32) (x3 : Int32) (H : Heap) (locs : List Loc) (cells slots : Nat) (ls : Array Slot), k4 h x1 x2 x3 = some (hz, rz) → h.kd t0 = 13 → Wo D cs A s h0 h H locs cells slots → lv_has ls 5 [(0, .ref t0), (1, .int x1), (2, .int x2), (3, .int x3)] → W p l e { frames := 2, cells := mc, slots := ms, locals := 60 } s m args below meth c H locs cells slots (MQ below (Zi D cs A hz rz) args s mc ms A) (F0 m 4 ls [])) (h : Hp) (x1 : Int32) (x3 : Int32) (y0 : Int32) (y1 : Int32) (hJ : B_X10_keptMany_61 N k4 t0 h x1 x3 y0 y1 = some (hz, rz)) (hk0 : h.kd t0 = 13) {H : Heap} {locs : List Loc} {cells slots : Nat} (w : Wo D cs A s h0 h H locs cells slots) {ls : Array Slot} (hl : lv_has ls 5 [(0, .ref t0), (1, .int x1), (3, .int x3)]) : W p l e { frames := 2, cells := mc, slots := ms, locals := 60 } s m args below meth c H locs cells slots (MQ below (Zi D cs A hz rz) args s mc ms A) (F0 m 61 ls [.int y1, .int y0]) := by
  obtain ⟨hx, hb, hml, hown, hts, -⟩ := id C
  unfold B_X10_keptMany_61 at hJ
  refine lv_iadd hx hb dX10_keptMany_61 ?_
  refine lv_istore_n (i := 2) (lv' := [(2, .int (y0 + y1)), (0, .ref t0), (1, .int x1), (3, .int x3)]) hx hb dX10_keptMany_62 rfl hl (by decide) rfl (fun ls hl => ?_)
  refine lv_iinc (v := x3 + (1 : Int32)) (lv' := [(3, .int (x3 + (1 : Int32))), (2, .int (y0 + y1)), (0, .ref t0), (1, .int x1)]) hx hb dX10_keptMany_63 hl (k := 3) rfl rfl (by decide) rfl (fun ls hl => ?_)
  refine lv_goto (tgt := 4) hx hb dX10_keptMany_66 (by decide) ?_
  exact i4 _ _ _ _ _ _ _ _ _ hJ hk0 w (lv_sub (l' := [(0, .ref t0), (1, .int x1), (2, .int (y0 + y1)), (3, .int (x3 + (1 : Int32)))]) hl [2, 3, 1, 0] rfl)
def B_X10_keptMany_60 (N : Nat) (k4 : Hp → Int32 → Int32 → Int32 → Option (Hp × Int32)) (t0 : Nat) (h : Hp) (x1 : Int32) (x3 : Int32) (y0 : Int32) : Option (Hp × Int32) := B_X10_keptMany_61 N k4 t0 h x1 x3 y0 (0 : Int32)
theorem mb_X10_keptMany_60 (N : Nat) (k4 : Hp → Int32 → Int32 → Int32 → Option (Hp × Int32)) (t0 : Nat) (h : Hp) (x1 : Int32) (x3 : Int32) (y0 : Int32) (m4 : ∀ (h : Hp) (x1 : Int32) (x2 : Int32) (x3 : Int32), k4 h x1 x2 x3 = some (hz, rz) → Mo h hz) (hJ : B_X10_keptMany_60 N k4 t0 h x1 x3 y0 = some (hz, rz)) : Mo h hz := by
  unfold B_X10_keptMany_60 at hJ
  exact mb_X10_keptMany_61 N k4 t0 _ _ _ _ _ m4 hJ
set_option maxRecDepth 100000 in
set_option maxHeartbeats 4000000 in
theorem sb_X10_keptMany_60 (C : Cx p s m args meth c cX10_keptMany 5 (some .int) RX10 D cs A h0.se) (hz2 : hz.nx ≤ h0.nx + mc ∧ hz.su ≤ h0.su + ms) (N : Nat) (k4 : Hp → Int32 → Int32 → Int32 → Option (Hp × Int32)) (t0 : Nat) (m4 : ∀ (h : Hp) (x1 : Int32) (x2 : Int32) (x3 : Int32), k4 h x1 x2 x3 = some (hz, rz) → Mo h hz) (i4 : ∀ (h : Hp) (x1 : Int32) (x2 : Int32) (x3 : Int32) (H : Heap) (locs : List Loc) (cells slots : Nat) (ls : Array Slot), k4 h x1 x2 x3 = some (hz, rz) → h.kd t0 = 13 → Wo D cs A s h0 h H locs cells slots → lv_has ls 5 [(0, .ref t0), (1, .int x1), (2, .int x2), (3, .int x3)] → W p l e { frames := 2, cells := mc, slots := ms, locals := 60 } s m args below meth c H locs cells slots (MQ below (Zi D cs A hz rz) args s mc ms A) (F0 m 4 ls [])) (h : Hp) (x1 : Int32) (x3 : Int32) (y0 : Int32) (hJ : B_X10_keptMany_60 N k4 t0 h x1 x3 y0 = some (hz, rz)) (hk0 : h.kd t0 = 13) {H : Heap} {locs : List Loc} {cells slots : Nat} (w : Wo D cs A s h0 h H locs cells slots) {ls : Array Slot} (hl : lv_has ls 5 [(0, .ref t0), (1, .int x1), (3, .int x3)]) : W p l e { frames := 2, cells := mc, slots := ms, locals := 60 } s m args below meth c H locs cells slots (MQ below (Zi D cs A hz rz) args s mc ms A) (F0 m 60 ls [.int y0]) := by
  obtain ⟨hx, hb, hml, hown, hts, -⟩ := id C
  unfold B_X10_keptMany_60 at hJ
  refine lv_iconst (v := (0 : Int32)) hx hb dX10_keptMany_60 (by decide) ?_
  exact sb_X10_keptMany_61 C hz2 N k4 t0 m4 i4 _ _ _ _ _ hJ hk0 w hl
def B_X10_keptMany_46 (N : Nat) (k4 : Hp → Int32 → Int32 → Int32 → Option (Hp × Int32)) (t0 : Nat) (h : Hp) (x1 : Int32) (x2 : Int32) (x3 : Int32) (x4 : Int32) : Option (Hp × Int32) := if x1 = 0 then (if x4 = 0 then (B_X10_keptMany_60 N k4 t0 h x1 x3 x2) else (B_X10_keptMany_61 N k4 t0 h x1 x3 x2 (1 : Int32))) else (B_X10_keptMany_60 N k4 t0 h x1 x3 x2)
theorem mb_X10_keptMany_46 (N : Nat) (k4 : Hp → Int32 → Int32 → Int32 → Option (Hp × Int32)) (t0 : Nat) (h : Hp) (x1 : Int32) (x2 : Int32) (x3 : Int32) (x4 : Int32) (m4 : ∀ (h : Hp) (x1 : Int32) (x2 : Int32) (x3 : Int32), k4 h x1 x2 x3 = some (hz, rz) → Mo h hz) (hJ : B_X10_keptMany_46 N k4 t0 h x1 x2 x3 x4 = some (hz, rz)) : Mo h hz := by
  unfold B_X10_keptMany_46 at hJ
  by_cases c1 : x1 = 0
  · have hJ := it_pos c1 hJ
    by_cases c2 : x4 = 0
    · have hJ := it_pos c2 hJ
      exact mb_X10_keptMany_60 N k4 t0 _ _ _ _ m4 hJ
    · have hJ := it_neg c2 hJ
      exact mb_X10_keptMany_61 N k4 t0 _ _ _ _ _ m4 hJ
  · have hJ := it_neg c1 hJ
    exact mb_X10_keptMany_60 N k4 t0 _ _ _ _ m4 hJ
set_option maxRecDepth 100000 in
set_option maxHeartbeats 4000000 in
theorem sb_X10_keptMany_46 (C : Cx p s m args meth c cX10_keptMany 5 (some .int) RX10 D cs A h0.se) (hz2 : hz.nx ≤ h0.nx + mc ∧ hz.su ≤ h0.su + ms) (N : Nat) (k4 : Hp → Int32 → Int32 → Int32 → Option (Hp × Int32)) (t0 : Nat) (m4 : ∀ (h : Hp) (x1 : Int32) (x2 : Int32) (x3 : Int32), k4 h x1 x2 x3 = some (hz, rz) → Mo h hz) (i4 : ∀ (h : Hp) (x1 : Int32) (x2 : Int32) (x3 : Int32) (H : Heap) (locs : List Loc) (cells slots : Nat) (ls : Array Slot), k4 h x1 x2 x3 = some (hz, rz) → h.kd t0 = 13 → Wo D cs A s h0 h H locs cells slots → lv_has ls 5 [(0, .ref t0), (1, .int x1), (2, .int x2), (3, .int x3)] → W p l e { frames := 2, cells := mc, slots := ms, locals := 60 } s m args below meth c H locs cells slots (MQ below (Zi D cs A hz rz) args s mc ms A) (F0 m 4 ls [])) (h : Hp) (x1 : Int32) (x2 : Int32) (x3 : Int32) (x4 : Int32) (hJ : B_X10_keptMany_46 N k4 t0 h x1 x2 x3 x4 = some (hz, rz)) (hk0 : h.kd t0 = 13) {H : Heap} {locs : List Loc} {cells slots : Nat} (w : Wo D cs A s h0 h H locs cells slots) {ls : Array Slot} (hl : lv_has ls 5 [(0, .ref t0), (1, .int x1), (2, .int x2), (3, .int x3), (4, .int x4)]) : W p l e { frames := 2, cells := mc, slots := ms, locals := 60 } s m args below meth c H locs cells slots (MQ below (Zi D cs A hz rz) args s mc ms A) (F0 m 46 ls []) := by
  obtain ⟨hx, hb, hml, hown, hts, -⟩ := id C
  unfold B_X10_keptMany_46 at hJ
  refine lv_iload_n hx hb dX10_keptMany_46 rfl (lv_at hl 2 rfl) ?_
  refine lv_iload_n hx hb dX10_keptMany_47 rfl (lv_at hl 1 rfl) ?_
  refine lv_if_ne (tgt := 60) hx hb dX10_keptMany_48 (by decide) (fun c1 => ?_) (fun c1 => ?_)
  · have hJ := it_neg c1 hJ
    exact sb_X10_keptMany_60 C hz2 N k4 t0 m4 i4 _ _ _ _ hJ hk0 w (lv_sub (l' := [(0, .ref t0), (1, .int x1), (3, .int x3)]) hl [0, 1, 3] rfl)
  · have hJ := it_pos c1 hJ
    refine lv_iload hx hb dX10_keptMany_51 (lv_at hl 4 rfl) ?_
    refine lv_if_eq (tgt := 60) hx hb dX10_keptMany_53 (by decide) (fun c2 => ?_) (fun c2 => ?_)
    · have hJ := it_pos c2 hJ
      exact sb_X10_keptMany_60 C hz2 N k4 t0 m4 i4 _ _ _ _ hJ hk0 w (lv_sub (l' := [(0, .ref t0), (1, .int x1), (3, .int x3)]) hl [0, 1, 3] rfl)
    · have hJ := it_neg c2 hJ
      refine lv_iconst (v := (1 : Int32)) hx hb dX10_keptMany_56 (by decide) ?_
      refine lv_goto (tgt := 61) hx hb dX10_keptMany_57 (by decide) ?_
      exact sb_X10_keptMany_61 C hz2 N k4 t0 m4 i4 _ _ _ _ _ hJ hk0 w (lv_sub (l' := [(0, .ref t0), (1, .int x1), (3, .int x3)]) hl [0, 1, 3] rfl)
def B_X10_keptMany_44 (N : Nat) (k4 : Hp → Int32 → Int32 → Int32 → Option (Hp × Int32)) (t0 : Nat) (h : Hp) (x1 : Int32) (x3 : Int32) (x4 : Int32) (y0 : Int32) (y1 : Int32) : Option (Hp × Int32) := B_X10_keptMany_46 N k4 t0 h x1 (y0 + y1) x3 x4
theorem mb_X10_keptMany_44 (N : Nat) (k4 : Hp → Int32 → Int32 → Int32 → Option (Hp × Int32)) (t0 : Nat) (h : Hp) (x1 : Int32) (x3 : Int32) (x4 : Int32) (y0 : Int32) (y1 : Int32) (m4 : ∀ (h : Hp) (x1 : Int32) (x2 : Int32) (x3 : Int32), k4 h x1 x2 x3 = some (hz, rz) → Mo h hz) (hJ : B_X10_keptMany_44 N k4 t0 h x1 x3 x4 y0 y1 = some (hz, rz)) : Mo h hz := by
  unfold B_X10_keptMany_44 at hJ
  exact mb_X10_keptMany_46 N k4 t0 _ _ _ _ _ m4 hJ
set_option maxRecDepth 100000 in
set_option maxHeartbeats 4000000 in
theorem sb_X10_keptMany_44 (C : Cx p s m args meth c cX10_keptMany 5 (some .int) RX10 D cs A h0.se) (hz2 : hz.nx ≤ h0.nx + mc ∧ hz.su ≤ h0.su + ms) (N : Nat) (k4 : Hp → Int32 → Int32 → Int32 → Option (Hp × Int32)) (t0 : Nat) (m4 : ∀ (h : Hp) (x1 : Int32) (x2 : Int32) (x3 : Int32), k4 h x1 x2 x3 = some (hz, rz) → Mo h hz) (i4 : ∀ (h : Hp) (x1 : Int32) (x2 : Int32) (x3 : Int32) (H : Heap) (locs : List Loc) (cells slots : Nat) (ls : Array Slot), k4 h x1 x2 x3 = some (hz, rz) → h.kd t0 = 13 → Wo D cs A s h0 h H locs cells slots → lv_has ls 5 [(0, .ref t0), (1, .int x1), (2, .int x2), (3, .int x3)] → W p l e { frames := 2, cells := mc, slots := ms, locals := 60 } s m args below meth c H locs cells slots (MQ below (Zi D cs A hz rz) args s mc ms A) (F0 m 4 ls [])) (h : Hp) (x1 : Int32) (x3 : Int32) (x4 : Int32) (y0 : Int32) (y1 : Int32) (hJ : B_X10_keptMany_44 N k4 t0 h x1 x3 x4 y0 y1 = some (hz, rz)) (hk0 : h.kd t0 = 13) {H : Heap} {locs : List Loc} {cells slots : Nat} (w : Wo D cs A s h0 h H locs cells slots) {ls : Array Slot} (hl : lv_has ls 5 [(0, .ref t0), (1, .int x1), (3, .int x3), (4, .int x4)]) : W p l e { frames := 2, cells := mc, slots := ms, locals := 60 } s m args below meth c H locs cells slots (MQ below (Zi D cs A hz rz) args s mc ms A) (F0 m 44 ls [.int y1, .int y0]) := by
  obtain ⟨hx, hb, hml, hown, hts, -⟩ := id C
  unfold B_X10_keptMany_44 at hJ
  refine lv_iadd hx hb dX10_keptMany_44 ?_
  refine lv_istore_n (i := 2) (lv' := [(2, .int (y0 + y1)), (0, .ref t0), (1, .int x1), (3, .int x3), (4, .int x4)]) hx hb dX10_keptMany_45 rfl hl (by decide) rfl (fun ls hl => ?_)
  exact sb_X10_keptMany_46 C hz2 N k4 t0 m4 i4 _ _ _ _ _ hJ hk0 w (lv_sub (l' := [(0, .ref t0), (1, .int x1), (2, .int (y0 + y1)), (3, .int x3), (4, .int x4)]) hl [1, 2, 0, 3, 4] rfl)
def B_X10_keptMany_38 (N : Nat) (k4 : Hp → Int32 → Int32 → Int32 → Option (Hp × Int32)) (t0 : Nat) (h : Hp) (x1 : Int32) (x2 : Int32) (x3 : Int32) (x4 : Int32) : Option (Hp × Int32) := (J_X10_runsOf N t0 h x3).bind (fun z => B_X10_keptMany_44 N k4 t0 z.1 x1 x3 x4 x2 z.2)
theorem mb_X10_keptMany_38 (N : Nat) (k4 : Hp → Int32 → Int32 → Int32 → Option (Hp × Int32)) (t0 : Nat) (h : Hp) (x1 : Int32) (x2 : Int32) (x3 : Int32) (x4 : Int32) (m4 : ∀ (h : Hp) (x1 : Int32) (x2 : Int32) (x3 : Int32), k4 h x1 x2 x3 = some (hz, rz) → Mo h hz) (hJ : B_X10_keptMany_38 N k4 t0 h x1 x2 x3 x4 = some (hz, rz)) : Mo h hz := by
  unfold B_X10_keptMany_38 at hJ
  obtain ⟨⟨h3, r4⟩, e5, hJ⟩ := ob_some hJ
  exact (mo_X10_runsOf N t0 h x3 e5).tr (mb_X10_keptMany_44 N k4 t0 _ _ _ _ _ _ m4 hJ)
set_option maxRecDepth 100000 in
set_option maxHeartbeats 4000000 in
theorem sb_X10_keptMany_38 (C : Cx p s m args meth c cX10_keptMany 5 (some .int) RX10 D cs A h0.se) (hz2 : hz.nx ≤ h0.nx + mc ∧ hz.su ≤ h0.su + ms) (N : Nat) (k4 : Hp → Int32 → Int32 → Int32 → Option (Hp × Int32)) (t0 : Nat) (m4 : ∀ (h : Hp) (x1 : Int32) (x2 : Int32) (x3 : Int32), k4 h x1 x2 x3 = some (hz, rz) → Mo h hz) (i4 : ∀ (h : Hp) (x1 : Int32) (x2 : Int32) (x3 : Int32) (H : Heap) (locs : List Loc) (cells slots : Nat) (ls : Array Slot), k4 h x1 x2 x3 = some (hz, rz) → h.kd t0 = 13 → Wo D cs A s h0 h H locs cells slots → lv_has ls 5 [(0, .ref t0), (1, .int x1), (2, .int x2), (3, .int x3)] → W p l e { frames := 2, cells := mc, slots := ms, locals := 60 } s m args below meth c H locs cells slots (MQ below (Zi D cs A hz rz) args s mc ms A) (F0 m 4 ls [])) (h : Hp) (x1 : Int32) (x2 : Int32) (x3 : Int32) (x4 : Int32) (hJ : B_X10_keptMany_38 N k4 t0 h x1 x2 x3 x4 = some (hz, rz)) (hk0 : h.kd t0 = 13) {H : Heap} {locs : List Loc} {cells slots : Nat} (w : Wo D cs A s h0 h H locs cells slots) {ls : Array Slot} (hl : lv_has ls 5 [(0, .ref t0), (1, .int x1), (2, .int x2), (3, .int x3), (4, .int x4)]) : W p l e { frames := 2, cells := mc, slots := ms, locals := 60 } s m args below meth c H locs cells slots (MQ below (Zi D cs A hz rz) args s mc ms A) (F0 m 38 ls []) := by
  obtain ⟨hx, hb, hml, hown, hts, -⟩ := id C
  unfold B_X10_keptMany_38 at hJ
  refine lv_iload_n hx hb dX10_keptMany_38 rfl (lv_at hl 2 rfl) ?_
  refine lv_aload_n hx hb dX10_keptMany_39 rfl (lv_at hl 0 rfl) ?_
  refine lv_iload_n hx hb dX10_keptMany_40 rfl (lv_at hl 3 rfl) ?_
  obtain ⟨⟨h3, r4⟩, e5, hJ⟩ := ob_some hJ
  refine jc_Vi (As := [.int x3]) C w (cc_X10_runsOf N t0 h x3 hk0 e5) (mo_X10_runsOf N t0 h x3 e5) (mb_X10_keptMany_44 N k4 t0 _ _ _ _ _ _ m4 hJ) hz2 hk0 (by decide) rfl (fs := fs13 h t0) rfl rfl ⟨tw_8_67, tw_8_64, tw_8_66, ts_59, tw_1_7⟩ cd_X10_runsOf ⟨by decide, by decide⟩ hl.1 (by first | exact Nat.le_of_ble_eq_true rfl | simp [rf_cat, cat_i, cat_l, cat_r]) rfl dX10_keptMany_41 (fun H locs w1 => ?_)
  have hk6 := kd_keep w (mo_X10_runsOf N t0 h x3 e5) hk0 (by decide)
  have w := w1
  exact sb_X10_keptMany_44 C hz2 N k4 t0 m4 i4 _ _ _ _ _ _ hJ hk6 w (lv_sub (l' := [(0, .ref t0), (1, .int x1), (3, .int x3), (4, .int x4)]) hl [0, 1, 3, 4] rfl)
def B_X10_keptMany_17 (N : Nat) (k4 : Hp → Int32 → Int32 → Int32 → Option (Hp × Int32)) (t0 : Nat) (h : Hp) (x1 : Int32) (x2 : Int32) (x3 : Int32) (y0 : Int32) : Option (Hp × Int32) := if x1 = 0 then (B_X10_keptMany_46 N k4 t0 h x1 x2 x3 y0) else (if y0 = 0 then (dr h 30 (h.gr 1301 t0) (fun a9 => ck (¬ (x3 < 0 ∨ h.al a9 ≤ x3.toNatClampNeg)) (if (h.bi a9 x3.toNatClampNeg) = (1 : Int32) then (B_X10_keptMany_38 N k4 t0 h x1 x2 x3 y0) else (B_X10_keptMany_46 N k4 t0 h x1 x2 x3 y0)))) else (B_X10_keptMany_38 N k4 t0 h x1 x2 x3 y0))
theorem mb_X10_keptMany_17 (N : Nat) (k4 : Hp → Int32 → Int32 → Int32 → Option (Hp × Int32)) (t0 : Nat) (h : Hp) (x1 : Int32) (x2 : Int32) (x3 : Int32) (y0 : Int32) (m4 : ∀ (h : Hp) (x1 : Int32) (x2 : Int32) (x3 : Int32), k4 h x1 x2 x3 = some (hz, rz) → Mo h hz) (hJ : B_X10_keptMany_17 N k4 t0 h x1 x2 x3 y0 = some (hz, rz)) : Mo h hz := by
  unfold B_X10_keptMany_17 at hJ
  by_cases c7 : x1 = 0
  · have hJ := it_pos c7 hJ
    exact mb_X10_keptMany_46 N k4 t0 _ _ _ _ _ m4 hJ
  · have hJ := it_neg c7 hJ
    by_cases c8 : y0 = 0
    · have hJ := it_pos c8 hJ
      obtain ⟨a9, ea9, -, hJ⟩ := dr_some hJ
      obtain ⟨-, hJ⟩ := ck_some hJ
      by_cases c11 : (h.bi a9 x3.toNatClampNeg) = (1 : Int32)
      · have hJ := it_pos c11 hJ
        exact mb_X10_keptMany_38 N k4 t0 _ _ _ _ _ m4 hJ
      · have hJ := it_neg c11 hJ
        exact mb_X10_keptMany_46 N k4 t0 _ _ _ _ _ m4 hJ
    · have hJ := it_neg c8 hJ
      exact mb_X10_keptMany_38 N k4 t0 _ _ _ _ _ m4 hJ
set_option maxRecDepth 100000 in
set_option maxHeartbeats 4000000 in
theorem sb_X10_keptMany_17 (C : Cx p s m args meth c cX10_keptMany 5 (some .int) RX10 D cs A h0.se) (hz2 : hz.nx ≤ h0.nx + mc ∧ hz.su ≤ h0.su + ms) (N : Nat) (k4 : Hp → Int32 → Int32 → Int32 → Option (Hp × Int32)) (t0 : Nat) (m4 : ∀ (h : Hp) (x1 : Int32) (x2 : Int32) (x3 : Int32), k4 h x1 x2 x3 = some (hz, rz) → Mo h hz) (i4 : ∀ (h : Hp) (x1 : Int32) (x2 : Int32) (x3 : Int32) (H : Heap) (locs : List Loc) (cells slots : Nat) (ls : Array Slot), k4 h x1 x2 x3 = some (hz, rz) → h.kd t0 = 13 → Wo D cs A s h0 h H locs cells slots → lv_has ls 5 [(0, .ref t0), (1, .int x1), (2, .int x2), (3, .int x3)] → W p l e { frames := 2, cells := mc, slots := ms, locals := 60 } s m args below meth c H locs cells slots (MQ below (Zi D cs A hz rz) args s mc ms A) (F0 m 4 ls [])) (h : Hp) (x1 : Int32) (x2 : Int32) (x3 : Int32) (y0 : Int32) (hJ : B_X10_keptMany_17 N k4 t0 h x1 x2 x3 y0 = some (hz, rz)) (hk0 : h.kd t0 = 13) {H : Heap} {locs : List Loc} {cells slots : Nat} (w : Wo D cs A s h0 h H locs cells slots) {ls : Array Slot} (hl : lv_has ls 5 [(0, .ref t0), (1, .int x1), (2, .int x2), (3, .int x3)]) : W p l e { frames := 2, cells := mc, slots := ms, locals := 60 } s m args below meth c H locs cells slots (MQ below (Zi D cs A hz rz) args s mc ms A) (F0 m 17 ls [.int y0]) := by
  obtain ⟨hx, hb, hml, hown, hts, -⟩ := id C
  unfold B_X10_keptMany_17 at hJ
  refine lv_istore (i := 4) (lv' := [(4, .int y0), (0, .ref t0), (1, .int x1), (2, .int x2), (3, .int x3)]) hx hb dX10_keptMany_17 hl (by decide) rfl (fun ls hl => ?_)
  refine lv_iload_n hx hb dX10_keptMany_19 rfl (lv_at hl 2 rfl) ?_
  refine lv_if_eq (tgt := 46) hx hb dX10_keptMany_20 (by decide) (fun c7 => ?_) (fun c7 => ?_)
  · have hJ := it_pos c7 hJ
    exact sb_X10_keptMany_46 C hz2 N k4 t0 m4 i4 _ _ _ _ _ hJ hk0 w (lv_sub (l' := [(0, .ref t0), (1, .int x1), (2, .int x2), (3, .int x3), (4, .int y0)]) hl [1, 2, 3, 4, 0] rfl)
  · have hJ := it_neg c7 hJ
    refine lv_iload hx hb dX10_keptMany_23 (lv_at hl 0 rfl) ?_
    refine lv_if_ne (tgt := 38) hx hb dX10_keptMany_25 (by decide) (fun c8 => ?_) (fun c8 => ?_)
    · have hJ := it_neg c8 hJ
      exact sb_X10_keptMany_38 C hz2 N k4 t0 m4 i4 _ _ _ _ _ hJ hk0 w (lv_sub (l' := [(0, .ref t0), (1, .int x1), (2, .int x2), (3, .int x3), (4, .int y0)]) hl [1, 2, 3, 4, 0] rfl)
    · have hJ := it_pos c8 hJ
      refine lv_aload_n hx hb dX10_keptMany_28 rfl (lv_at hl 1 rfl) ?_
      refine fg_1301 C w hk0 tw_6_164 dX10_keptMany_29 ?_
      refine lv_iload_n hx hb dX10_keptMany_32 rfl (lv_at hl 4 rfl) ?_
      obtain ⟨a9, ea9, hka9, hJ⟩ := dr_some hJ
      rw [ea9]
      obtain ⟨hi10, hJ⟩ := ck_some hJ
      refine jr_ialdM C w hka9 hi10 dX10_keptMany_33 ?_
      refine lv_iconst (v := (1 : Int32)) hx hb dX10_keptMany_34 (by decide) ?_
      refine lv_icmp_ne (tgt := 46) hx hb dX10_keptMany_35 (by decide) (fun c11 => ?_) (fun c11 => ?_)
      · have hJ := it_neg c11 hJ
        exact sb_X10_keptMany_46 C hz2 N k4 t0 m4 i4 _ _ _ _ _ hJ hk0 w (lv_sub (l' := [(0, .ref t0), (1, .int x1), (2, .int x2), (3, .int x3), (4, .int y0)]) hl [1, 2, 3, 4, 0] rfl)
      · have hJ := it_pos c11 hJ
        exact sb_X10_keptMany_38 C hz2 N k4 t0 m4 i4 _ _ _ _ _ hJ hk0 w (lv_sub (l' := [(0, .ref t0), (1, .int x1), (2, .int x2), (3, .int x3), (4, .int y0)]) hl [1, 2, 3, 4, 0] rfl)
def B_X10_keptMany_4 (N : Nat) (k4 : Hp → Int32 → Int32 → Int32 → Option (Hp × Int32)) (t0 : Nat) (h : Hp) (x1 : Int32) (x2 : Int32) (x3 : Int32) : Option (Hp × Int32) := if (h.gi 1311 t0) < x3 then (some (h, x2)) else ((J_X10_isKept N t0 h x3).bind (fun z => B_X10_keptMany_17 N k4 t0 z.1 x1 x2 x3 z.2))
theorem mb_X10_keptMany_4 (N : Nat) (k4 : Hp → Int32 → Int32 → Int32 → Option (Hp × Int32)) (t0 : Nat) (h : Hp) (x1 : Int32) (x2 : Int32) (x3 : Int32) (m4 : ∀ (h : Hp) (x1 : Int32) (x2 : Int32) (x3 : Int32), k4 h x1 x2 x3 = some (hz, rz) → Mo h hz) (hJ : B_X10_keptMany_4 N k4 t0 h x1 x2 x3 = some (hz, rz)) : Mo h hz := by
  unfold B_X10_keptMany_4 at hJ
  by_cases c12 : (h.gi 1311 t0) < x3
  · have hJ := it_pos c12 hJ
    obtain ⟨rfl, -⟩ := rs2 hJ
    exact ⟨fun _ _ => rfl, Nat.le_refl _, Nat.le_refl _, rfl, fun _ _ => rfl⟩
  · have hJ := it_neg c12 hJ
    obtain ⟨⟨h13, r14⟩, e15, hJ⟩ := ob_some hJ
    exact (mo_X10_isKept N t0 h x3 e15).tr (mb_X10_keptMany_17 N k4 t0 _ _ _ _ _ m4 hJ)
set_option maxRecDepth 100000 in
set_option maxHeartbeats 4000000 in
theorem sb_X10_keptMany_4 (C : Cx p s m args meth c cX10_keptMany 5 (some .int) RX10 D cs A h0.se) (hz2 : hz.nx ≤ h0.nx + mc ∧ hz.su ≤ h0.su + ms) (N : Nat) (k4 : Hp → Int32 → Int32 → Int32 → Option (Hp × Int32)) (t0 : Nat) (m4 : ∀ (h : Hp) (x1 : Int32) (x2 : Int32) (x3 : Int32), k4 h x1 x2 x3 = some (hz, rz) → Mo h hz) (i4 : ∀ (h : Hp) (x1 : Int32) (x2 : Int32) (x3 : Int32) (H : Heap) (locs : List Loc) (cells slots : Nat) (ls : Array Slot), k4 h x1 x2 x3 = some (hz, rz) → h.kd t0 = 13 → Wo D cs A s h0 h H locs cells slots → lv_has ls 5 [(0, .ref t0), (1, .int x1), (2, .int x2), (3, .int x3)] → W p l e { frames := 2, cells := mc, slots := ms, locals := 60 } s m args below meth c H locs cells slots (MQ below (Zi D cs A hz rz) args s mc ms A) (F0 m 4 ls [])) (h : Hp) (x1 : Int32) (x2 : Int32) (x3 : Int32) (hJ : B_X10_keptMany_4 N k4 t0 h x1 x2 x3 = some (hz, rz)) (hk0 : h.kd t0 = 13) {H : Heap} {locs : List Loc} {cells slots : Nat} (w : Wo D cs A s h0 h H locs cells slots) {ls : Array Slot} (hl : lv_has ls 5 [(0, .ref t0), (1, .int x1), (2, .int x2), (3, .int x3)]) : W p l e { frames := 2, cells := mc, slots := ms, locals := 60 } s m args below meth c H locs cells slots (MQ below (Zi D cs A hz rz) args s mc ms A) (F0 m 4 ls []) := by
  obtain ⟨hx, hb, hml, hown, hts, -⟩ := id C
  unfold B_X10_keptMany_4 at hJ
  refine lv_iload_n hx hb dX10_keptMany_4 rfl (lv_at hl 3 rfl) ?_
  refine lv_aload_n hx hb dX10_keptMany_5 rfl (lv_at hl 0 rfl) ?_
  refine fg_1311 C w hk0 tw_6_174 dX10_keptMany_6 ?_
  refine lv_icmp_gt (tgt := 69) hx hb dX10_keptMany_9 (by decide) (fun c12 => ?_) (fun c12 => ?_)
  · have hJ := it_pos c12 hJ
    refine lv_iload_n hx hb dX10_keptMany_69 rfl (lv_at hl 2 rfl) ?_
    obtain ⟨rfl, rfl⟩ := rs2 hJ
    exact jr_iret C w hz2 dX10_keptMany_70
  · have hJ := it_neg c12 hJ
    refine lv_aload_n hx hb dX10_keptMany_12 rfl (lv_at hl 0 rfl) ?_
    refine lv_iload_n hx hb dX10_keptMany_13 rfl (lv_at hl 3 rfl) ?_
    obtain ⟨⟨h13, r14⟩, e15, hJ⟩ := ob_some hJ
    refine jc_Vi (As := [.int x3]) C w (cc_X10_isKept N t0 h x3 hk0 e15) (mo_X10_isKept N t0 h x3 e15) (mb_X10_keptMany_17 N k4 t0 _ _ _ _ _ m4 hJ) hz2 hk0 (by decide) rfl (fs := fs13 h t0) rfl rfl ⟨tw_8_59, tw_8_56, tw_8_58, ts_57, tw_1_7⟩ cd_X10_isKept ⟨by decide, by decide⟩ hl.1 (by first | exact Nat.le_of_ble_eq_true rfl | simp [rf_cat, cat_i, cat_l, cat_r]) rfl dX10_keptMany_14 (fun H locs w1 => ?_)
    have hk16 := kd_keep w (mo_X10_isKept N t0 h x3 e15) hk0 (by decide)
    have w := w1
    exact sb_X10_keptMany_17 C hz2 N k4 t0 m4 i4 _ _ _ _ _ hJ hk16 w hl
def L_X10_keptMany_4 (N : Nat) (t0 : Nat) : Nat → Hp → Int32 → Int32 → Int32 → Option (Hp × Int32)
  | 0 => fun _ _ _ _ => none
  | n + 1 => fun h x1 x2 x3 => B_X10_keptMany_4 N (L_X10_keptMany_4 N t0 n) t0 h x1 x2 x3
theorem ml_X10_keptMany_4 (N : Nat) (t0 : Nat) : ∀ (n : Nat) (h : Hp) (x1 : Int32) (x2 : Int32) (x3 : Int32), L_X10_keptMany_4 N t0 n h x1 x2 x3 = some (hz, rz) → Mo h hz := by
  intro n
  induction n with
  | zero => intro h x1 x2 x3 hJ; cases hJ
  | succ n ih => intro h x1 x2 x3 hJ; exact mb_X10_keptMany_4 N (L_X10_keptMany_4 N t0 n) t0 h x1 x2 x3 ih hJ
theorem sl_X10_keptMany_4 (C : Cx p s m args meth c cX10_keptMany 5 (some .int) RX10 D cs A h0.se) (hz2 : hz.nx ≤ h0.nx + mc ∧ hz.su ≤ h0.su + ms) (N : Nat) (t0 : Nat) : ∀ n : Nat, ∀ (h : Hp) (x1 : Int32) (x2 : Int32) (x3 : Int32) (H : Heap) (locs : List Loc) (cells slots : Nat) (ls : Array Slot), L_X10_keptMany_4 N t0 n h x1 x2 x3 = some (hz, rz) → h.kd t0 = 13 → Wo D cs A s h0 h H locs cells slots → lv_has ls 5 [(0, .ref t0), (1, .int x1), (2, .int x2), (3, .int x3)] → W p l e { frames := 2, cells := mc, slots := ms, locals := 60 } s m args below meth c H locs cells slots (MQ below (Zi D cs A hz rz) args s mc ms A) (F0 m 4 ls []) := by
  intro n
  induction n with
  | zero => intro h x1 x2 x3 H locs cells slots ls hJ; cases hJ
  | succ n ih =>
    intro h x1 x2 x3 H locs cells slots ls hJ hk0 w hl
    exact sb_X10_keptMany_4 C hz2 N (L_X10_keptMany_4 N t0 n) t0 (ml_X10_keptMany_4 N t0 n) ih h x1 x2 x3 hJ hk0 w hl
def B_X10_keptMany_0 (N : Nat) (t0 : Nat) (h : Hp) (x1 : Int32) : Option (Hp × Int32) := L_X10_keptMany_4 N t0 N h x1 (0 : Int32) (1 : Int32)
theorem mb_X10_keptMany_0 (N : Nat) (t0 : Nat) (h : Hp) (x1 : Int32) (hJ : B_X10_keptMany_0 N t0 h x1 = some (hz, rz)) : Mo h hz := by
  unfold B_X10_keptMany_0 at hJ
  exact ml_X10_keptMany_4 N t0 N _ _ _ _ hJ
set_option maxRecDepth 100000 in
set_option maxHeartbeats 4000000 in
theorem sb_X10_keptMany_0 (C : Cx p s m args meth c cX10_keptMany 5 (some .int) RX10 D cs A h0.se) (hz2 : hz.nx ≤ h0.nx + mc ∧ hz.su ≤ h0.su + ms) (N : Nat) (t0 : Nat) (h : Hp) (x1 : Int32) (hJ : B_X10_keptMany_0 N t0 h x1 = some (hz, rz)) (hk0 : h.kd t0 = 13) {H : Heap} {locs : List Loc} {cells slots : Nat} (w : Wo D cs A s h0 h H locs cells slots) {ls : Array Slot} (hl : lv_has ls 5 [(0, .ref t0), (1, .int x1)]) : W p l e { frames := 2, cells := mc, slots := ms, locals := 60 } s m args below meth c H locs cells slots (MQ below (Zi D cs A hz rz) args s mc ms A) (F0 m 0 ls []) := by
  obtain ⟨hx, hb, hml, hown, hts, -⟩ := id C
  unfold B_X10_keptMany_0 at hJ
  refine lv_iconst (v := (0 : Int32)) hx hb dX10_keptMany_0 (by decide) ?_
  refine lv_istore_n (i := 2) (lv' := [(2, .int (0 : Int32)), (0, .ref t0), (1, .int x1)]) hx hb dX10_keptMany_1 rfl hl (by decide) rfl (fun ls hl => ?_)
  refine lv_iconst (v := (1 : Int32)) hx hb dX10_keptMany_2 (by decide) ?_
  refine lv_istore_n (i := 3) (lv' := [(3, .int (1 : Int32)), (2, .int (0 : Int32)), (0, .ref t0), (1, .int x1)]) hx hb dX10_keptMany_3 rfl hl (by decide) rfl (fun ls hl => ?_)
  exact sl_X10_keptMany_4 C hz2 N t0 N _ _ _ _ _ _ _ _ _ hJ hk0 w (lv_sub (l' := [(0, .ref t0), (1, .int x1), (2, .int (0 : Int32)), (3, .int (1 : Int32))]) hl [2, 3, 1, 0] rfl)
def J_X10_keptMany (N : Nat) (t0 : Nat) (h : Hp) (x1 : Int32) : Option (Hp × Int32) := B_X10_keptMany_0 N t0 h x1
theorem mo_X10_keptMany (N : Nat) (t0 : Nat) (h : Hp) (x1 : Int32) (hJ : J_X10_keptMany N t0 h x1 = some (hz, rz)) : Mo h hz := mb_X10_keptMany_0 N t0 h x1 hJ
theorem cd_X10_keptMany : Cd yX10_keptMany 1 := ⟨by decide +kernel, by decide +kernel, by decide +kernel⟩
theorem cc_X10_keptMany (N : Nat) (t0 : Nat) (h : Hp) (x1 : Int32) (hk0 : h.kd t0 = 13) (hJ : J_X10_keptMany N t0 h x1 = some (hz, rz)) : Ci l yX10_keptMany cX10_keptMany 5 (some .int) 2 60 D cs h hz [.ref t0, .int x1] rz := by
  intro mc ms g1 g2
  refine je_any (by decide) (by simp [lg_sl, rf_cat, cat_i, cat_l, cat_r]) ?_
  intro p e s m args below meth c C hin2 w ls hl
  have hl : lv_has ls 5 [(0, .ref t0), (1, .int x1)] := hl
  exact sb_X10_keptMany_0 C ⟨g1, g2⟩ N t0 h x1 hJ hk0 w hl
end G_X10_keptMany
section G_X10_manyThat
variable {p : Program} {l : Launch} {e : Env} {s : State} {m : MethodId} {args : Array Value} {below : List Frame} {meth : Method} {c : Code} {D : va_G} {cs : C4} {A : Nat → Prop} {h0 hz : Hp} {mc ms : Nat} {rz : Int32}
def B_X10_manyThat_28 (N : Nat) (k4 : Hp → Int32 → Int32 → Int32 → Option (Hp × Int32)) (t0 : Nat) (h : Hp) (x1 : Int32) (x3 : Int32) (y0 : Int32) (y1 : Int32) : Option (Hp × Int32) := k4 h x1 (y0 + y1) (x3 + (1 : Int32))
theorem mb_X10_manyThat_28 (N : Nat) (k4 : Hp → Int32 → Int32 → Int32 → Option (Hp × Int32)) (t0 : Nat) (h : Hp) (x1 : Int32) (x3 : Int32) (y0 : Int32) (y1 : Int32) (m4 : ∀ (h : Hp) (x1 : Int32) (x2 : Int32) (x3 : Int32), k4 h x1 x2 x3 = some (hz, rz) → Mo h hz) (hJ : B_X10_manyThat_28 N k4 t0 h x1 x3 y0 y1 = some (hz, rz)) : Mo h hz := by
  unfold B_X10_manyThat_28 at hJ
  exact m4 _ _ _ _ hJ
set_option maxRecDepth 100000 in
set_option maxHeartbeats 4000000 in
theorem sb_X10_manyThat_28 (C : Cx p s m args meth c cX10_manyThat 4 (some .int) RX10 D cs A h0.se) (hz2 : hz.nx ≤ h0.nx + mc ∧ hz.su ≤ h0.su + ms) (N : Nat) (k4 : Hp → Int32 → Int32 → Int32 → Option (Hp × Int32)) (t0 : Nat) (m4 : ∀ (h : Hp) (x1 : Int32) (x2 : Int32) (x3 : Int32), k4 h x1 x2 x3 = some (hz, rz) → Mo h hz) (i4 : ∀ (h : Hp) (x1 : Int32) (x2 : Int32) (x3 : Int32) (H : Heap) (locs : List Loc) (cells slots : Nat) (ls : Array Slot), k4 h x1 x2 x3 = some (hz, rz) → h.kd t0 = 13 → Wo D cs A s h0 h H locs cells slots → lv_has ls 4 [(0, .ref t0), (1, .int x1), (2, .int x2), (3, .int x3)] → W p l e { frames := 0, cells := mc, slots := ms, locals := 0 } s m args below meth c H locs cells slots (MQ below (Zi D cs A hz rz) args s mc ms A) (F0 m 4 ls [])) (h : Hp) (x1 : Int32) (x3 : Int32) (y0 : Int32) (y1 : Int32) (hJ : B_X10_manyThat_28 N k4 t0 h x1 x3 y0 y1 = some (hz, rz)) (hk0 : h.kd t0 = 13) {H : Heap} {locs : List Loc} {cells slots : Nat} (w : Wo D cs A s h0 h H locs cells slots) {ls : Array Slot} (hl : lv_has ls 4 [(0, .ref t0), (1, .int x1), (3, .int x3)]) : W p l e { frames := 0, cells := mc, slots := ms, locals := 0 } s m args below meth c H locs cells slots (MQ below (Zi D cs A hz rz) args s mc ms A) (F0 m 28 ls [.int y1, .int y0]) := by
  obtain ⟨hx, hb, hml, hown, hts, -⟩ := id C
  unfold B_X10_manyThat_28 at hJ
  refine lv_iadd hx hb dX10_manyThat_28 ?_
  refine lv_istore_n (i := 2) (lv' := [(2, .int (y0 + y1)), (0, .ref t0), (1, .int x1), (3, .int x3)]) hx hb dX10_manyThat_29 rfl hl (by decide) rfl (fun ls hl => ?_)
  refine lv_iinc (v := x3 + (1 : Int32)) (lv' := [(3, .int (x3 + (1 : Int32))), (2, .int (y0 + y1)), (0, .ref t0), (1, .int x1)]) hx hb dX10_manyThat_30 hl (k := 3) rfl rfl (by decide) rfl (fun ls hl => ?_)
  refine lv_goto (tgt := 4) hx hb dX10_manyThat_33 (by decide) ?_
  exact i4 _ _ _ _ _ _ _ _ _ hJ hk0 w (lv_sub (l' := [(0, .ref t0), (1, .int x1), (2, .int (y0 + y1)), (3, .int (x3 + (1 : Int32)))]) hl [2, 3, 1, 0] rfl)
def B_X10_manyThat_4 (N : Nat) (k4 : Hp → Int32 → Int32 → Int32 → Option (Hp × Int32)) (t0 : Nat) (h : Hp) (x1 : Int32) (x2 : Int32) (x3 : Int32) : Option (Hp × Int32) := if (h.gi 1311 t0) < x3 then (some (h, x2)) else (dr h 30 (h.gr 1301 t0) (fun a2 => ck (¬ (x3 < 0 ∨ h.al a2 ≤ x3.toNatClampNeg)) (if (h.bi a2 x3.toNatClampNeg) = x1 then (B_X10_manyThat_28 N k4 t0 h x1 x3 x2 (1 : Int32)) else (B_X10_manyThat_28 N k4 t0 h x1 x3 x2 (0 : Int32)))))
theorem mb_X10_manyThat_4 (N : Nat) (k4 : Hp → Int32 → Int32 → Int32 → Option (Hp × Int32)) (t0 : Nat) (h : Hp) (x1 : Int32) (x2 : Int32) (x3 : Int32) (m4 : ∀ (h : Hp) (x1 : Int32) (x2 : Int32) (x3 : Int32), k4 h x1 x2 x3 = some (hz, rz) → Mo h hz) (hJ : B_X10_manyThat_4 N k4 t0 h x1 x2 x3 = some (hz, rz)) : Mo h hz := by
  unfold B_X10_manyThat_4 at hJ
  by_cases c1 : (h.gi 1311 t0) < x3
  · have hJ := it_pos c1 hJ
    obtain ⟨rfl, -⟩ := rs2 hJ
    exact ⟨fun _ _ => rfl, Nat.le_refl _, Nat.le_refl _, rfl, fun _ _ => rfl⟩
  · have hJ := it_neg c1 hJ
    obtain ⟨a2, ea2, -, hJ⟩ := dr_some hJ
    obtain ⟨-, hJ⟩ := ck_some hJ
    by_cases c4 : (h.bi a2 x3.toNatClampNeg) = x1
    · have hJ := it_pos c4 hJ
      exact mb_X10_manyThat_28 N k4 t0 _ _ _ _ _ m4 hJ
    · have hJ := it_neg c4 hJ
      exact mb_X10_manyThat_28 N k4 t0 _ _ _ _ _ m4 hJ
set_option maxRecDepth 100000 in
set_option maxHeartbeats 4000000 in
theorem sb_X10_manyThat_4 (C : Cx p s m args meth c cX10_manyThat 4 (some .int) RX10 D cs A h0.se) (hz2 : hz.nx ≤ h0.nx + mc ∧ hz.su ≤ h0.su + ms) (N : Nat) (k4 : Hp → Int32 → Int32 → Int32 → Option (Hp × Int32)) (t0 : Nat) (m4 : ∀ (h : Hp) (x1 : Int32) (x2 : Int32) (x3 : Int32), k4 h x1 x2 x3 = some (hz, rz) → Mo h hz) (i4 : ∀ (h : Hp) (x1 : Int32) (x2 : Int32) (x3 : Int32) (H : Heap) (locs : List Loc) (cells slots : Nat) (ls : Array Slot), k4 h x1 x2 x3 = some (hz, rz) → h.kd t0 = 13 → Wo D cs A s h0 h H locs cells slots → lv_has ls 4 [(0, .ref t0), (1, .int x1), (2, .int x2), (3, .int x3)] → W p l e { frames := 0, cells := mc, slots := ms, locals := 0 } s m args below meth c H locs cells slots (MQ below (Zi D cs A hz rz) args s mc ms A) (F0 m 4 ls [])) (h : Hp) (x1 : Int32) (x2 : Int32) (x3 : Int32) (hJ : B_X10_manyThat_4 N k4 t0 h x1 x2 x3 = some (hz, rz)) (hk0 : h.kd t0 = 13) {H : Heap} {locs : List Loc} {cells slots : Nat} (w : Wo D cs A s h0 h H locs cells slots) {ls : Array Slot} (hl : lv_has ls 4 [(0, .ref t0), (1, .int x1), (2, .int x2), (3, .int x3)]) : W p l e { frames := 0, cells := mc, slots := ms, locals := 0 } s m args below meth c H locs cells slots (MQ below (Zi D cs A hz rz) args s mc ms A) (F0 m 4 ls []) := by
  obtain ⟨hx, hb, hml, hown, hts, -⟩ := id C
  unfold B_X10_manyThat_4 at hJ
  refine lv_iload_n hx hb dX10_manyThat_4 rfl (lv_at hl 3 rfl) ?_
  refine lv_aload_n hx hb dX10_manyThat_5 rfl (lv_at hl 0 rfl) ?_
  refine fg_1311 C w hk0 tw_6_174 dX10_manyThat_6 ?_
  refine lv_icmp_gt (tgt := 36) hx hb dX10_manyThat_9 (by decide) (fun c1 => ?_) (fun c1 => ?_)
  · have hJ := it_pos c1 hJ
    refine lv_iload_n hx hb dX10_manyThat_36 rfl (lv_at hl 2 rfl) ?_
    obtain ⟨rfl, rfl⟩ := rs2 hJ
    exact jr_iret C w hz2 dX10_manyThat_37
  · have hJ := it_neg c1 hJ
    refine lv_iload_n hx hb dX10_manyThat_12 rfl (lv_at hl 2 rfl) ?_
    refine lv_aload_n hx hb dX10_manyThat_13 rfl (lv_at hl 0 rfl) ?_
    refine fg_1301 C w hk0 tw_6_164 dX10_manyThat_14 ?_
    refine lv_iload_n hx hb dX10_manyThat_17 rfl (lv_at hl 3 rfl) ?_
    obtain ⟨a2, ea2, hka2, hJ⟩ := dr_some hJ
    rw [ea2]
    obtain ⟨hi3, hJ⟩ := ck_some hJ
    refine jr_ialdM C w hka2 hi3 dX10_manyThat_18 ?_
    refine lv_iload_n hx hb dX10_manyThat_19 rfl (lv_at hl 1 rfl) ?_
    refine lv_icmp_ne (tgt := 27) hx hb dX10_manyThat_20 (by decide) (fun c4 => ?_) (fun c4 => ?_)
    · have hJ := it_neg c4 hJ
      refine lv_iconst (v := (0 : Int32)) hx hb dX10_manyThat_27 (by decide) ?_
      exact sb_X10_manyThat_28 C hz2 N k4 t0 m4 i4 _ _ _ _ _ hJ hk0 w (lv_sub (l' := [(0, .ref t0), (1, .int x1), (3, .int x3)]) hl [0, 1, 3] rfl)
    · have hJ := it_pos c4 hJ
      refine lv_iconst (v := (1 : Int32)) hx hb dX10_manyThat_23 (by decide) ?_
      refine lv_goto (tgt := 28) hx hb dX10_manyThat_24 (by decide) ?_
      exact sb_X10_manyThat_28 C hz2 N k4 t0 m4 i4 _ _ _ _ _ hJ hk0 w (lv_sub (l' := [(0, .ref t0), (1, .int x1), (3, .int x3)]) hl [0, 1, 3] rfl)
def L_X10_manyThat_4 (N : Nat) (t0 : Nat) : Nat → Hp → Int32 → Int32 → Int32 → Option (Hp × Int32)
  | 0 => fun _ _ _ _ => none
  | n + 1 => fun h x1 x2 x3 => B_X10_manyThat_4 N (L_X10_manyThat_4 N t0 n) t0 h x1 x2 x3
theorem ml_X10_manyThat_4 (N : Nat) (t0 : Nat) : ∀ (n : Nat) (h : Hp) (x1 : Int32) (x2 : Int32) (x3 : Int32), L_X10_manyThat_4 N t0 n h x1 x2 x3 = some (hz, rz) → Mo h hz := by
  intro n
  induction n with
  | zero => intro h x1 x2 x3 hJ; cases hJ
  | succ n ih => intro h x1 x2 x3 hJ; exact mb_X10_manyThat_4 N (L_X10_manyThat_4 N t0 n) t0 h x1 x2 x3 ih hJ
theorem sl_X10_manyThat_4 (C : Cx p s m args meth c cX10_manyThat 4 (some .int) RX10 D cs A h0.se) (hz2 : hz.nx ≤ h0.nx + mc ∧ hz.su ≤ h0.su + ms) (N : Nat) (t0 : Nat) : ∀ n : Nat, ∀ (h : Hp) (x1 : Int32) (x2 : Int32) (x3 : Int32) (H : Heap) (locs : List Loc) (cells slots : Nat) (ls : Array Slot), L_X10_manyThat_4 N t0 n h x1 x2 x3 = some (hz, rz) → h.kd t0 = 13 → Wo D cs A s h0 h H locs cells slots → lv_has ls 4 [(0, .ref t0), (1, .int x1), (2, .int x2), (3, .int x3)] → W p l e { frames := 0, cells := mc, slots := ms, locals := 0 } s m args below meth c H locs cells slots (MQ below (Zi D cs A hz rz) args s mc ms A) (F0 m 4 ls []) := by
  intro n
  induction n with
  | zero => intro h x1 x2 x3 H locs cells slots ls hJ; cases hJ
  | succ n ih =>
    intro h x1 x2 x3 H locs cells slots ls hJ hk0 w hl
    exact sb_X10_manyThat_4 C hz2 N (L_X10_manyThat_4 N t0 n) t0 (ml_X10_manyThat_4 N t0 n) ih h x1 x2 x3 hJ hk0 w hl
def B_X10_manyThat_0 (N : Nat) (t0 : Nat) (h : Hp) (x1 : Int32) : Option (Hp × Int32) := L_X10_manyThat_4 N t0 N h x1 (0 : Int32) (1 : Int32)
theorem mb_X10_manyThat_0 (N : Nat) (t0 : Nat) (h : Hp) (x1 : Int32) (hJ : B_X10_manyThat_0 N t0 h x1 = some (hz, rz)) : Mo h hz := by
  unfold B_X10_manyThat_0 at hJ
  exact ml_X10_manyThat_4 N t0 N _ _ _ _ hJ
set_option maxRecDepth 100000 in
set_option maxHeartbeats 4000000 in
theorem sb_X10_manyThat_0 (C : Cx p s m args meth c cX10_manyThat 4 (some .int) RX10 D cs A h0.se) (hz2 : hz.nx ≤ h0.nx + mc ∧ hz.su ≤ h0.su + ms) (N : Nat) (t0 : Nat) (h : Hp) (x1 : Int32) (hJ : B_X10_manyThat_0 N t0 h x1 = some (hz, rz)) (hk0 : h.kd t0 = 13) {H : Heap} {locs : List Loc} {cells slots : Nat} (w : Wo D cs A s h0 h H locs cells slots) {ls : Array Slot} (hl : lv_has ls 4 [(0, .ref t0), (1, .int x1)]) : W p l e { frames := 0, cells := mc, slots := ms, locals := 0 } s m args below meth c H locs cells slots (MQ below (Zi D cs A hz rz) args s mc ms A) (F0 m 0 ls []) := by
  obtain ⟨hx, hb, hml, hown, hts, -⟩ := id C
  unfold B_X10_manyThat_0 at hJ
  refine lv_iconst (v := (0 : Int32)) hx hb dX10_manyThat_0 (by decide) ?_
  refine lv_istore_n (i := 2) (lv' := [(2, .int (0 : Int32)), (0, .ref t0), (1, .int x1)]) hx hb dX10_manyThat_1 rfl hl (by decide) rfl (fun ls hl => ?_)
  refine lv_iconst (v := (1 : Int32)) hx hb dX10_manyThat_2 (by decide) ?_
  refine lv_istore_n (i := 3) (lv' := [(3, .int (1 : Int32)), (2, .int (0 : Int32)), (0, .ref t0), (1, .int x1)]) hx hb dX10_manyThat_3 rfl hl (by decide) rfl (fun ls hl => ?_)
  exact sl_X10_manyThat_4 C hz2 N t0 N _ _ _ _ _ _ _ _ _ hJ hk0 w (lv_sub (l' := [(0, .ref t0), (1, .int x1), (2, .int (0 : Int32)), (3, .int (1 : Int32))]) hl [2, 3, 1, 0] rfl)
def J_X10_manyThat (N : Nat) (t0 : Nat) (h : Hp) (x1 : Int32) : Option (Hp × Int32) := B_X10_manyThat_0 N t0 h x1
theorem mo_X10_manyThat (N : Nat) (t0 : Nat) (h : Hp) (x1 : Int32) (hJ : J_X10_manyThat N t0 h x1 = some (hz, rz)) : Mo h hz := mb_X10_manyThat_0 N t0 h x1 hJ
theorem cd_X10_manyThat : Cd yX10_manyThat 1 := ⟨by decide +kernel, by decide +kernel, by decide +kernel⟩
theorem cc_X10_manyThat (N : Nat) (t0 : Nat) (h : Hp) (x1 : Int32) (hk0 : h.kd t0 = 13) (hJ : J_X10_manyThat N t0 h x1 = some (hz, rz)) : Ci l yX10_manyThat cX10_manyThat 4 (some .int) 0 0 D cs h hz [.ref t0, .int x1] rz := by
  intro mc ms g1 g2
  refine je_any (by decide) (by simp [lg_sl, rf_cat, cat_i, cat_l, cat_r]) ?_
  intro p e s m args below meth c C hin2 w ls hl
  have hl : lv_has ls 4 [(0, .ref t0), (1, .int x1)] := hl
  exact sb_X10_manyThat_0 C ⟨g1, g2⟩ N t0 h x1 hJ hk0 w hl
end G_X10_manyThat
section G_X10_versionMany
variable {p : Program} {l : Launch} {e : Env} {s : State} {m : MethodId} {args : Array Value} {below : List Frame} {meth : Method} {c : Code} {D : va_G} {cs : C4} {A : Nat → Prop} {h0 hz : Hp} {mc ms : Nat} {rz : Int32}
def B_X10_versionMany_70 (N : Nat) (k10 : Hp → Int32 → Int32 → Int32 → Int32 → Option (Hp × Int32)) (t0 : Nat) (h : Hp) (x1 : Int32) (x2 : Int32) (x3 : Int32) (x4 : Int32) : Option (Hp × Int32) := k10 h x1 x2 x3 (x4 + (1 : Int32))
theorem mb_X10_versionMany_70 (N : Nat) (k10 : Hp → Int32 → Int32 → Int32 → Int32 → Option (Hp × Int32)) (t0 : Nat) (h : Hp) (x1 : Int32) (x2 : Int32) (x3 : Int32) (x4 : Int32) (m10 : ∀ (h : Hp) (x1 : Int32) (x2 : Int32) (x3 : Int32) (x4 : Int32), k10 h x1 x2 x3 x4 = some (hz, rz) → Mo h hz) (hJ : B_X10_versionMany_70 N k10 t0 h x1 x2 x3 x4 = some (hz, rz)) : Mo h hz := by
  unfold B_X10_versionMany_70 at hJ
  exact m10 _ _ _ _ _ hJ
set_option maxRecDepth 100000 in
set_option maxHeartbeats 4000000 in
theorem sb_X10_versionMany_70 (C : Cx p s m args meth c cX10_versionMany 6 (some .int) RX10 D cs A h0.se) (hz2 : hz.nx ≤ h0.nx + mc ∧ hz.su ≤ h0.su + ms) (N : Nat) (k10 : Hp → Int32 → Int32 → Int32 → Int32 → Option (Hp × Int32)) (t0 : Nat) (m10 : ∀ (h : Hp) (x1 : Int32) (x2 : Int32) (x3 : Int32) (x4 : Int32), k10 h x1 x2 x3 x4 = some (hz, rz) → Mo h hz) (i10 : ∀ (h : Hp) (x1 : Int32) (x2 : Int32) (x3 : Int32) (x4 : Int32) (H : Heap) (locs : List Loc) (cells slots : Nat) (ls : Array Slot), k10 h x1 x2 x3 x4 = some (hz, rz) → h.kd t0 = 13 → Wo D cs A s h0 h H locs cells slots → lv_has ls 6 [(0, .ref t0), (1, .int x1), (2, .int x2), (3, .int x3), (4, .int x4)] → W p l e { frames := 4, cells := mc, slots := ms, locals := 120 } s m args below meth c H locs cells slots (MQ below (Zi D cs A hz rz) args s mc ms A) (F0 m 10 ls [])) (h : Hp) (x1 : Int32) (x2 : Int32) (x3 : Int32) (x4 : Int32) (hJ : B_X10_versionMany_70 N k10 t0 h x1 x2 x3 x4 = some (hz, rz)) (hk0 : h.kd t0 = 13) {H : Heap} {locs : List Loc} {cells slots : Nat} (w : Wo D cs A s h0 h H locs cells slots) {ls : Array Slot} (hl : lv_has ls 6 [(0, .ref t0), (1, .int x1), (2, .int x2), (3, .int x3), (4, .int x4)]) : W p l e { frames := 4, cells := mc, slots := ms, locals := 120 } s m args below meth c H locs cells slots (MQ below (Zi D cs A hz rz) args s mc ms A) (F0 m 70 ls []) := by
  obtain ⟨hx, hb, hml, hown, hts, -⟩ := id C
  unfold B_X10_versionMany_70 at hJ
  refine lv_iinc (v := x4 + (1 : Int32)) (lv' := [(4, .int (x4 + (1 : Int32))), (0, .ref t0), (1, .int x1), (2, .int x2), (3, .int x3)]) hx hb dX10_versionMany_70 hl (k := 4) rfl rfl (by decide) rfl (fun ls hl => ?_)
  refine lv_goto (tgt := 10) hx hb dX10_versionMany_73 (by decide) ?_
  exact i10 _ _ _ _ _ _ _ _ _ _ hJ hk0 w (lv_sub (l' := [(0, .ref t0), (1, .int x1), (2, .int x2), (3, .int x3), (4, .int (x4 + (1 : Int32)))]) hl [1, 2, 3, 4, 0] rfl)
def B_X10_versionMany_68 (N : Nat) (k10 : Hp → Int32 → Int32 → Int32 → Int32 → Option (Hp × Int32)) (t0 : Nat) (h : Hp) (x1 : Int32) (x3 : Int32) (x4 : Int32) (y0 : Int32) (y1 : Int32) : Option (Hp × Int32) := B_X10_versionMany_70 N k10 t0 h x1 (y0 + y1) x3 x4
theorem mb_X10_versionMany_68 (N : Nat) (k10 : Hp → Int32 → Int32 → Int32 → Int32 → Option (Hp × Int32)) (t0 : Nat) (h : Hp) (x1 : Int32) (x3 : Int32) (x4 : Int32) (y0 : Int32) (y1 : Int32) (m10 : ∀ (h : Hp) (x1 : Int32) (x2 : Int32) (x3 : Int32) (x4 : Int32), k10 h x1 x2 x3 x4 = some (hz, rz) → Mo h hz) (hJ : B_X10_versionMany_68 N k10 t0 h x1 x3 x4 y0 y1 = some (hz, rz)) : Mo h hz := by
  unfold B_X10_versionMany_68 at hJ
  exact mb_X10_versionMany_70 N k10 t0 _ _ _ _ _ m10 hJ
set_option maxRecDepth 100000 in
set_option maxHeartbeats 4000000 in
theorem sb_X10_versionMany_68 (C : Cx p s m args meth c cX10_versionMany 6 (some .int) RX10 D cs A h0.se) (hz2 : hz.nx ≤ h0.nx + mc ∧ hz.su ≤ h0.su + ms) (N : Nat) (k10 : Hp → Int32 → Int32 → Int32 → Int32 → Option (Hp × Int32)) (t0 : Nat) (m10 : ∀ (h : Hp) (x1 : Int32) (x2 : Int32) (x3 : Int32) (x4 : Int32), k10 h x1 x2 x3 x4 = some (hz, rz) → Mo h hz) (i10 : ∀ (h : Hp) (x1 : Int32) (x2 : Int32) (x3 : Int32) (x4 : Int32) (H : Heap) (locs : List Loc) (cells slots : Nat) (ls : Array Slot), k10 h x1 x2 x3 x4 = some (hz, rz) → h.kd t0 = 13 → Wo D cs A s h0 h H locs cells slots → lv_has ls 6 [(0, .ref t0), (1, .int x1), (2, .int x2), (3, .int x3), (4, .int x4)] → W p l e { frames := 4, cells := mc, slots := ms, locals := 120 } s m args below meth c H locs cells slots (MQ below (Zi D cs A hz rz) args s mc ms A) (F0 m 10 ls [])) (h : Hp) (x1 : Int32) (x3 : Int32) (x4 : Int32) (y0 : Int32) (y1 : Int32) (hJ : B_X10_versionMany_68 N k10 t0 h x1 x3 x4 y0 y1 = some (hz, rz)) (hk0 : h.kd t0 = 13) {H : Heap} {locs : List Loc} {cells slots : Nat} (w : Wo D cs A s h0 h H locs cells slots) {ls : Array Slot} (hl : lv_has ls 6 [(0, .ref t0), (1, .int x1), (3, .int x3), (4, .int x4)]) : W p l e { frames := 4, cells := mc, slots := ms, locals := 120 } s m args below meth c H locs cells slots (MQ below (Zi D cs A hz rz) args s mc ms A) (F0 m 68 ls [.int y1, .int y0]) := by
  obtain ⟨hx, hb, hml, hown, hts, -⟩ := id C
  unfold B_X10_versionMany_68 at hJ
  refine lv_iadd hx hb dX10_versionMany_68 ?_
  refine lv_istore_n (i := 2) (lv' := [(2, .int (y0 + y1)), (0, .ref t0), (1, .int x1), (3, .int x3), (4, .int x4)]) hx hb dX10_versionMany_69 rfl hl (by decide) rfl (fun ls hl => ?_)
  exact sb_X10_versionMany_70 C hz2 N k10 t0 m10 i10 _ _ _ _ _ hJ hk0 w (lv_sub (l' := [(0, .ref t0), (1, .int x1), (2, .int (y0 + y1)), (3, .int x3), (4, .int x4)]) hl [1, 2, 0, 3, 4] rfl)
def B_X10_versionMany_63 (N : Nat) (k10 : Hp → Int32 → Int32 → Int32 → Int32 → Option (Hp × Int32)) (t0 : Nat) (h : Hp) (x1 : Int32) (x3 : Int32) (x4 : Int32) (y0 : Int32) : Option (Hp × Int32) := B_X10_versionMany_68 N k10 t0 h x1 x3 x4 y0 (1 : Int32)
theorem mb_X10_versionMany_63 (N : Nat) (k10 : Hp → Int32 → Int32 → Int32 → Int32 → Option (Hp × Int32)) (t0 : Nat) (h : Hp) (x1 : Int32) (x3 : Int32) (x4 : Int32) (y0 : Int32) (m10 : ∀ (h : Hp) (x1 : Int32) (x2 : Int32) (x3 : Int32) (x4 : Int32), k10 h x1 x2 x3 x4 = some (hz, rz) → Mo h hz) (hJ : B_X10_versionMany_63 N k10 t0 h x1 x3 x4 y0 = some (hz, rz)) : Mo h hz := by
  unfold B_X10_versionMany_63 at hJ
  exact mb_X10_versionMany_68 N k10 t0 _ _ _ _ _ _ m10 hJ
set_option maxRecDepth 100000 in
set_option maxHeartbeats 4000000 in
theorem sb_X10_versionMany_63 (C : Cx p s m args meth c cX10_versionMany 6 (some .int) RX10 D cs A h0.se) (hz2 : hz.nx ≤ h0.nx + mc ∧ hz.su ≤ h0.su + ms) (N : Nat) (k10 : Hp → Int32 → Int32 → Int32 → Int32 → Option (Hp × Int32)) (t0 : Nat) (m10 : ∀ (h : Hp) (x1 : Int32) (x2 : Int32) (x3 : Int32) (x4 : Int32), k10 h x1 x2 x3 x4 = some (hz, rz) → Mo h hz) (i10 : ∀ (h : Hp) (x1 : Int32) (x2 : Int32) (x3 : Int32) (x4 : Int32) (H : Heap) (locs : List Loc) (cells slots : Nat) (ls : Array Slot), k10 h x1 x2 x3 x4 = some (hz, rz) → h.kd t0 = 13 → Wo D cs A s h0 h H locs cells slots → lv_has ls 6 [(0, .ref t0), (1, .int x1), (2, .int x2), (3, .int x3), (4, .int x4)] → W p l e { frames := 4, cells := mc, slots := ms, locals := 120 } s m args below meth c H locs cells slots (MQ below (Zi D cs A hz rz) args s mc ms A) (F0 m 10 ls [])) (h : Hp) (x1 : Int32) (x3 : Int32) (x4 : Int32) (y0 : Int32) (hJ : B_X10_versionMany_63 N k10 t0 h x1 x3 x4 y0 = some (hz, rz)) (hk0 : h.kd t0 = 13) {H : Heap} {locs : List Loc} {cells slots : Nat} (w : Wo D cs A s h0 h H locs cells slots) {ls : Array Slot} (hl : lv_has ls 6 [(0, .ref t0), (1, .int x1), (3, .int x3), (4, .int x4)]) : W p l e { frames := 4, cells := mc, slots := ms, locals := 120 } s m args below meth c H locs cells slots (MQ below (Zi D cs A hz rz) args s mc ms A) (F0 m 63 ls [.int y0]) := by
  obtain ⟨hx, hb, hml, hown, hts, -⟩ := id C
  unfold B_X10_versionMany_63 at hJ
  refine lv_iconst (v := (1 : Int32)) hx hb dX10_versionMany_63 (by decide) ?_
  refine lv_goto (tgt := 68) hx hb dX10_versionMany_64 (by decide) ?_
  exact sb_X10_versionMany_68 C hz2 N k10 t0 m10 i10 _ _ _ _ _ _ hJ hk0 w hl
def B_X10_versionMany_51 (N : Nat) (k10 : Hp → Int32 → Int32 → Int32 → Int32 → Option (Hp × Int32)) (t0 : Nat) (h : Hp) (x1 : Int32) (x2 : Int32) (x3 : Int32) (x4 : Int32) (y0 : Int32) : Option (Hp × Int32) := if x1 = 0 then (B_X10_versionMany_63 N k10 t0 h x1 x3 x4 x2) else (if y0 = 0 then (B_X10_versionMany_68 N k10 t0 h x1 x3 x4 x2 (0 : Int32)) else (B_X10_versionMany_63 N k10 t0 h x1 x3 x4 x2))
theorem mb_X10_versionMany_51 (N : Nat) (k10 : Hp → Int32 → Int32 → Int32 → Int32 → Option (Hp × Int32)) (t0 : Nat) (h : Hp) (x1 : Int32) (x2 : Int32) (x3 : Int32) (x4 : Int32) (y0 : Int32) (m10 : ∀ (h : Hp) (x1 : Int32) (x2 : Int32) (x3 : Int32) (x4 : Int32), k10 h x1 x2 x3 x4 = some (hz, rz) → Mo h hz) (hJ : B_X10_versionMany_51 N k10 t0 h x1 x2 x3 x4 y0 = some (hz, rz)) : Mo h hz := by
  unfold B_X10_versionMany_51 at hJ
  by_cases c1 : x1 = 0
  · have hJ := it_pos c1 hJ
    exact mb_X10_versionMany_63 N k10 t0 _ _ _ _ _ m10 hJ
  · have hJ := it_neg c1 hJ
    by_cases c2 : y0 = 0
    · have hJ := it_pos c2 hJ
      exact mb_X10_versionMany_68 N k10 t0 _ _ _ _ _ _ m10 hJ
    · have hJ := it_neg c2 hJ
      exact mb_X10_versionMany_63 N k10 t0 _ _ _ _ _ m10 hJ
set_option maxRecDepth 100000 in
set_option maxHeartbeats 4000000 in
theorem sb_X10_versionMany_51 (C : Cx p s m args meth c cX10_versionMany 6 (some .int) RX10 D cs A h0.se) (hz2 : hz.nx ≤ h0.nx + mc ∧ hz.su ≤ h0.su + ms) (N : Nat) (k10 : Hp → Int32 → Int32 → Int32 → Int32 → Option (Hp × Int32)) (t0 : Nat) (m10 : ∀ (h : Hp) (x1 : Int32) (x2 : Int32) (x3 : Int32) (x4 : Int32), k10 h x1 x2 x3 x4 = some (hz, rz) → Mo h hz) (i10 : ∀ (h : Hp) (x1 : Int32) (x2 : Int32) (x3 : Int32) (x4 : Int32) (H : Heap) (locs : List Loc) (cells slots : Nat) (ls : Array Slot), k10 h x1 x2 x3 x4 = some (hz, rz) → h.kd t0 = 13 → Wo D cs A s h0 h H locs cells slots → lv_has ls 6 [(0, .ref t0), (1, .int x1), (2, .int x2), (3, .int x3), (4, .int x4)] → W p l e { frames := 4, cells := mc, slots := ms, locals := 120 } s m args below meth c H locs cells slots (MQ below (Zi D cs A hz rz) args s mc ms A) (F0 m 10 ls [])) (h : Hp) (x1 : Int32) (x2 : Int32) (x3 : Int32) (x4 : Int32) (y0 : Int32) (hJ : B_X10_versionMany_51 N k10 t0 h x1 x2 x3 x4 y0 = some (hz, rz)) (hk0 : h.kd t0 = 13) {H : Heap} {locs : List Loc} {cells slots : Nat} (w : Wo D cs A s h0 h H locs cells slots) {ls : Array Slot} (hl : lv_has ls 6 [(0, .ref t0), (1, .int x1), (2, .int x2), (3, .int x3), (4, .int x4)]) : W p l e { frames := 4, cells := mc, slots := ms, locals := 120 } s m args below meth c H locs cells slots (MQ below (Zi D cs A hz rz) args s mc ms A) (F0 m 51 ls [.int y0]) := by
  obtain ⟨hx, hb, hml, hown, hts, -⟩ := id C
  unfold B_X10_versionMany_51 at hJ
  refine lv_istore (i := 5) (lv' := [(5, .int y0), (0, .ref t0), (1, .int x1), (2, .int x2), (3, .int x3), (4, .int x4)]) hx hb dX10_versionMany_51 hl (by decide) rfl (fun ls hl => ?_)
  refine lv_iload_n hx hb dX10_versionMany_53 rfl (lv_at hl 3 rfl) ?_
  refine lv_iload_n hx hb dX10_versionMany_54 rfl (lv_at hl 2 rfl) ?_
  refine lv_if_eq (tgt := 63) hx hb dX10_versionMany_55 (by decide) (fun c1 => ?_) (fun c1 => ?_)
  · have hJ := it_pos c1 hJ
    exact sb_X10_versionMany_63 C hz2 N k10 t0 m10 i10 _ _ _ _ _ hJ hk0 w (lv_sub (l' := [(0, .ref t0), (1, .int x1), (3, .int x3), (4, .int x4)]) hl [1, 2, 4, 5] rfl)
  · have hJ := it_neg c1 hJ
    refine lv_iload hx hb dX10_versionMany_58 (lv_at hl 0 rfl) ?_
    refine lv_if_eq (tgt := 67) hx hb dX10_versionMany_60 (by decide) (fun c2 => ?_) (fun c2 => ?_)
    · have hJ := it_pos c2 hJ
      refine lv_iconst (v := (0 : Int32)) hx hb dX10_versionMany_67 (by decide) ?_
      exact sb_X10_versionMany_68 C hz2 N k10 t0 m10 i10 _ _ _ _ _ _ hJ hk0 w (lv_sub (l' := [(0, .ref t0), (1, .int x1), (3, .int x3), (4, .int x4)]) hl [1, 2, 4, 5] rfl)
    · have hJ := it_neg c2 hJ
      exact sb_X10_versionMany_63 C hz2 N k10 t0 m10 i10 _ _ _ _ _ hJ hk0 w (lv_sub (l' := [(0, .ref t0), (1, .int x1), (3, .int x3), (4, .int x4)]) hl [1, 2, 4, 5] rfl)
def B_X10_versionMany_41 (N : Nat) (k10 : Hp → Int32 → Int32 → Int32 → Int32 → Option (Hp × Int32)) (t0 : Nat) (h : Hp) (x1 : Int32) (x2 : Int32) (x3 : Int32) (x4 : Int32) (y0 : Int32) : Option (Hp × Int32) := if y0 = x4 then (B_X10_versionMany_51 N k10 t0 h x1 x2 x3 x4 (1 : Int32)) else (B_X10_versionMany_51 N k10 t0 h x1 x2 x3 x4 (0 : Int32))
theorem mb_X10_versionMany_41 (N : Nat) (k10 : Hp → Int32 → Int32 → Int32 → Int32 → Option (Hp × Int32)) (t0 : Nat) (h : Hp) (x1 : Int32) (x2 : Int32) (x3 : Int32) (x4 : Int32) (y0 : Int32) (m10 : ∀ (h : Hp) (x1 : Int32) (x2 : Int32) (x3 : Int32) (x4 : Int32), k10 h x1 x2 x3 x4 = some (hz, rz) → Mo h hz) (hJ : B_X10_versionMany_41 N k10 t0 h x1 x2 x3 x4 y0 = some (hz, rz)) : Mo h hz := by
  unfold B_X10_versionMany_41 at hJ
  by_cases c3 : y0 = x4
  · have hJ := it_pos c3 hJ
    exact mb_X10_versionMany_51 N k10 t0 _ _ _ _ _ _ m10 hJ
  · have hJ := it_neg c3 hJ
    exact mb_X10_versionMany_51 N k10 t0 _ _ _ _ _ _ m10 hJ
set_option maxRecDepth 100000 in
set_option maxHeartbeats 4000000 in
theorem sb_X10_versionMany_41 (C : Cx p s m args meth c cX10_versionMany 6 (some .int) RX10 D cs A h0.se) (hz2 : hz.nx ≤ h0.nx + mc ∧ hz.su ≤ h0.su + ms) (N : Nat) (k10 : Hp → Int32 → Int32 → Int32 → Int32 → Option (Hp × Int32)) (t0 : Nat) (m10 : ∀ (h : Hp) (x1 : Int32) (x2 : Int32) (x3 : Int32) (x4 : Int32), k10 h x1 x2 x3 x4 = some (hz, rz) → Mo h hz) (i10 : ∀ (h : Hp) (x1 : Int32) (x2 : Int32) (x3 : Int32) (x4 : Int32) (H : Heap) (locs : List Loc) (cells slots : Nat) (ls : Array Slot), k10 h x1 x2 x3 x4 = some (hz, rz) → h.kd t0 = 13 → Wo D cs A s h0 h H locs cells slots → lv_has ls 6 [(0, .ref t0), (1, .int x1), (2, .int x2), (3, .int x3), (4, .int x4)] → W p l e { frames := 4, cells := mc, slots := ms, locals := 120 } s m args below meth c H locs cells slots (MQ below (Zi D cs A hz rz) args s mc ms A) (F0 m 10 ls [])) (h : Hp) (x1 : Int32) (x2 : Int32) (x3 : Int32) (x4 : Int32) (y0 : Int32) (hJ : B_X10_versionMany_41 N k10 t0 h x1 x2 x3 x4 y0 = some (hz, rz)) (hk0 : h.kd t0 = 13) {H : Heap} {locs : List Loc} {cells slots : Nat} (w : Wo D cs A s h0 h H locs cells slots) {ls : Array Slot} (hl : lv_has ls 6 [(0, .ref t0), (1, .int x1), (2, .int x2), (3, .int x3), (4, .int x4)]) : W p l e { frames := 4, cells := mc, slots := ms, locals := 120 } s m args below meth c H locs cells slots (MQ below (Zi D cs A hz rz) args s mc ms A) (F0 m 41 ls [.int y0]) := by
  obtain ⟨hx, hb, hml, hown, hts, -⟩ := id C
  unfold B_X10_versionMany_41 at hJ
  refine lv_iload hx hb dX10_versionMany_41 (lv_at hl 4 rfl) ?_
  refine lv_icmp_ne (tgt := 50) hx hb dX10_versionMany_43 (by decide) (fun c3 => ?_) (fun c3 => ?_)
  · have hJ := it_neg c3 hJ
    refine lv_iconst (v := (0 : Int32)) hx hb dX10_versionMany_50 (by decide) ?_
    exact sb_X10_versionMany_51 C hz2 N k10 t0 m10 i10 _ _ _ _ _ _ hJ hk0 w hl
  · have hJ := it_pos c3 hJ
    refine lv_iconst (v := (1 : Int32)) hx hb dX10_versionMany_46 (by decide) ?_
    refine lv_goto (tgt := 51) hx hb dX10_versionMany_47 (by decide) ?_
    exact sb_X10_versionMany_51 C hz2 N k10 t0 m10 i10 _ _ _ _ _ _ hJ hk0 w hl
def B_X10_versionMany_26 (N : Nat) (k10 : Hp → Int32 → Int32 → Int32 → Int32 → Option (Hp × Int32)) (t0 : Nat) (h : Hp) (x1 : Int32) (x2 : Int32) (x3 : Int32) (x4 : Int32) (y0 : Int32) : Option (Hp × Int32) := if y0 = 0 then (B_X10_versionMany_70 N k10 t0 h x1 x2 x3 x4) else (dr h 30 (h.gr 1324 t0) (fun a5 => ck (¬ (x4 < 0 ∨ h.al a5 ≤ x4.toNatClampNeg)) ((J_X10_versionOf N t0 h (h.bi a5 x4.toNatClampNeg) (0 : Int32)).bind (fun z => B_X10_versionMany_41 N k10 t0 z.1 x1 x2 x3 x4 z.2))))
theorem mb_X10_versionMany_26 (N : Nat) (k10 : Hp → Int32 → Int32 → Int32 → Int32 → Option (Hp × Int32)) (t0 : Nat) (h : Hp) (x1 : Int32) (x2 : Int32) (x3 : Int32) (x4 : Int32) (y0 : Int32) (m10 : ∀ (h : Hp) (x1 : Int32) (x2 : Int32) (x3 : Int32) (x4 : Int32), k10 h x1 x2 x3 x4 = some (hz, rz) → Mo h hz) (hJ : B_X10_versionMany_26 N k10 t0 h x1 x2 x3 x4 y0 = some (hz, rz)) : Mo h hz := by
  unfold B_X10_versionMany_26 at hJ
  by_cases c4 : y0 = 0
  · have hJ := it_pos c4 hJ
    exact mb_X10_versionMany_70 N k10 t0 _ _ _ _ _ m10 hJ
  · have hJ := it_neg c4 hJ
    obtain ⟨a5, ea5, -, hJ⟩ := dr_some hJ
    obtain ⟨-, hJ⟩ := ck_some hJ
    obtain ⟨⟨h7, r8⟩, e9, hJ⟩ := ob_some hJ
    exact (mo_X10_versionOf N t0 h (h.bi a5 x4.toNatClampNeg) (0 : Int32) e9).tr (mb_X10_versionMany_41 N k10 t0 _ _ _ _ _ _ m10 hJ)
set_option maxRecDepth 100000 in
set_option maxHeartbeats 4000000 in
theorem sb_X10_versionMany_26 (C : Cx p s m args meth c cX10_versionMany 6 (some .int) RX10 D cs A h0.se) (hz2 : hz.nx ≤ h0.nx + mc ∧ hz.su ≤ h0.su + ms) (N : Nat) (k10 : Hp → Int32 → Int32 → Int32 → Int32 → Option (Hp × Int32)) (t0 : Nat) (m10 : ∀ (h : Hp) (x1 : Int32) (x2 : Int32) (x3 : Int32) (x4 : Int32), k10 h x1 x2 x3 x4 = some (hz, rz) → Mo h hz) (i10 : ∀ (h : Hp) (x1 : Int32) (x2 : Int32) (x3 : Int32) (x4 : Int32) (H : Heap) (locs : List Loc) (cells slots : Nat) (ls : Array Slot), k10 h x1 x2 x3 x4 = some (hz, rz) → h.kd t0 = 13 → Wo D cs A s h0 h H locs cells slots → lv_has ls 6 [(0, .ref t0), (1, .int x1), (2, .int x2), (3, .int x3), (4, .int x4)] → W p l e { frames := 4, cells := mc, slots := ms, locals := 120 } s m args below meth c H locs cells slots (MQ below (Zi D cs A hz rz) args s mc ms A) (F0 m 10 ls [])) (h : Hp) (x1 : Int32) (x2 : Int32) (x3 : Int32) (x4 : Int32) (y0 : Int32) (hJ : B_X10_versionMany_26 N k10 t0 h x1 x2 x3 x4 y0 = some (hz, rz)) (hk0 : h.kd t0 = 13) {H : Heap} {locs : List Loc} {cells slots : Nat} (w : Wo D cs A s h0 h H locs cells slots) {ls : Array Slot} (hl : lv_has ls 6 [(0, .ref t0), (1, .int x1), (2, .int x2), (3, .int x3), (4, .int x4)]) : W p l e { frames := 4, cells := mc, slots := ms, locals := 120 } s m args below meth c H locs cells slots (MQ below (Zi D cs A hz rz) args s mc ms A) (F0 m 26 ls [.int y0]) := by
  obtain ⟨hx, hb, hml, hown, hts, -⟩ := id C
  unfold B_X10_versionMany_26 at hJ
  refine lv_if_eq (tgt := 70) hx hb dX10_versionMany_26 (by decide) (fun c4 => ?_) (fun c4 => ?_)
  · have hJ := it_pos c4 hJ
    exact sb_X10_versionMany_70 C hz2 N k10 t0 m10 i10 _ _ _ _ _ hJ hk0 w hl
  · have hJ := it_neg c4 hJ
    refine lv_aload_n hx hb dX10_versionMany_29 rfl (lv_at hl 0 rfl) ?_
    refine lv_aload_n hx hb dX10_versionMany_30 rfl (lv_at hl 0 rfl) ?_
    refine fg_1324 C w hk0 tw_6_187 dX10_versionMany_31 ?_
    refine lv_iload hx hb dX10_versionMany_34 (lv_at hl 4 rfl) ?_
    obtain ⟨a5, ea5, hka5, hJ⟩ := dr_some hJ
    rw [ea5]
    obtain ⟨hi6, hJ⟩ := ck_some hJ
    refine jr_ialdM C w hka5 hi6 dX10_versionMany_36 ?_
    refine lv_iconst (v := (0 : Int32)) hx hb dX10_versionMany_37 (by decide) ?_
    obtain ⟨⟨h7, r8⟩, e9, hJ⟩ := ob_some hJ
    refine jc_Vi (As := [.int (h.bi a5 x4.toNatClampNeg), .int (0 : Int32)]) C w (cc_X10_versionOf N t0 h (h.bi a5 x4.toNatClampNeg) (0 : Int32) hk0 e9) (mo_X10_versionOf N t0 h (h.bi a5 x4.toNatClampNeg) (0 : Int32) e9) (mb_X10_versionMany_41 N k10 t0 _ _ _ _ _ _ m10 hJ) hz2 hk0 (by decide) rfl (fs := fs13 h t0) rfl rfl ⟨tw_8_80, tw_8_77, tw_8_79, ts_60, tw_1_7⟩ cd_X10_versionOf ⟨by decide, by decide⟩ hl.1 (by first | exact Nat.le_of_ble_eq_true rfl | simp [rf_cat, cat_i, cat_l, cat_r]) rfl dX10_versionMany_38 (fun H locs w1 => ?_)
    have hk10 := kd_keep w (mo_X10_versionOf N t0 h (h.bi a5 x4.toNatClampNeg) (0 : Int32) e9) hk0 (by decide)
    have w := w1
    exact sb_X10_versionMany_41 C hz2 N k10 t0 m10 i10 _ _ _ _ _ _ hJ hk10 w hl
def B_X10_versionMany_10 (N : Nat) (k10 : Hp → Int32 → Int32 → Int32 → Int32 → Option (Hp × Int32)) (t0 : Nat) (h : Hp) (x1 : Int32) (x2 : Int32) (x3 : Int32) (x4 : Int32) : Option (Hp × Int32) := if (h.gi 1328 t0) ≤ x4 then (some (h, x2)) else ((J_X10_isKeptVersion N t0 h x4 x3).bind (fun z => B_X10_versionMany_26 N k10 t0 z.1 x1 x2 x3 x4 z.2))
theorem mb_X10_versionMany_10 (N : Nat) (k10 : Hp → Int32 → Int32 → Int32 → Int32 → Option (Hp × Int32)) (t0 : Nat) (h : Hp) (x1 : Int32) (x2 : Int32) (x3 : Int32) (x4 : Int32) (m10 : ∀ (h : Hp) (x1 : Int32) (x2 : Int32) (x3 : Int32) (x4 : Int32), k10 h x1 x2 x3 x4 = some (hz, rz) → Mo h hz) (hJ : B_X10_versionMany_10 N k10 t0 h x1 x2 x3 x4 = some (hz, rz)) : Mo h hz := by
  unfold B_X10_versionMany_10 at hJ
  by_cases c11 : (h.gi 1328 t0) ≤ x4
  · have hJ := it_pos c11 hJ
    obtain ⟨rfl, -⟩ := rs2 hJ
    exact ⟨fun _ _ => rfl, Nat.le_refl _, Nat.le_refl _, rfl, fun _ _ => rfl⟩
  · have hJ := it_neg c11 hJ
    obtain ⟨⟨h12, r13⟩, e14, hJ⟩ := ob_some hJ
    exact (mo_X10_isKeptVersion N t0 h x4 x3 e14).tr (mb_X10_versionMany_26 N k10 t0 _ _ _ _ _ _ m10 hJ)
set_option maxRecDepth 100000 in
set_option maxHeartbeats 4000000 in
theorem sb_X10_versionMany_10 (C : Cx p s m args meth c cX10_versionMany 6 (some .int) RX10 D cs A h0.se) (hz2 : hz.nx ≤ h0.nx + mc ∧ hz.su ≤ h0.su + ms) (N : Nat) (k10 : Hp → Int32 → Int32 → Int32 → Int32 → Option (Hp × Int32)) (t0 : Nat) (m10 : ∀ (h : Hp) (x1 : Int32) (x2 : Int32) (x3 : Int32) (x4 : Int32), k10 h x1 x2 x3 x4 = some (hz, rz) → Mo h hz) (i10 : ∀ (h : Hp) (x1 : Int32) (x2 : Int32) (x3 : Int32) (x4 : Int32) (H : Heap) (locs : List Loc) (cells slots : Nat) (ls : Array Slot), k10 h x1 x2 x3 x4 = some (hz, rz) → h.kd t0 = 13 → Wo D cs A s h0 h H locs cells slots → lv_has ls 6 [(0, .ref t0), (1, .int x1), (2, .int x2), (3, .int x3), (4, .int x4)] → W p l e { frames := 4, cells := mc, slots := ms, locals := 120 } s m args below meth c H locs cells slots (MQ below (Zi D cs A hz rz) args s mc ms A) (F0 m 10 ls [])) (h : Hp) (x1 : Int32) (x2 : Int32) (x3 : Int32) (x4 : Int32) (hJ : B_X10_versionMany_10 N k10 t0 h x1 x2 x3 x4 = some (hz, rz)) (hk0 : h.kd t0 = 13) {H : Heap} {locs : List Loc} {cells slots : Nat} (w : Wo D cs A s h0 h H locs cells slots) {ls : Array Slot} (hl : lv_has ls 6 [(0, .ref t0), (1, .int x1), (2, .int x2), (3, .int x3), (4, .int x4)]) : W p l e { frames := 4, cells := mc, slots := ms, locals := 120 } s m args below meth c H locs cells slots (MQ below (Zi D cs A hz rz) args s mc ms A) (F0 m 10 ls []) := by
  obtain ⟨hx, hb, hml, hown, hts, -⟩ := id C
  unfold B_X10_versionMany_10 at hJ
  refine lv_iload hx hb dX10_versionMany_10 (lv_at hl 4 rfl) ?_
  refine lv_aload_n hx hb dX10_versionMany_12 rfl (lv_at hl 0 rfl) ?_
  refine fg_1328 C w hk0 tw_6_191 dX10_versionMany_13 ?_
  refine lv_icmp_ge (tgt := 76) hx hb dX10_versionMany_16 (by decide) (fun c11 => ?_) (fun c11 => ?_)
  · have hJ := it_pos c11 hJ
    refine lv_iload_n hx hb dX10_versionMany_76 rfl (lv_at hl 2 rfl) ?_
    obtain ⟨rfl, rfl⟩ := rs2 hJ
    exact jr_iret C w hz2 dX10_versionMany_77
  · have hJ := it_neg c11 hJ
    refine lv_aload_n hx hb dX10_versionMany_19 rfl (lv_at hl 0 rfl) ?_
    refine lv_iload hx hb dX10_versionMany_20 (lv_at hl 4 rfl) ?_
    refine lv_iload_n hx hb dX10_versionMany_22 rfl (lv_at hl 3 rfl) ?_
    obtain ⟨⟨h12, r13⟩, e14, hJ⟩ := ob_some hJ
    refine jc_Vi (As := [.int x4, .int x3]) C w (cc_X10_isKeptVersion N t0 h x4 x3 hk0 e14) (mo_X10_isKeptVersion N t0 h x4 x3 e14) (mb_X10_versionMany_26 N k10 t0 _ _ _ _ _ _ m10 hJ) hz2 hk0 (by decide) rfl (fs := fs13 h t0) rfl rfl ⟨tw_8_84, tw_8_81, tw_8_83, ts_61, tw_1_7⟩ cd_X10_isKeptVersion ⟨by decide, by decide⟩ hl.1 (by first | exact Nat.le_of_ble_eq_true rfl | simp [rf_cat, cat_i, cat_l, cat_r]) rfl dX10_versionMany_23 (fun H locs w1 => ?_)
    have hk15 := kd_keep w (mo_X10_isKeptVersion N t0 h x4 x3 e14) hk0 (by decide)
    have w := w1
    exact sb_X10_versionMany_26 C hz2 N k10 t0 m10 i10 _ _ _ _ _ _ hJ hk15 w hl
def L_X10_versionMany_10 (N : Nat) (t0 : Nat) : Nat → Hp → Int32 → Int32 → Int32 → Int32 → Option (Hp × Int32)
  | 0 => fun _ _ _ _ _ => none
  | n + 1 => fun h x1 x2 x3 x4 => B_X10_versionMany_10 N (L_X10_versionMany_10 N t0 n) t0 h x1 x2 x3 x4
theorem ml_X10_versionMany_10 (N : Nat) (t0 : Nat) : ∀ (n : Nat) (h : Hp) (x1 : Int32) (x2 : Int32) (x3 : Int32) (x4 : Int32), L_X10_versionMany_10 N t0 n h x1 x2 x3 x4 = some (hz, rz) → Mo h hz := by
  intro n
  induction n with
  | zero => intro h x1 x2 x3 x4 hJ; cases hJ
  | succ n ih => intro h x1 x2 x3 x4 hJ; exact mb_X10_versionMany_10 N (L_X10_versionMany_10 N t0 n) t0 h x1 x2 x3 x4 ih hJ
theorem sl_X10_versionMany_10 (C : Cx p s m args meth c cX10_versionMany 6 (some .int) RX10 D cs A h0.se) (hz2 : hz.nx ≤ h0.nx + mc ∧ hz.su ≤ h0.su + ms) (N : Nat) (t0 : Nat) : ∀ n : Nat, ∀ (h : Hp) (x1 : Int32) (x2 : Int32) (x3 : Int32) (x4 : Int32) (H : Heap) (locs : List Loc) (cells slots : Nat) (ls : Array Slot), L_X10_versionMany_10 N t0 n h x1 x2 x3 x4 = some (hz, rz) → h.kd t0 = 13 → Wo D cs A s h0 h H locs cells slots → lv_has ls 6 [(0, .ref t0), (1, .int x1), (2, .int x2), (3, .int x3), (4, .int x4)] → W p l e { frames := 4, cells := mc, slots := ms, locals := 120 } s m args below meth c H locs cells slots (MQ below (Zi D cs A hz rz) args s mc ms A) (F0 m 10 ls []) := by
  intro n
  induction n with
  | zero => intro h x1 x2 x3 x4 H locs cells slots ls hJ; cases hJ
  | succ n ih =>
    intro h x1 x2 x3 x4 H locs cells slots ls hJ hk0 w hl
    exact sb_X10_versionMany_10 C hz2 N (L_X10_versionMany_10 N t0 n) t0 (ml_X10_versionMany_10 N t0 n) ih h x1 x2 x3 x4 hJ hk0 w hl
def B_X10_versionMany_6 (N : Nat) (t0 : Nat) (h : Hp) (x1 : Int32) (x2 : Int32) (y0 : Int32) : Option (Hp × Int32) := L_X10_versionMany_10 N t0 N h x1 x2 y0 (0 : Int32)
theorem mb_X10_versionMany_6 (N : Nat) (t0 : Nat) (h : Hp) (x1 : Int32) (x2 : Int32) (y0 : Int32) (hJ : B_X10_versionMany_6 N t0 h x1 x2 y0 = some (hz, rz)) : Mo h hz := by
  unfold B_X10_versionMany_6 at hJ
  exact ml_X10_versionMany_10 N t0 N _ _ _ _ _ hJ
set_option maxRecDepth 100000 in
set_option maxHeartbeats 4000000 in
theorem sb_X10_versionMany_6 (C : Cx p s m args meth c cX10_versionMany 6 (some .int) RX10 D cs A h0.se) (hz2 : hz.nx ≤ h0.nx + mc ∧ hz.su ≤ h0.su + ms) (N : Nat) (t0 : Nat) (h : Hp) (x1 : Int32) (x2 : Int32) (y0 : Int32) (hJ : B_X10_versionMany_6 N t0 h x1 x2 y0 = some (hz, rz)) (hk0 : h.kd t0 = 13) {H : Heap} {locs : List Loc} {cells slots : Nat} (w : Wo D cs A s h0 h H locs cells slots) {ls : Array Slot} (hl : lv_has ls 6 [(0, .ref t0), (1, .int x1), (2, .int x2)]) : W p l e { frames := 4, cells := mc, slots := ms, locals := 120 } s m args below meth c H locs cells slots (MQ below (Zi D cs A hz rz) args s mc ms A) (F0 m 6 ls [.int y0]) := by
  obtain ⟨hx, hb, hml, hown, hts, -⟩ := id C
  unfold B_X10_versionMany_6 at hJ
  refine lv_istore_n (i := 3) (lv' := [(3, .int y0), (0, .ref t0), (1, .int x1), (2, .int x2)]) hx hb dX10_versionMany_6 rfl hl (by decide) rfl (fun ls hl => ?_)
  refine lv_iconst (v := (0 : Int32)) hx hb dX10_versionMany_7 (by decide) ?_
  refine lv_istore (i := 4) (lv' := [(4, .int (0 : Int32)), (3, .int y0), (0, .ref t0), (1, .int x1), (2, .int x2)]) hx hb dX10_versionMany_8 hl (by decide) rfl (fun ls hl => ?_)
  exact sl_X10_versionMany_10 C hz2 N t0 N _ _ _ _ _ _ _ _ _ _ hJ hk0 w (lv_sub (l' := [(0, .ref t0), (1, .int x1), (2, .int x2), (3, .int y0), (4, .int (0 : Int32))]) hl [2, 3, 4, 1, 0] rfl)
def B_X10_versionMany_0 (N : Nat) (t0 : Nat) (h : Hp) (x1 : Int32) : Option (Hp × Int32) := (J_X10_horizon N t0 h).bind (fun z => B_X10_versionMany_6 N t0 z.1 x1 (0 : Int32) z.2)
theorem mb_X10_versionMany_0 (N : Nat) (t0 : Nat) (h : Hp) (x1 : Int32) (hJ : B_X10_versionMany_0 N t0 h x1 = some (hz, rz)) : Mo h hz := by
  unfold B_X10_versionMany_0 at hJ
  obtain ⟨⟨h16, r17⟩, e18, hJ⟩ := ob_some hJ
  exact (mo_X10_horizon N t0 h e18).tr (mb_X10_versionMany_6 N t0 _ _ _ _ hJ)
set_option maxRecDepth 100000 in
set_option maxHeartbeats 4000000 in
theorem sb_X10_versionMany_0 (C : Cx p s m args meth c cX10_versionMany 6 (some .int) RX10 D cs A h0.se) (hz2 : hz.nx ≤ h0.nx + mc ∧ hz.su ≤ h0.su + ms) (N : Nat) (t0 : Nat) (h : Hp) (x1 : Int32) (hJ : B_X10_versionMany_0 N t0 h x1 = some (hz, rz)) (hk0 : h.kd t0 = 13) {H : Heap} {locs : List Loc} {cells slots : Nat} (w : Wo D cs A s h0 h H locs cells slots) {ls : Array Slot} (hl : lv_has ls 6 [(0, .ref t0), (1, .int x1)]) : W p l e { frames := 4, cells := mc, slots := ms, locals := 120 } s m args below meth c H locs cells slots (MQ below (Zi D cs A hz rz) args s mc ms A) (F0 m 0 ls []) := by
  obtain ⟨hx, hb, hml, hown, hts, -⟩ := id C
  unfold B_X10_versionMany_0 at hJ
  refine lv_iconst (v := (0 : Int32)) hx hb dX10_versionMany_0 (by decide) ?_
  refine lv_istore_n (i := 2) (lv' := [(2, .int (0 : Int32)), (0, .ref t0), (1, .int x1)]) hx hb dX10_versionMany_1 rfl hl (by decide) rfl (fun ls hl => ?_)
  refine lv_aload_n hx hb dX10_versionMany_2 rfl (lv_at hl 1 rfl) ?_
  obtain ⟨⟨h16, r17⟩, e18, hJ⟩ := ob_some hJ
  refine jc_Vi (As := []) C w (cc_X10_horizon N t0 h hk0 e18) (mo_X10_horizon N t0 h e18) (mb_X10_versionMany_6 N t0 _ _ _ _ hJ) hz2 hk0 (by decide) rfl (fs := fs13 h t0) rfl rfl ⟨tw_8_63, tw_8_60, tw_8_62, ts_58, tw_1_7⟩ cd_X10_horizon ⟨by decide, by decide⟩ hl.1 (by first | exact Nat.le_of_ble_eq_true rfl | simp [rf_cat, cat_i, cat_l, cat_r]) rfl dX10_versionMany_3 (fun H locs w1 => ?_)
  have hk19 := kd_keep w (mo_X10_horizon N t0 h e18) hk0 (by decide)
  have w := w1
  exact sb_X10_versionMany_6 C hz2 N t0 _ _ _ _ hJ hk19 w (lv_sub (l' := [(0, .ref t0), (1, .int x1), (2, .int (0 : Int32))]) hl [1, 2, 0] rfl)
def J_X10_versionMany (N : Nat) (t0 : Nat) (h : Hp) (x1 : Int32) : Option (Hp × Int32) := B_X10_versionMany_0 N t0 h x1
theorem mo_X10_versionMany (N : Nat) (t0 : Nat) (h : Hp) (x1 : Int32) (hJ : J_X10_versionMany N t0 h x1 = some (hz, rz)) : Mo h hz := mb_X10_versionMany_0 N t0 h x1 hJ
theorem cd_X10_versionMany : Cd yX10_versionMany 1 := ⟨by decide +kernel, by decide +kernel, by decide +kernel⟩
theorem cc_X10_versionMany (N : Nat) (t0 : Nat) (h : Hp) (x1 : Int32) (hk0 : h.kd t0 = 13) (hJ : J_X10_versionMany N t0 h x1 = some (hz, rz)) : Ci l yX10_versionMany cX10_versionMany 6 (some .int) 4 120 D cs h hz [.ref t0, .int x1] rz := by
  intro mc ms g1 g2
  refine je_any (by decide) (by simp [lg_sl, rf_cat, cat_i, cat_l, cat_r]) ?_
  intro p e s m args below meth c C hin2 w ls hl
  have hl : lv_has ls 6 [(0, .ref t0), (1, .int x1)] := hl
  exact sb_X10_versionMany_0 C ⟨g1, g2⟩ N t0 h x1 hJ hk0 w hl
end G_X10_versionMany
section G_X10_count
variable {p : Program} {l : Launch} {e : Env} {s : State} {m : MethodId} {args : Array Value} {below : List Frame} {meth : Method} {c : Code} {D : va_G} {cs : C4} {A : Nat → Prop} {h0 hz : Hp} {mc ms : Nat} {rz : Int32}
def B_X10_count_107 (N : Nat) (t0 : Nat) (h : Hp) (y0 : Int32) : Option (Hp × Int32) := some (h, y0)
theorem mb_X10_count_107 (N : Nat) (t0 : Nat) (h : Hp) (y0 : Int32) (hJ : B_X10_count_107 N t0 h y0 = some (hz, rz)) : Mo h hz := by
  unfold B_X10_count_107 at hJ
  obtain ⟨rfl, -⟩ := rs2 hJ
  exact ⟨fun _ _ => rfl, Nat.le_refl _, Nat.le_refl _, rfl, fun _ _ => rfl⟩
set_option maxRecDepth 100000 in
set_option maxHeartbeats 4000000 in
theorem sb_X10_count_107 (C : Cx p s m args meth c cX10_count 2 (some .int) RX10 D cs A h0.se) (hz2 : hz.nx ≤ h0.nx + mc ∧ hz.su ≤ h0.su + ms) (N : Nat) (t0 : Nat) (h : Hp) (y0 : Int32) (hJ : B_X10_count_107 N t0 h y0 = some (hz, rz)) (hk0 : h.kd t0 = 13) {H : Heap} {locs : List Loc} {cells slots : Nat} (w : Wo D cs A s h0 h H locs cells slots) {ls : Array Slot} (hl : lv_has ls 2 [(0, .ref t0)]) : W p l e { frames := 5, cells := mc, slots := ms, locals := 150 } s m args below meth c H locs cells slots (MQ below (Zi D cs A hz rz) args s mc ms A) (F0 m 107 ls [.int y0]) := by
  obtain ⟨hx, hb, hml, hown, hts, -⟩ := id C
  unfold B_X10_count_107 at hJ
  obtain ⟨rfl, rfl⟩ := rs2 hJ
  exact jr_iret C w hz2 dX10_count_107
def B_X10_count_102 (N : Nat) (t0 : Nat) (h : Hp) (y0 : Int32) : Option (Hp × Int32) := some (h, y0)
theorem mb_X10_count_102 (N : Nat) (t0 : Nat) (h : Hp) (y0 : Int32) (hJ : B_X10_count_102 N t0 h y0 = some (hz, rz)) : Mo h hz := by
  unfold B_X10_count_102 at hJ
  obtain ⟨rfl, -⟩ := rs2 hJ
  exact ⟨fun _ _ => rfl, Nat.le_refl _, Nat.le_refl _, rfl, fun _ _ => rfl⟩
set_option maxRecDepth 100000 in
set_option maxHeartbeats 4000000 in
theorem sb_X10_count_102 (C : Cx p s m args meth c cX10_count 2 (some .int) RX10 D cs A h0.se) (hz2 : hz.nx ≤ h0.nx + mc ∧ hz.su ≤ h0.su + ms) (N : Nat) (t0 : Nat) (h : Hp) (y0 : Int32) (hJ : B_X10_count_102 N t0 h y0 = some (hz, rz)) (hk0 : h.kd t0 = 13) {H : Heap} {locs : List Loc} {cells slots : Nat} (w : Wo D cs A s h0 h H locs cells slots) {ls : Array Slot} (hl : lv_has ls 2 [(0, .ref t0)]) : W p l e { frames := 5, cells := mc, slots := ms, locals := 150 } s m args below meth c H locs cells slots (MQ below (Zi D cs A hz rz) args s mc ms A) (F0 m 102 ls [.int y0]) := by
  obtain ⟨hx, hb, hml, hown, hts, -⟩ := id C
  unfold B_X10_count_102 at hJ
  obtain ⟨rfl, rfl⟩ := rs2 hJ
  exact jr_iret C w hz2 dX10_count_102
def B_X10_count_96 (N : Nat) (t0 : Nat) (h : Hp) (y0 : Int32) : Option (Hp × Int32) := some (h, y0)
theorem mb_X10_count_96 (N : Nat) (t0 : Nat) (h : Hp) (y0 : Int32) (hJ : B_X10_count_96 N t0 h y0 = some (hz, rz)) : Mo h hz := by
  unfold B_X10_count_96 at hJ
  obtain ⟨rfl, -⟩ := rs2 hJ
  exact ⟨fun _ _ => rfl, Nat.le_refl _, Nat.le_refl _, rfl, fun _ _ => rfl⟩
set_option maxRecDepth 100000 in
set_option maxHeartbeats 4000000 in
theorem sb_X10_count_96 (C : Cx p s m args meth c cX10_count 2 (some .int) RX10 D cs A h0.se) (hz2 : hz.nx ≤ h0.nx + mc ∧ hz.su ≤ h0.su + ms) (N : Nat) (t0 : Nat) (h : Hp) (y0 : Int32) (hJ : B_X10_count_96 N t0 h y0 = some (hz, rz)) (hk0 : h.kd t0 = 13) {H : Heap} {locs : List Loc} {cells slots : Nat} (w : Wo D cs A s h0 h H locs cells slots) {ls : Array Slot} (hl : lv_has ls 2 [(0, .ref t0)]) : W p l e { frames := 5, cells := mc, slots := ms, locals := 150 } s m args below meth c H locs cells slots (MQ below (Zi D cs A hz rz) args s mc ms A) (F0 m 96 ls [.int y0]) := by
  obtain ⟨hx, hb, hml, hown, hts, -⟩ := id C
  unfold B_X10_count_96 at hJ
  obtain ⟨rfl, rfl⟩ := rs2 hJ
  exact jr_iret C w hz2 dX10_count_96
def B_X10_count_90 (N : Nat) (t0 : Nat) (h : Hp) (y0 : Int32) : Option (Hp × Int32) := some (h, y0)
theorem mb_X10_count_90 (N : Nat) (t0 : Nat) (h : Hp) (y0 : Int32) (hJ : B_X10_count_90 N t0 h y0 = some (hz, rz)) : Mo h hz := by
  unfold B_X10_count_90 at hJ
  obtain ⟨rfl, -⟩ := rs2 hJ
  exact ⟨fun _ _ => rfl, Nat.le_refl _, Nat.le_refl _, rfl, fun _ _ => rfl⟩
set_option maxRecDepth 100000 in
set_option maxHeartbeats 4000000 in
theorem sb_X10_count_90 (C : Cx p s m args meth c cX10_count 2 (some .int) RX10 D cs A h0.se) (hz2 : hz.nx ≤ h0.nx + mc ∧ hz.su ≤ h0.su + ms) (N : Nat) (t0 : Nat) (h : Hp) (y0 : Int32) (hJ : B_X10_count_90 N t0 h y0 = some (hz, rz)) (hk0 : h.kd t0 = 13) {H : Heap} {locs : List Loc} {cells slots : Nat} (w : Wo D cs A s h0 h H locs cells slots) {ls : Array Slot} (hl : lv_has ls 2 [(0, .ref t0)]) : W p l e { frames := 5, cells := mc, slots := ms, locals := 150 } s m args below meth c H locs cells slots (MQ below (Zi D cs A hz rz) args s mc ms A) (F0 m 90 ls [.int y0]) := by
  obtain ⟨hx, hb, hml, hown, hts, -⟩ := id C
  unfold B_X10_count_90 at hJ
  obtain ⟨rfl, rfl⟩ := rs2 hJ
  exact jr_iret C w hz2 dX10_count_90
def B_X10_count_84 (N : Nat) (t0 : Nat) (h : Hp) (y0 : Int32) : Option (Hp × Int32) := some (h, y0)
theorem mb_X10_count_84 (N : Nat) (t0 : Nat) (h : Hp) (y0 : Int32) (hJ : B_X10_count_84 N t0 h y0 = some (hz, rz)) : Mo h hz := by
  unfold B_X10_count_84 at hJ
  obtain ⟨rfl, -⟩ := rs2 hJ
  exact ⟨fun _ _ => rfl, Nat.le_refl _, Nat.le_refl _, rfl, fun _ _ => rfl⟩
set_option maxRecDepth 100000 in
set_option maxHeartbeats 4000000 in
theorem sb_X10_count_84 (C : Cx p s m args meth c cX10_count 2 (some .int) RX10 D cs A h0.se) (hz2 : hz.nx ≤ h0.nx + mc ∧ hz.su ≤ h0.su + ms) (N : Nat) (t0 : Nat) (h : Hp) (y0 : Int32) (hJ : B_X10_count_84 N t0 h y0 = some (hz, rz)) (hk0 : h.kd t0 = 13) {H : Heap} {locs : List Loc} {cells slots : Nat} (w : Wo D cs A s h0 h H locs cells slots) {ls : Array Slot} (hl : lv_has ls 2 [(0, .ref t0)]) : W p l e { frames := 5, cells := mc, slots := ms, locals := 150 } s m args below meth c H locs cells slots (MQ below (Zi D cs A hz rz) args s mc ms A) (F0 m 84 ls [.int y0]) := by
  obtain ⟨hx, hb, hml, hown, hts, -⟩ := id C
  unfold B_X10_count_84 at hJ
  obtain ⟨rfl, rfl⟩ := rs2 hJ
  exact jr_iret C w hz2 dX10_count_84
def B_X10_count_78 (N : Nat) (t0 : Nat) (h : Hp) (y0 : Int32) : Option (Hp × Int32) := some (h, y0)
theorem mb_X10_count_78 (N : Nat) (t0 : Nat) (h : Hp) (y0 : Int32) (hJ : B_X10_count_78 N t0 h y0 = some (hz, rz)) : Mo h hz := by
  unfold B_X10_count_78 at hJ
  obtain ⟨rfl, -⟩ := rs2 hJ
  exact ⟨fun _ _ => rfl, Nat.le_refl _, Nat.le_refl _, rfl, fun _ _ => rfl⟩
set_option maxRecDepth 100000 in
set_option maxHeartbeats 4000000 in
theorem sb_X10_count_78 (C : Cx p s m args meth c cX10_count 2 (some .int) RX10 D cs A h0.se) (hz2 : hz.nx ≤ h0.nx + mc ∧ hz.su ≤ h0.su + ms) (N : Nat) (t0 : Nat) (h : Hp) (y0 : Int32) (hJ : B_X10_count_78 N t0 h y0 = some (hz, rz)) (hk0 : h.kd t0 = 13) {H : Heap} {locs : List Loc} {cells slots : Nat} (w : Wo D cs A s h0 h H locs cells slots) {ls : Array Slot} (hl : lv_has ls 2 [(0, .ref t0)]) : W p l e { frames := 5, cells := mc, slots := ms, locals := 150 } s m args below meth c H locs cells slots (MQ below (Zi D cs A hz rz) args s mc ms A) (F0 m 78 ls [.int y0]) := by
  obtain ⟨hx, hb, hml, hown, hts, -⟩ := id C
  unfold B_X10_count_78 at hJ
  obtain ⟨rfl, rfl⟩ := rs2 hJ
  exact jr_iret C w hz2 dX10_count_78
def B_X10_count_73 (N : Nat) (t0 : Nat) (h : Hp) (x1 : Int32) : Option (Hp × Int32) := (J_X10_manyThat N t0 h x1).bind (fun z => B_X10_count_78 N t0 z.1 z.2)
theorem mb_X10_count_73 (N : Nat) (t0 : Nat) (h : Hp) (x1 : Int32) (hJ : B_X10_count_73 N t0 h x1 = some (hz, rz)) : Mo h hz := by
  unfold B_X10_count_73 at hJ
  obtain ⟨⟨h1, r2⟩, e3, hJ⟩ := ob_some hJ
  exact (mo_X10_manyThat N t0 h x1 e3).tr (mb_X10_count_78 N t0 _ _ hJ)
set_option maxRecDepth 100000 in
set_option maxHeartbeats 4000000 in
theorem sb_X10_count_73 (C : Cx p s m args meth c cX10_count 2 (some .int) RX10 D cs A h0.se) (hz2 : hz.nx ≤ h0.nx + mc ∧ hz.su ≤ h0.su + ms) (N : Nat) (t0 : Nat) (h : Hp) (x1 : Int32) (hJ : B_X10_count_73 N t0 h x1 = some (hz, rz)) (hk0 : h.kd t0 = 13) {H : Heap} {locs : List Loc} {cells slots : Nat} (w : Wo D cs A s h0 h H locs cells slots) {ls : Array Slot} (hl : lv_has ls 2 [(0, .ref t0), (1, .int x1)]) : W p l e { frames := 5, cells := mc, slots := ms, locals := 150 } s m args below meth c H locs cells slots (MQ below (Zi D cs A hz rz) args s mc ms A) (F0 m 73 ls []) := by
  obtain ⟨hx, hb, hml, hown, hts, -⟩ := id C
  unfold B_X10_count_73 at hJ
  refine lv_aload_n hx hb dX10_count_73 rfl (lv_at hl 0 rfl) ?_
  refine lv_iload_n hx hb dX10_count_74 rfl (lv_at hl 1 rfl) ?_
  obtain ⟨⟨h1, r2⟩, e3, hJ⟩ := ob_some hJ
  refine jc_Vi (As := [.int x1]) C w (cc_X10_manyThat N t0 h x1 hk0 e3) (mo_X10_manyThat N t0 h x1 e3) (mb_X10_count_78 N t0 _ _ hJ) hz2 hk0 (by decide) rfl (fs := fs13 h t0) rfl rfl ⟨tw_8_96, tw_8_93, tw_8_95, ts_62, tw_1_7⟩ cd_X10_manyThat ⟨by decide, by decide⟩ hl.1 (by first | exact Nat.le_of_ble_eq_true rfl | simp [rf_cat, cat_i, cat_l, cat_r]) rfl dX10_count_75 (fun H locs w1 => ?_)
  have hk4 := kd_keep w (mo_X10_manyThat N t0 h x1 e3) hk0 (by decide)
  have w := w1
  exact sb_X10_count_78 C hz2 N t0 _ _ hJ hk4 w (lv_sub (l' := [(0, .ref t0)]) hl [0] rfl)
def B_X10_count_0 (N : Nat) (t0 : Nat) (h : Hp) (x1 : Int32) : Option (Hp × Int32) := if x1 = (0 : Int32) then (some (h.sgi 1300 t0 (0 : Int32), (h.sgi 1300 t0 (0 : Int32)).gi 1311 t0)) else (if x1 = (1 : Int32) then (B_X10_count_73 N t0 (h.sgi 1300 t0 (0 : Int32)) x1) else (if x1 = (2 : Int32) then (B_X10_count_73 N t0 (h.sgi 1300 t0 (0 : Int32)) x1) else (if x1 = (3 : Int32) then (B_X10_count_73 N t0 (h.sgi 1300 t0 (0 : Int32)) x1) else (if x1 = (4 : Int32) then (B_X10_count_73 N t0 (h.sgi 1300 t0 (0 : Int32)) x1) else (if x1 = (5 : Int32) then (B_X10_count_73 N t0 (h.sgi 1300 t0 (0 : Int32)) x1) else (if x1 = (6 : Int32) then ((J_X10_keptMany N t0 (h.sgi 1300 t0 (0 : Int32)) (0 : Int32)).bind (fun z => B_X10_count_84 N t0 z.1 z.2)) else (if x1 = (7 : Int32) then ((J_X10_keptMany N t0 (h.sgi 1300 t0 (0 : Int32)) (1 : Int32)).bind (fun z => B_X10_count_90 N t0 z.1 z.2)) else (if x1 = (8 : Int32) then ((J_X10_versionMany N t0 (h.sgi 1300 t0 (0 : Int32)) (0 : Int32)).bind (fun z => B_X10_count_96 N t0 z.1 z.2)) else (if x1 = (9 : Int32) then ((J_X10_versionMany N t0 (h.sgi 1300 t0 (0 : Int32)) (1 : Int32)).bind (fun z => B_X10_count_102 N t0 z.1 z.2)) else (if x1 = (10 : Int32) then ((J_X10_horizon N t0 (h.sgi 1300 t0 (0 : Int32))).bind (fun z => B_X10_count_107 N t0 z.1 z.2)) else (if x1 = (11 : Int32) then (some (h.sgi 1300 t0 (0 : Int32), (h.sgi 1300 t0 (0 : Int32)).gi 1312 t0)) else (some (h.sgi 1300 t0 (0 : Int32), (-1 : Int32))))))))))))))
theorem mb_X10_count_0 (N : Nat) (t0 : Nat) (h : Hp) (x1 : Int32) (hJ : B_X10_count_0 N t0 h x1 = some (hz, rz)) : Mo h hz := by
  unfold B_X10_count_0 at hJ
  by_cases c5 : x1 = (0 : Int32)
  · have hJ := it_pos c5 hJ
    obtain ⟨rfl, -⟩ := rs2 hJ
    exact ⟨fun _ _ => rfl, Nat.le_refl _, Nat.le_refl _, rfl, fun _ _ => rfl⟩
  · have hJ := it_neg c5 hJ
    by_cases c6 : x1 = (1 : Int32)
    · have hJ := it_pos c6 hJ
      exact (Mo.tr (show Mo h (h.sgi 1300 t0 (0 : Int32)) from ⟨fun _ _ => rfl, Nat.le_refl _, Nat.le_refl _, rfl, fun _ _ => rfl⟩) (mb_X10_count_73 N t0 _ _ hJ))
    · have hJ := it_neg c6 hJ
      by_cases c7 : x1 = (2 : Int32)
      · have hJ := it_pos c7 hJ
        exact (Mo.tr (show Mo h (h.sgi 1300 t0 (0 : Int32)) from ⟨fun _ _ => rfl, Nat.le_refl _, Nat.le_refl _, rfl, fun _ _ => rfl⟩) (mb_X10_count_73 N t0 _ _ hJ))
      · have hJ := it_neg c7 hJ
        by_cases c8 : x1 = (3 : Int32)
        · have hJ := it_pos c8 hJ
          exact (Mo.tr (show Mo h (h.sgi 1300 t0 (0 : Int32)) from ⟨fun _ _ => rfl, Nat.le_refl _, Nat.le_refl _, rfl, fun _ _ => rfl⟩) (mb_X10_count_73 N t0 _ _ hJ))
        · have hJ := it_neg c8 hJ
          by_cases c9 : x1 = (4 : Int32)
          · have hJ := it_pos c9 hJ
            exact (Mo.tr (show Mo h (h.sgi 1300 t0 (0 : Int32)) from ⟨fun _ _ => rfl, Nat.le_refl _, Nat.le_refl _, rfl, fun _ _ => rfl⟩) (mb_X10_count_73 N t0 _ _ hJ))
          · have hJ := it_neg c9 hJ
            by_cases c10 : x1 = (5 : Int32)
            · have hJ := it_pos c10 hJ
              exact (Mo.tr (show Mo h (h.sgi 1300 t0 (0 : Int32)) from ⟨fun _ _ => rfl, Nat.le_refl _, Nat.le_refl _, rfl, fun _ _ => rfl⟩) (mb_X10_count_73 N t0 _ _ hJ))
            · have hJ := it_neg c10 hJ
              by_cases c11 : x1 = (6 : Int32)
              · have hJ := it_pos c11 hJ
                obtain ⟨⟨h12, r13⟩, e14, hJ⟩ := ob_some hJ
                exact (Mo.tr (show Mo h (h.sgi 1300 t0 (0 : Int32)) from ⟨fun _ _ => rfl, Nat.le_refl _, Nat.le_refl _, rfl, fun _ _ => rfl⟩) ((mo_X10_keptMany N t0 (h.sgi 1300 t0 (0 : Int32)) (0 : Int32) e14).tr (mb_X10_count_84 N t0 _ _ hJ)))
              · have hJ := it_neg c11 hJ
                by_cases c16 : x1 = (7 : Int32)
                · have hJ := it_pos c16 hJ
                  obtain ⟨⟨h17, r18⟩, e19, hJ⟩ := ob_some hJ
                  exact (Mo.tr (show Mo h (h.sgi 1300 t0 (0 : Int32)) from ⟨fun _ _ => rfl, Nat.le_refl _, Nat.le_refl _, rfl, fun _ _ => rfl⟩) ((mo_X10_keptMany N t0 (h.sgi 1300 t0 (0 : Int32)) (1 : Int32) e19).tr (mb_X10_count_90 N t0 _ _ hJ)))
                · have hJ := it_neg c16 hJ
                  by_cases c21 : x1 = (8 : Int32)
                  · have hJ := it_pos c21 hJ
                    obtain ⟨⟨h22, r23⟩, e24, hJ⟩ := ob_some hJ
                    exact (Mo.tr (show Mo h (h.sgi 1300 t0 (0 : Int32)) from ⟨fun _ _ => rfl, Nat.le_refl _, Nat.le_refl _, rfl, fun _ _ => rfl⟩) ((mo_X10_versionMany N t0 (h.sgi 1300 t0 (0 : Int32)) (0 : Int32) e24).tr (mb_X10_count_96 N t0 _ _ hJ)))
                  · have hJ := it_neg c21 hJ
                    by_cases c26 : x1 = (9 : Int32)
                    · have hJ := it_pos c26 hJ
                      obtain ⟨⟨h27, r28⟩, e29, hJ⟩ := ob_some hJ
                      exact (Mo.tr (show Mo h (h.sgi 1300 t0 (0 : Int32)) from ⟨fun _ _ => rfl, Nat.le_refl _, Nat.le_refl _, rfl, fun _ _ => rfl⟩) ((mo_X10_versionMany N t0 (h.sgi 1300 t0 (0 : Int32)) (1 : Int32) e29).tr (mb_X10_count_102 N t0 _ _ hJ)))
                    · have hJ := it_neg c26 hJ
                      by_cases c31 : x1 = (10 : Int32)
                      · have hJ := it_pos c31 hJ
                        obtain ⟨⟨h32, r33⟩, e34, hJ⟩ := ob_some hJ
                        exact (Mo.tr (show Mo h (h.sgi 1300 t0 (0 : Int32)) from ⟨fun _ _ => rfl, Nat.le_refl _, Nat.le_refl _, rfl, fun _ _ => rfl⟩) ((mo_X10_horizon N t0 (h.sgi 1300 t0 (0 : Int32)) e34).tr (mb_X10_count_107 N t0 _ _ hJ)))
                      · have hJ := it_neg c31 hJ
                        by_cases c36 : x1 = (11 : Int32)
                        · have hJ := it_pos c36 hJ
                          obtain ⟨rfl, -⟩ := rs2 hJ
                          exact ⟨fun _ _ => rfl, Nat.le_refl _, Nat.le_refl _, rfl, fun _ _ => rfl⟩
                        · have hJ := it_neg c36 hJ
                          obtain ⟨rfl, -⟩ := rs2 hJ
                          exact ⟨fun _ _ => rfl, Nat.le_refl _, Nat.le_refl _, rfl, fun _ _ => rfl⟩
set_option maxRecDepth 100000 in
set_option maxHeartbeats 4000000 in
theorem sb_X10_count_0 (C : Cx p s m args meth c cX10_count 2 (some .int) RX10 D cs A h0.se) (hz2 : hz.nx ≤ h0.nx + mc ∧ hz.su ≤ h0.su + ms) (N : Nat) (t0 : Nat) (h : Hp) (x1 : Int32) (hJ : B_X10_count_0 N t0 h x1 = some (hz, rz)) (hk0 : h.kd t0 = 13) {H : Heap} {locs : List Loc} {cells slots : Nat} (w : Wo D cs A s h0 h H locs cells slots) {ls : Array Slot} (hl : lv_has ls 2 [(0, .ref t0), (1, .int x1)]) : W p l e { frames := 5, cells := mc, slots := ms, locals := 150 } s m args below meth c H locs cells slots (MQ below (Zi D cs A hz rz) args s mc ms A) (F0 m 0 ls []) := by
  obtain ⟨hx, hb, hml, hown, hts, -⟩ := id C
  unfold B_X10_count_0 at hJ
  refine lv_aload_n hx hb dX10_count_0 rfl (lv_at hl 0 rfl) ?_
  refine lv_iconst (v := (0 : Int32)) hx hb dX10_count_1 (by decide) ?_
  refine fp_1300 (x := (0 : Int32)) C w hk0 tw_6_163 dX10_count_2 (fun H locs w => ?_)
  refine lv_iload_n hx hb dX10_count_5 rfl (lv_at hl 1 rfl) ?_
  by_cases c5 : x1 = (0 : Int32)
  · have hJ := it_pos c5 hJ
    refine lv_tableIn (tgt := 68) hx hb dX10_count_6 (by rw [c5]; decide) (by rw [c5]; decide) (off := 62) (by rw [c5]; rfl) (by decide) ?_
    refine lv_aload_n hx hb dX10_count_68 rfl (lv_at hl 0 rfl) ?_
    refine fg_1311 C w hk0 tw_6_174 dX10_count_69 ?_
    obtain ⟨rfl, rfl⟩ := rs2 hJ
    exact jr_iret C w hz2 dX10_count_72
  · have hJ := it_neg c5 hJ
    by_cases c6 : x1 = (1 : Int32)
    · have hJ := it_pos c6 hJ
      refine lv_tableIn (tgt := 73) hx hb dX10_count_6 (by rw [c6]; decide) (by rw [c6]; decide) (off := 67) (by rw [c6]; rfl) (by decide) ?_
      exact sb_X10_count_73 C hz2 N t0 _ _ hJ hk0 w hl
    · have hJ := it_neg c6 hJ
      by_cases c7 : x1 = (2 : Int32)
      · have hJ := it_pos c7 hJ
        refine lv_tableIn (tgt := 73) hx hb dX10_count_6 (by rw [c7]; decide) (by rw [c7]; decide) (off := 67) (by rw [c7]; rfl) (by decide) ?_
        exact sb_X10_count_73 C hz2 N t0 _ _ hJ hk0 w hl
      · have hJ := it_neg c7 hJ
        by_cases c8 : x1 = (3 : Int32)
        · have hJ := it_pos c8 hJ
          refine lv_tableIn (tgt := 73) hx hb dX10_count_6 (by rw [c8]; decide) (by rw [c8]; decide) (off := 67) (by rw [c8]; rfl) (by decide) ?_
          exact sb_X10_count_73 C hz2 N t0 _ _ hJ hk0 w hl
        · have hJ := it_neg c8 hJ
          by_cases c9 : x1 = (4 : Int32)
          · have hJ := it_pos c9 hJ
            refine lv_tableIn (tgt := 73) hx hb dX10_count_6 (by rw [c9]; decide) (by rw [c9]; decide) (off := 67) (by rw [c9]; rfl) (by decide) ?_
            exact sb_X10_count_73 C hz2 N t0 _ _ hJ hk0 w hl
          · have hJ := it_neg c9 hJ
            by_cases c10 : x1 = (5 : Int32)
            · have hJ := it_pos c10 hJ
              refine lv_tableIn (tgt := 73) hx hb dX10_count_6 (by rw [c10]; decide) (by rw [c10]; decide) (off := 67) (by rw [c10]; rfl) (by decide) ?_
              exact sb_X10_count_73 C hz2 N t0 _ _ hJ hk0 w hl
            · have hJ := it_neg c10 hJ
              by_cases c11 : x1 = (6 : Int32)
              · have hJ := it_pos c11 hJ
                refine lv_tableIn (tgt := 79) hx hb dX10_count_6 (by rw [c11]; decide) (by rw [c11]; decide) (off := 73) (by rw [c11]; rfl) (by decide) ?_
                refine lv_aload_n hx hb dX10_count_79 rfl (lv_at hl 0 rfl) ?_
                refine lv_iconst (v := (0 : Int32)) hx hb dX10_count_80 (by decide) ?_
                obtain ⟨⟨h12, r13⟩, e14, hJ⟩ := ob_some hJ
                refine jc_Vi (As := [.int (0 : Int32)]) C w (cc_X10_keptMany N t0 (h.sgi 1300 t0 (0 : Int32)) (0 : Int32) hk0 e14) (mo_X10_keptMany N t0 (h.sgi 1300 t0 (0 : Int32)) (0 : Int32) e14) (mb_X10_count_84 N t0 _ _ hJ) hz2 hk0 (by decide) rfl (fs := fs13 (h.sgi 1300 t0 (0 : Int32)) t0) rfl rfl ⟨tw_8_100, tw_8_97, tw_8_99, ts_63, tw_1_7⟩ cd_X10_keptMany ⟨by decide, by decide⟩ hl.1 (by first | exact Nat.le_of_ble_eq_true rfl | simp [rf_cat, cat_i, cat_l, cat_r]) rfl dX10_count_81 (fun H locs w1 => ?_)
                have hk15 := kd_keep w (mo_X10_keptMany N t0 (h.sgi 1300 t0 (0 : Int32)) (0 : Int32) e14) hk0 (by decide)
                have w := w1
                exact sb_X10_count_84 C hz2 N t0 _ _ hJ hk15 w (lv_sub (l' := [(0, .ref t0)]) hl [0] rfl)
              · have hJ := it_neg c11 hJ
                by_cases c16 : x1 = (7 : Int32)
                · have hJ := it_pos c16 hJ
                  refine lv_tableIn (tgt := 85) hx hb dX10_count_6 (by rw [c16]; decide) (by rw [c16]; decide) (off := 79) (by rw [c16]; rfl) (by decide) ?_
                  refine lv_aload_n hx hb dX10_count_85 rfl (lv_at hl 0 rfl) ?_
                  refine lv_iconst (v := (1 : Int32)) hx hb dX10_count_86 (by decide) ?_
                  obtain ⟨⟨h17, r18⟩, e19, hJ⟩ := ob_some hJ
                  refine jc_Vi (As := [.int (1 : Int32)]) C w (cc_X10_keptMany N t0 (h.sgi 1300 t0 (0 : Int32)) (1 : Int32) hk0 e19) (mo_X10_keptMany N t0 (h.sgi 1300 t0 (0 : Int32)) (1 : Int32) e19) (mb_X10_count_90 N t0 _ _ hJ) hz2 hk0 (by decide) rfl (fs := fs13 (h.sgi 1300 t0 (0 : Int32)) t0) rfl rfl ⟨tw_8_100, tw_8_97, tw_8_99, ts_63, tw_1_7⟩ cd_X10_keptMany ⟨by decide, by decide⟩ hl.1 (by first | exact Nat.le_of_ble_eq_true rfl | simp [rf_cat, cat_i, cat_l, cat_r]) rfl dX10_count_87 (fun H locs w1 => ?_)
                  have hk20 := kd_keep w (mo_X10_keptMany N t0 (h.sgi 1300 t0 (0 : Int32)) (1 : Int32) e19) hk0 (by decide)
                  have w := w1
                  exact sb_X10_count_90 C hz2 N t0 _ _ hJ hk20 w (lv_sub (l' := [(0, .ref t0)]) hl [0] rfl)
                · have hJ := it_neg c16 hJ
                  by_cases c21 : x1 = (8 : Int32)
                  · have hJ := it_pos c21 hJ
                    refine lv_tableIn (tgt := 91) hx hb dX10_count_6 (by rw [c21]; decide) (by rw [c21]; decide) (off := 85) (by rw [c21]; rfl) (by decide) ?_
                    refine lv_aload_n hx hb dX10_count_91 rfl (lv_at hl 0 rfl) ?_
                    refine lv_iconst (v := (0 : Int32)) hx hb dX10_count_92 (by decide) ?_
                    obtain ⟨⟨h22, r23⟩, e24, hJ⟩ := ob_some hJ
                    refine jc_Vi (As := [.int (0 : Int32)]) C w (cc_X10_versionMany N t0 (h.sgi 1300 t0 (0 : Int32)) (0 : Int32) hk0 e24) (mo_X10_versionMany N t0 (h.sgi 1300 t0 (0 : Int32)) (0 : Int32) e24) (mb_X10_count_96 N t0 _ _ hJ) hz2 hk0 (by decide) rfl (fs := fs13 (h.sgi 1300 t0 (0 : Int32)) t0) rfl rfl ⟨tw_8_104, tw_8_101, tw_8_103, ts_64, tw_1_7⟩ cd_X10_versionMany ⟨by decide, by decide⟩ hl.1 (by first | exact Nat.le_of_ble_eq_true rfl | simp [rf_cat, cat_i, cat_l, cat_r]) rfl dX10_count_93 (fun H locs w1 => ?_)
                    have hk25 := kd_keep w (mo_X10_versionMany N t0 (h.sgi 1300 t0 (0 : Int32)) (0 : Int32) e24) hk0 (by decide)
                    have w := w1
                    exact sb_X10_count_96 C hz2 N t0 _ _ hJ hk25 w (lv_sub (l' := [(0, .ref t0)]) hl [0] rfl)
                  · have hJ := it_neg c21 hJ
                    by_cases c26 : x1 = (9 : Int32)
                    · have hJ := it_pos c26 hJ
                      refine lv_tableIn (tgt := 97) hx hb dX10_count_6 (by rw [c26]; decide) (by rw [c26]; decide) (off := 91) (by rw [c26]; rfl) (by decide) ?_
                      refine lv_aload_n hx hb dX10_count_97 rfl (lv_at hl 0 rfl) ?_
                      refine lv_iconst (v := (1 : Int32)) hx hb dX10_count_98 (by decide) ?_
                      obtain ⟨⟨h27, r28⟩, e29, hJ⟩ := ob_some hJ
                      refine jc_Vi (As := [.int (1 : Int32)]) C w (cc_X10_versionMany N t0 (h.sgi 1300 t0 (0 : Int32)) (1 : Int32) hk0 e29) (mo_X10_versionMany N t0 (h.sgi 1300 t0 (0 : Int32)) (1 : Int32) e29) (mb_X10_count_102 N t0 _ _ hJ) hz2 hk0 (by decide) rfl (fs := fs13 (h.sgi 1300 t0 (0 : Int32)) t0) rfl rfl ⟨tw_8_104, tw_8_101, tw_8_103, ts_64, tw_1_7⟩ cd_X10_versionMany ⟨by decide, by decide⟩ hl.1 (by first | exact Nat.le_of_ble_eq_true rfl | simp [rf_cat, cat_i, cat_l, cat_r]) rfl dX10_count_99 (fun H locs w1 => ?_)
                      have hk30 := kd_keep w (mo_X10_versionMany N t0 (h.sgi 1300 t0 (0 : Int32)) (1 : Int32) e29) hk0 (by decide)
                      have w := w1
                      exact sb_X10_count_102 C hz2 N t0 _ _ hJ hk30 w (lv_sub (l' := [(0, .ref t0)]) hl [0] rfl)
                    · have hJ := it_neg c26 hJ
                      by_cases c31 : x1 = (10 : Int32)
                      · have hJ := it_pos c31 hJ
                        refine lv_tableIn (tgt := 103) hx hb dX10_count_6 (by rw [c31]; decide) (by rw [c31]; decide) (off := 97) (by rw [c31]; rfl) (by decide) ?_
                        refine lv_aload_n hx hb dX10_count_103 rfl (lv_at hl 0 rfl) ?_
                        obtain ⟨⟨h32, r33⟩, e34, hJ⟩ := ob_some hJ
                        refine jc_Vi (As := []) C w (cc_X10_horizon N t0 (h.sgi 1300 t0 (0 : Int32)) hk0 e34) (mo_X10_horizon N t0 (h.sgi 1300 t0 (0 : Int32)) e34) (mb_X10_count_107 N t0 _ _ hJ) hz2 hk0 (by decide) rfl (fs := fs13 (h.sgi 1300 t0 (0 : Int32)) t0) rfl rfl ⟨tw_8_63, tw_8_60, tw_8_62, ts_58, tw_1_7⟩ cd_X10_horizon ⟨by decide, by decide⟩ hl.1 (by first | exact Nat.le_of_ble_eq_true rfl | simp [rf_cat, cat_i, cat_l, cat_r]) rfl dX10_count_104 (fun H locs w1 => ?_)
                        have hk35 := kd_keep w (mo_X10_horizon N t0 (h.sgi 1300 t0 (0 : Int32)) e34) hk0 (by decide)
                        have w := w1
                        exact sb_X10_count_107 C hz2 N t0 _ _ hJ hk35 w (lv_sub (l' := [(0, .ref t0)]) hl [0] rfl)
                      · have hJ := it_neg c31 hJ
                        by_cases c36 : x1 = (11 : Int32)
                        · have hJ := it_pos c36 hJ
                          refine lv_tableIn (tgt := 108) hx hb dX10_count_6 (by rw [c36]; decide) (by rw [c36]; decide) (off := 102) (by rw [c36]; rfl) (by decide) ?_
                          refine lv_aload_n hx hb dX10_count_108 rfl (lv_at hl 0 rfl) ?_
                          refine fg_1312 C w hk0 tw_6_175 dX10_count_109 ?_
                          obtain ⟨rfl, rfl⟩ := rs2 hJ
                          exact jr_iret C w hz2 dX10_count_112
                        · have hJ := it_neg c36 hJ
                          refine lv_tableOut (tgt := 113) hx hb dX10_count_6 (by have := ne_ti (n := 0) rfl c5; have := ne_ti (n := 1) rfl c6; have := ne_ti (n := 2) rfl c7; have := ne_ti (n := 3) rfl c8; have := ne_ti (n := 4) rfl c9; have := ne_ti (n := 5) rfl c10; have := ne_ti (n := 6) rfl c11; have := ne_ti (n := 7) rfl c16; have := ne_ti (n := 8) rfl c21; have := ne_ti (n := 9) rfl c26; have := ne_ti (n := 10) rfl c31; have := ne_ti (n := 11) rfl c36;  omega) (by decide) ?_
                          refine lv_iconst (v := (-1 : Int32)) hx hb dX10_count_113 (by decide) ?_
                          obtain ⟨rfl, rfl⟩ := rs2 hJ
                          exact jr_iret C w hz2 dX10_count_114
def J_X10_count (N : Nat) (t0 : Nat) (h : Hp) (x1 : Int32) : Option (Hp × Int32) := B_X10_count_0 N t0 h x1
theorem mo_X10_count (N : Nat) (t0 : Nat) (h : Hp) (x1 : Int32) (hJ : J_X10_count N t0 h x1 = some (hz, rz)) : Mo h hz := mb_X10_count_0 N t0 h x1 hJ
theorem cd_X10_count : Cd yX10_count 1 := ⟨by decide +kernel, by decide +kernel, by decide +kernel⟩
theorem cc_X10_count (N : Nat) (t0 : Nat) (h : Hp) (x1 : Int32) (hk0 : h.kd t0 = 13) (hJ : J_X10_count N t0 h x1 = some (hz, rz)) : Ci l yX10_count cX10_count 2 (some .int) 5 150 D cs h hz [.ref t0, .int x1] rz := by
  intro mc ms g1 g2
  refine je_any (by decide) (by simp [lg_sl, rf_cat, cat_i, cat_l, cat_r]) ?_
  intro p e s m args below meth c C hin2 w ls hl
  have hl : lv_has ls 2 [(0, .ref t0), (1, .int x1)] := hl
  exact sb_X10_count_0 C ⟨g1, g2⟩ N t0 h x1 hJ hk0 w hl
end G_X10_count
section G_X10_keyAt
variable {p : Program} {l : Launch} {e : Env} {s : State} {m : MethodId} {args : Array Value} {below : List Frame} {meth : Method} {c : Code} {D : va_G} {cs : C4} {A : Nat → Prop} {h0 hz : Hp} {mc ms : Nat} {rz : Int32}
def B_X10_keyAt_2 (N : Nat) (k2 : Hp → Int32 → Int32 → Option (Hp × Int32)) (t0 : Nat) (h : Hp) (x1 : Int32) (x2 : Int32) : Option (Hp × Int32) := if (h.gi 1353 t0) ≤ x2 then (some (h, (-1 : Int32))) else (dr h 30 (h.gr 1352 t0) (fun a2 => ck (¬ (x2 < 0 ∨ h.al a2 ≤ x2.toNatClampNeg)) (if (h.bi a2 x2.toNatClampNeg) = x1 then (some (h, x2)) else (k2 h x1 (x2 + (1 : Int32))))))
theorem mb_X10_keyAt_2 (N : Nat) (k2 : Hp → Int32 → Int32 → Option (Hp × Int32)) (t0 : Nat) (h : Hp) (x1 : Int32) (x2 : Int32) (m2 : ∀ (h : Hp) (x1 : Int32) (x2 : Int32), k2 h x1 x2 = some (hz, rz) → Mo h hz) (hJ : B_X10_keyAt_2 N k2 t0 h x1 x2 = some (hz, rz)) : Mo h hz := by
  unfold B_X10_keyAt_2 at hJ
  by_cases c1 : (h.gi 1353 t0) ≤ x2
  · have hJ := it_pos c1 hJ
    obtain ⟨rfl, -⟩ := rs2 hJ
    exact ⟨fun _ _ => rfl, Nat.le_refl _, Nat.le_refl _, rfl, fun _ _ => rfl⟩
  · have hJ := it_neg c1 hJ
    obtain ⟨a2, ea2, -, hJ⟩ := dr_some hJ
    obtain ⟨-, hJ⟩ := ck_some hJ
    by_cases c4 : (h.bi a2 x2.toNatClampNeg) = x1
    · have hJ := it_pos c4 hJ
      obtain ⟨rfl, -⟩ := rs2 hJ
      exact ⟨fun _ _ => rfl, Nat.le_refl _, Nat.le_refl _, rfl, fun _ _ => rfl⟩
    · have hJ := it_neg c4 hJ
      exact m2 _ _ _ hJ
set_option maxRecDepth 100000 in
set_option maxHeartbeats 4000000 in
theorem sb_X10_keyAt_2 (C : Cx p s m args meth c cX10_keyAt 3 (some .int) RX10 D cs A h0.se) (hz2 : hz.nx ≤ h0.nx + mc ∧ hz.su ≤ h0.su + ms) (N : Nat) (k2 : Hp → Int32 → Int32 → Option (Hp × Int32)) (t0 : Nat) (m2 : ∀ (h : Hp) (x1 : Int32) (x2 : Int32), k2 h x1 x2 = some (hz, rz) → Mo h hz) (i2 : ∀ (h : Hp) (x1 : Int32) (x2 : Int32) (H : Heap) (locs : List Loc) (cells slots : Nat) (ls : Array Slot), k2 h x1 x2 = some (hz, rz) → h.kd t0 = 13 → Wo D cs A s h0 h H locs cells slots → lv_has ls 3 [(0, .ref t0), (1, .int x1), (2, .int x2)] → W p l e { frames := 0, cells := mc, slots := ms, locals := 0 } s m args below meth c H locs cells slots (MQ below (Zi D cs A hz rz) args s mc ms A) (F0 m 2 ls [])) (h : Hp) (x1 : Int32) (x2 : Int32) (hJ : B_X10_keyAt_2 N k2 t0 h x1 x2 = some (hz, rz)) (hk0 : h.kd t0 = 13) {H : Heap} {locs : List Loc} {cells slots : Nat} (w : Wo D cs A s h0 h H locs cells slots) {ls : Array Slot} (hl : lv_has ls 3 [(0, .ref t0), (1, .int x1), (2, .int x2)]) : W p l e { frames := 0, cells := mc, slots := ms, locals := 0 } s m args below meth c H locs cells slots (MQ below (Zi D cs A hz rz) args s mc ms A) (F0 m 2 ls []) := by
  obtain ⟨hx, hb, hml, hown, hts, -⟩ := id C
  unfold B_X10_keyAt_2 at hJ
  refine lv_iload_n hx hb dX10_keyAt_2 rfl (lv_at hl 2 rfl) ?_
  refine lv_aload_n hx hb dX10_keyAt_3 rfl (lv_at hl 0 rfl) ?_
  refine fg_1353 C w hk0 tw_6_216 dX10_keyAt_4 ?_
  refine lv_icmp_ge (tgt := 28) hx hb dX10_keyAt_7 (by decide) (fun c1 => ?_) (fun c1 => ?_)
  · have hJ := it_pos c1 hJ
    refine lv_iconst (v := (-1 : Int32)) hx hb dX10_keyAt_28 (by decide) ?_
    obtain ⟨rfl, rfl⟩ := rs2 hJ
    exact jr_iret C w hz2 dX10_keyAt_29
  · have hJ := it_neg c1 hJ
    refine lv_aload_n hx hb dX10_keyAt_10 rfl (lv_at hl 0 rfl) ?_
    refine fg_1352 C w hk0 tw_6_215 dX10_keyAt_11 ?_
    refine lv_iload_n hx hb dX10_keyAt_14 rfl (lv_at hl 2 rfl) ?_
    obtain ⟨a2, ea2, hka2, hJ⟩ := dr_some hJ
    rw [ea2]
    obtain ⟨hi3, hJ⟩ := ck_some hJ
    refine jr_ialdM C w hka2 hi3 dX10_keyAt_15 ?_
    refine lv_iload_n hx hb dX10_keyAt_16 rfl (lv_at hl 1 rfl) ?_
    refine lv_icmp_ne (tgt := 22) hx hb dX10_keyAt_17 (by decide) (fun c4 => ?_) (fun c4 => ?_)
    · have hJ := it_neg c4 hJ
      refine lv_iinc (v := x2 + (1 : Int32)) (lv' := [(2, .int (x2 + (1 : Int32))), (0, .ref t0), (1, .int x1)]) hx hb dX10_keyAt_22 hl (k := 2) rfl rfl (by decide) rfl (fun ls hl => ?_)
      refine lv_goto (tgt := 2) hx hb dX10_keyAt_25 (by decide) ?_
      exact i2 _ _ _ _ _ _ _ _ hJ hk0 w (lv_sub (l' := [(0, .ref t0), (1, .int x1), (2, .int (x2 + (1 : Int32)))]) hl [1, 2, 0] rfl)
    · have hJ := it_pos c4 hJ
      refine lv_iload_n hx hb dX10_keyAt_20 rfl (lv_at hl 2 rfl) ?_
      obtain ⟨rfl, rfl⟩ := rs2 hJ
      exact jr_iret C w hz2 dX10_keyAt_21
def L_X10_keyAt_2 (N : Nat) (t0 : Nat) : Nat → Hp → Int32 → Int32 → Option (Hp × Int32)
  | 0 => fun _ _ _ => none
  | n + 1 => fun h x1 x2 => B_X10_keyAt_2 N (L_X10_keyAt_2 N t0 n) t0 h x1 x2
theorem ml_X10_keyAt_2 (N : Nat) (t0 : Nat) : ∀ (n : Nat) (h : Hp) (x1 : Int32) (x2 : Int32), L_X10_keyAt_2 N t0 n h x1 x2 = some (hz, rz) → Mo h hz := by
  intro n
  induction n with
  | zero => intro h x1 x2 hJ; cases hJ
  | succ n ih => intro h x1 x2 hJ; exact mb_X10_keyAt_2 N (L_X10_keyAt_2 N t0 n) t0 h x1 x2 ih hJ
theorem sl_X10_keyAt_2 (C : Cx p s m args meth c cX10_keyAt 3 (some .int) RX10 D cs A h0.se) (hz2 : hz.nx ≤ h0.nx + mc ∧ hz.su ≤ h0.su + ms) (N : Nat) (t0 : Nat) : ∀ n : Nat, ∀ (h : Hp) (x1 : Int32) (x2 : Int32) (H : Heap) (locs : List Loc) (cells slots : Nat) (ls : Array Slot), L_X10_keyAt_2 N t0 n h x1 x2 = some (hz, rz) → h.kd t0 = 13 → Wo D cs A s h0 h H locs cells slots → lv_has ls 3 [(0, .ref t0), (1, .int x1), (2, .int x2)] → W p l e { frames := 0, cells := mc, slots := ms, locals := 0 } s m args below meth c H locs cells slots (MQ below (Zi D cs A hz rz) args s mc ms A) (F0 m 2 ls []) := by
  intro n
  induction n with
  | zero => intro h x1 x2 H locs cells slots ls hJ; cases hJ
  | succ n ih =>
    intro h x1 x2 H locs cells slots ls hJ hk0 w hl
    exact sb_X10_keyAt_2 C hz2 N (L_X10_keyAt_2 N t0 n) t0 (ml_X10_keyAt_2 N t0 n) ih h x1 x2 hJ hk0 w hl
def B_X10_keyAt_0 (N : Nat) (t0 : Nat) (h : Hp) (x1 : Int32) : Option (Hp × Int32) := L_X10_keyAt_2 N t0 N h x1 (0 : Int32)
theorem mb_X10_keyAt_0 (N : Nat) (t0 : Nat) (h : Hp) (x1 : Int32) (hJ : B_X10_keyAt_0 N t0 h x1 = some (hz, rz)) : Mo h hz := by
  unfold B_X10_keyAt_0 at hJ
  exact ml_X10_keyAt_2 N t0 N _ _ _ hJ
set_option maxRecDepth 100000 in
set_option maxHeartbeats 4000000 in
theorem sb_X10_keyAt_0 (C : Cx p s m args meth c cX10_keyAt 3 (some .int) RX10 D cs A h0.se) (hz2 : hz.nx ≤ h0.nx + mc ∧ hz.su ≤ h0.su + ms) (N : Nat) (t0 : Nat) (h : Hp) (x1 : Int32) (hJ : B_X10_keyAt_0 N t0 h x1 = some (hz, rz)) (hk0 : h.kd t0 = 13) {H : Heap} {locs : List Loc} {cells slots : Nat} (w : Wo D cs A s h0 h H locs cells slots) {ls : Array Slot} (hl : lv_has ls 3 [(0, .ref t0), (1, .int x1)]) : W p l e { frames := 0, cells := mc, slots := ms, locals := 0 } s m args below meth c H locs cells slots (MQ below (Zi D cs A hz rz) args s mc ms A) (F0 m 0 ls []) := by
  obtain ⟨hx, hb, hml, hown, hts, -⟩ := id C
  unfold B_X10_keyAt_0 at hJ
  refine lv_iconst (v := (0 : Int32)) hx hb dX10_keyAt_0 (by decide) ?_
  refine lv_istore_n (i := 2) (lv' := [(2, .int (0 : Int32)), (0, .ref t0), (1, .int x1)]) hx hb dX10_keyAt_1 rfl hl (by decide) rfl (fun ls hl => ?_)
  exact sl_X10_keyAt_2 C hz2 N t0 N _ _ _ _ _ _ _ _ hJ hk0 w (lv_sub (l' := [(0, .ref t0), (1, .int x1), (2, .int (0 : Int32))]) hl [1, 2, 0] rfl)
def J_X10_keyAt (N : Nat) (t0 : Nat) (h : Hp) (x1 : Int32) : Option (Hp × Int32) := B_X10_keyAt_0 N t0 h x1
theorem mo_X10_keyAt (N : Nat) (t0 : Nat) (h : Hp) (x1 : Int32) (hJ : J_X10_keyAt N t0 h x1 = some (hz, rz)) : Mo h hz := mb_X10_keyAt_0 N t0 h x1 hJ
theorem cd_X10_keyAt : Cd yX10_keyAt 1 := ⟨by decide +kernel, by decide +kernel, by decide +kernel⟩
theorem cc_X10_keyAt (N : Nat) (t0 : Nat) (h : Hp) (x1 : Int32) (hk0 : h.kd t0 = 13) (hJ : J_X10_keyAt N t0 h x1 = some (hz, rz)) : Ci l yX10_keyAt cX10_keyAt 3 (some .int) 0 0 D cs h hz [.ref t0, .int x1] rz := by
  intro mc ms g1 g2
  refine je_any (by decide) (by simp [lg_sl, rf_cat, cat_i, cat_l, cat_r]) ?_
  intro p e s m args below meth c C hin2 w ls hl
  have hl : lv_has ls 3 [(0, .ref t0), (1, .int x1)] := hl
  exact sb_X10_keyAt_0 C ⟨g1, g2⟩ N t0 h x1 hJ hk0 w hl
end G_X10_keyAt
section G_X10_hasNow
variable {p : Program} {l : Launch} {e : Env} {s : State} {m : MethodId} {args : Array Value} {below : List Frame} {meth : Method} {c : Code} {D : va_G} {cs : C4} {A : Nat → Prop} {h0 hz : Hp} {mc ms : Nat} {rz : Int32}
def B_X10_hasNow_64 (N : Nat) (t0 : Nat) (h : Hp) : Option (Hp × Int32) := some (h, (0 : Int32))
theorem mb_X10_hasNow_64 (N : Nat) (t0 : Nat) (h : Hp) (hJ : B_X10_hasNow_64 N t0 h = some (hz, rz)) : Mo h hz := by
  unfold B_X10_hasNow_64 at hJ
  obtain ⟨rfl, -⟩ := rs2 hJ
  exact ⟨fun _ _ => rfl, Nat.le_refl _, Nat.le_refl _, rfl, fun _ _ => rfl⟩
set_option maxRecDepth 100000 in
set_option maxHeartbeats 4000000 in
theorem sb_X10_hasNow_64 (C : Cx p s m args meth c cX10_hasNow 3 (some .boolean) RX10 D cs A h0.se) (hz2 : hz.nx ≤ h0.nx + mc ∧ hz.su ≤ h0.su + ms) (N : Nat) (t0 : Nat) (h : Hp) (hJ : B_X10_hasNow_64 N t0 h = some (hz, rz)) (hk0 : h.kd t0 = 13) {H : Heap} {locs : List Loc} {cells slots : Nat} (w : Wo D cs A s h0 h H locs cells slots) {ls : Array Slot} (hl : lv_has ls 3 [(0, .ref t0)]) : W p l e { frames := 1, cells := mc, slots := ms, locals := 30 } s m args below meth c H locs cells slots (MQ below (Zi D cs A hz rz) args s mc ms A) (F0 m 64 ls []) := by
  obtain ⟨hx, hb, hml, hown, hts, -⟩ := id C
  unfold B_X10_hasNow_64 at hJ
  refine lv_iconst (v := (0 : Int32)) hx hb dX10_hasNow_64 (by decide) ?_
  obtain ⟨rfl, rfl⟩ := rs2 hJ
  exact jr_zret C w (Or.inl rfl) hz2 dX10_hasNow_65
def B_X10_hasNow_49 (N : Nat) (t0 : Nat) (h : Hp) (y0 : Int32) : Option (Hp × Int32) := if y0 = (-1 : Int32) then (B_X10_hasNow_64 N t0 h) else (dr h 32 (h.gr 1358 t0) (fun a2 => ck (¬ (y0 < 0 ∨ h.al a2 ≤ y0.toNatClampNeg)) (if (h.bi a2 y0.toNatClampNeg) = 0 then (B_X10_hasNow_64 N t0 h) else (dr h 31 (h.gr 1359 t0) (fun a5 => ck (¬ (y0 < 0 ∨ h.al a5 ≤ y0.toNatClampNeg)) (some (h.sgl 1351 t0 (h.bw a5 y0.toNatClampNeg), (1 : Int32))))))))
theorem mb_X10_hasNow_49 (N : Nat) (t0 : Nat) (h : Hp) (y0 : Int32) (hJ : B_X10_hasNow_49 N t0 h y0 = some (hz, rz)) : Mo h hz := by
  unfold B_X10_hasNow_49 at hJ
  by_cases c1 : y0 = (-1 : Int32)
  · have hJ := it_pos c1 hJ
    exact mb_X10_hasNow_64 N t0 _ hJ
  · have hJ := it_neg c1 hJ
    obtain ⟨a2, ea2, -, hJ⟩ := dr_some hJ
    obtain ⟨-, hJ⟩ := ck_some hJ
    by_cases c4 : (h.bi a2 y0.toNatClampNeg) = 0
    · have hJ := it_pos c4 hJ
      exact mb_X10_hasNow_64 N t0 _ hJ
    · have hJ := it_neg c4 hJ
      obtain ⟨a5, ea5, -, hJ⟩ := dr_some hJ
      obtain ⟨-, hJ⟩ := ck_some hJ
      obtain ⟨rfl, -⟩ := rs2 hJ
      exact ⟨fun _ _ => rfl, Nat.le_refl _, Nat.le_refl _, rfl, fun _ _ => rfl⟩
set_option maxRecDepth 100000 in
set_option maxHeartbeats 4000000 in
theorem sb_X10_hasNow_49 (C : Cx p s m args meth c cX10_hasNow 3 (some .boolean) RX10 D cs A h0.se) (hz2 : hz.nx ≤ h0.nx + mc ∧ hz.su ≤ h0.su + ms) (N : Nat) (t0 : Nat) (h : Hp) (y0 : Int32) (hJ : B_X10_hasNow_49 N t0 h y0 = some (hz, rz)) (hk0 : h.kd t0 = 13) {H : Heap} {locs : List Loc} {cells slots : Nat} (w : Wo D cs A s h0 h H locs cells slots) {ls : Array Slot} (hl : lv_has ls 3 [(0, .ref t0)]) : W p l e { frames := 1, cells := mc, slots := ms, locals := 30 } s m args below meth c H locs cells slots (MQ below (Zi D cs A hz rz) args s mc ms A) (F0 m 49 ls [.int y0]) := by
  obtain ⟨hx, hb, hml, hown, hts, -⟩ := id C
  unfold B_X10_hasNow_49 at hJ
  refine lv_istore_n (i := 2) (lv' := [(2, .int y0), (0, .ref t0)]) hx hb dX10_hasNow_49 rfl hl (by decide) rfl (fun ls hl => ?_)
  refine lv_iload_n hx hb dX10_hasNow_50 rfl (lv_at hl 0 rfl) ?_
  refine lv_iconst (v := (-1 : Int32)) hx hb dX10_hasNow_51 (by decide) ?_
  refine lv_icmp_eq (tgt := 64) hx hb dX10_hasNow_52 (by decide) (fun c1 => ?_) (fun c1 => ?_)
  · have hJ := it_pos c1 hJ
    exact sb_X10_hasNow_64 C hz2 N t0 _ hJ hk0 w (lv_sub (l' := [(0, .ref t0)]) hl [1] rfl)
  · have hJ := it_neg c1 hJ
    refine lv_aload_n hx hb dX10_hasNow_55 rfl (lv_at hl 1 rfl) ?_
    refine fg_1358 C w hk0 tw_6_221 dX10_hasNow_56 ?_
    refine lv_iload_n hx hb dX10_hasNow_59 rfl (lv_at hl 0 rfl) ?_
    obtain ⟨a2, ea2, hka2, hJ⟩ := dr_some hJ
    rw [ea2]
    obtain ⟨hi3, hJ⟩ := ck_some hJ
    refine jr_zaldM C w hka2 hi3 dX10_hasNow_60 ?_
    refine lv_if_ne (tgt := 66) hx hb dX10_hasNow_61 (by decide) (fun c4 => ?_) (fun c4 => ?_)
    · have hJ := it_neg c4 hJ
      refine lv_aload_n hx hb dX10_hasNow_66 rfl (lv_at hl 1 rfl) ?_
      refine lv_aload_n hx hb dX10_hasNow_67 rfl (lv_at hl 1 rfl) ?_
      refine fg_1359 C w hk0 tw_6_222 dX10_hasNow_68 ?_
      refine lv_iload_n hx hb dX10_hasNow_71 rfl (lv_at hl 0 rfl) ?_
      obtain ⟨a5, ea5, hka5, hJ⟩ := dr_some hJ
      rw [ea5]
      obtain ⟨hi6, hJ⟩ := ck_some hJ
      refine jr_laldM C w hka5 hi6 dX10_hasNow_72 ?_
      refine fp_1351 (x := h.bw a5 y0.toNatClampNeg) C w hk0 tw_6_214 dX10_hasNow_73 (fun H locs w => ?_)
      refine lv_iconst (v := (1 : Int32)) hx hb dX10_hasNow_76 (by decide) ?_
      obtain ⟨rfl, rfl⟩ := rs2 hJ
      exact jr_zret C w (Or.inr rfl) hz2 dX10_hasNow_77
    · have hJ := it_pos c4 hJ
      exact sb_X10_hasNow_64 C hz2 N t0 _ hJ hk0 w (lv_sub (l' := [(0, .ref t0)]) hl [1] rfl)
def B_X10_hasNow_7 (N : Nat) (k7 : Hp → Int32 → Int32 → Option (Hp × Int32)) (t0 : Nat) (h : Hp) (x1 : Int32) (x2 : Int32) : Option (Hp × Int32) := if x2 < 0 then ((J_X10_keyAt N t0 h x1).bind (fun z => B_X10_hasNow_49 N t0 z.1 z.2)) else (dr h 30 (h.gr 1360 t0) (fun a12 => ck (¬ (x2 < 0 ∨ h.al a12 ≤ x2.toNatClampNeg)) (if (h.bi a12 x2.toNatClampNeg) = x1 then (dr h 31 (h.gr 1361 t0) (fun a15 => ck (¬ (x2 < 0 ∨ h.al a15 ≤ x2.toNatClampNeg)) (dr (h.sgl 1351 t0 (h.bw a15 x2.toNatClampNeg)) 32 ((h.sgl 1351 t0 (h.bw a15 x2.toNatClampNeg)).gr 1362 t0) (fun a17 => ck (¬ (x2 < 0 ∨ (h.sgl 1351 t0 (h.bw a15 x2.toNatClampNeg)).al a17 ≤ x2.toNatClampNeg)) (ck ((h.sgl 1351 t0 (h.bw a15 x2.toNatClampNeg)).bi a17 x2.toNatClampNeg = 0 ∨ (h.sgl 1351 t0 (h.bw a15 x2.toNatClampNeg)).bi a17 x2.toNatClampNeg = 1) (some (h.sgl 1351 t0 (h.bw a15 x2.toNatClampNeg), (h.sgl 1351 t0 (h.bw a15 x2.toNatClampNeg)).bi a17 x2.toNatClampNeg))))))) else (k7 h x1 (x2 + (-1 : Int32))))))
theorem mb_X10_hasNow_7 (N : Nat) (k7 : Hp → Int32 → Int32 → Option (Hp × Int32)) (t0 : Nat) (h : Hp) (x1 : Int32) (x2 : Int32) (m7 : ∀ (h : Hp) (x1 : Int32) (x2 : Int32), k7 h x1 x2 = some (hz, rz) → Mo h hz) (hJ : B_X10_hasNow_7 N k7 t0 h x1 x2 = some (hz, rz)) : Mo h hz := by
  unfold B_X10_hasNow_7 at hJ
  by_cases c7 : x2 < 0
  · have hJ := it_pos c7 hJ
    obtain ⟨⟨h8, r9⟩, e10, hJ⟩ := ob_some hJ
    exact (mo_X10_keyAt N t0 h x1 e10).tr (mb_X10_hasNow_49 N t0 _ _ hJ)
  · have hJ := it_neg c7 hJ
    obtain ⟨a12, ea12, -, hJ⟩ := dr_some hJ
    obtain ⟨-, hJ⟩ := ck_some hJ
    by_cases c14 : (h.bi a12 x2.toNatClampNeg) = x1
    · have hJ := it_pos c14 hJ
      obtain ⟨a15, ea15, -, hJ⟩ := dr_some hJ
      obtain ⟨-, hJ⟩ := ck_some hJ
      obtain ⟨a17, ea17, -, hJ⟩ := dr_some hJ
      obtain ⟨-, hJ⟩ := ck_some hJ
      obtain ⟨-, hJ⟩ := ck_some hJ
      obtain ⟨rfl, -⟩ := rs2 hJ
      exact ⟨fun _ _ => rfl, Nat.le_refl _, Nat.le_refl _, rfl, fun _ _ => rfl⟩
    · have hJ := it_neg c14 hJ
      exact m7 _ _ _ hJ
set_option maxRecDepth 100000 in
set_option maxHeartbeats 4000000 in
theorem sb_X10_hasNow_7 (C : Cx p s m args meth c cX10_hasNow 3 (some .boolean) RX10 D cs A h0.se) (hz2 : hz.nx ≤ h0.nx + mc ∧ hz.su ≤ h0.su + ms) (N : Nat) (k7 : Hp → Int32 → Int32 → Option (Hp × Int32)) (t0 : Nat) (m7 : ∀ (h : Hp) (x1 : Int32) (x2 : Int32), k7 h x1 x2 = some (hz, rz) → Mo h hz) (i7 : ∀ (h : Hp) (x1 : Int32) (x2 : Int32) (H : Heap) (locs : List Loc) (cells slots : Nat) (ls : Array Slot), k7 h x1 x2 = some (hz, rz) → h.kd t0 = 13 → Wo D cs A s h0 h H locs cells slots → lv_has ls 3 [(0, .ref t0), (1, .int x1), (2, .int x2)] → W p l e { frames := 1, cells := mc, slots := ms, locals := 30 } s m args below meth c H locs cells slots (MQ below (Zi D cs A hz rz) args s mc ms A) (F0 m 7 ls [])) (h : Hp) (x1 : Int32) (x2 : Int32) (hJ : B_X10_hasNow_7 N k7 t0 h x1 x2 = some (hz, rz)) (hk0 : h.kd t0 = 13) {H : Heap} {locs : List Loc} {cells slots : Nat} (w : Wo D cs A s h0 h H locs cells slots) {ls : Array Slot} (hl : lv_has ls 3 [(0, .ref t0), (1, .int x1), (2, .int x2)]) : W p l e { frames := 1, cells := mc, slots := ms, locals := 30 } s m args below meth c H locs cells slots (MQ below (Zi D cs A hz rz) args s mc ms A) (F0 m 7 ls []) := by
  obtain ⟨hx, hb, hml, hown, hts, -⟩ := id C
  unfold B_X10_hasNow_7 at hJ
  refine lv_iload_n hx hb dX10_hasNow_7 rfl (lv_at hl 2 rfl) ?_
  refine lv_if_lt (tgt := 44) hx hb dX10_hasNow_8 (by decide) (fun c7 => ?_) (fun c7 => ?_)
  · have hJ := it_pos c7 hJ
    refine lv_aload_n hx hb dX10_hasNow_44 rfl (lv_at hl 0 rfl) ?_
    refine lv_iload_n hx hb dX10_hasNow_45 rfl (lv_at hl 1 rfl) ?_
    obtain ⟨⟨h8, r9⟩, e10, hJ⟩ := ob_some hJ
    refine jc_Vi (As := [.int x1]) C w (cc_X10_keyAt N t0 h x1 hk0 e10) (mo_X10_keyAt N t0 h x1 e10) (mb_X10_hasNow_49 N t0 _ _ hJ) hz2 hk0 (by decide) rfl (fs := fs13 h t0) rfl rfl ⟨tw_8_151, tw_8_148, tw_8_150, ts_74, tw_1_7⟩ cd_X10_keyAt ⟨by decide, by decide⟩ hl.1 (by first | exact Nat.le_of_ble_eq_true rfl | simp [rf_cat, cat_i, cat_l, cat_r]) rfl dX10_hasNow_46 (fun H locs w1 => ?_)
    have hk11 := kd_keep w (mo_X10_keyAt N t0 h x1 e10) hk0 (by decide)
    have w := w1
    exact sb_X10_hasNow_49 C hz2 N t0 _ _ hJ hk11 w (lv_sub (l' := [(0, .ref t0)]) hl [0] rfl)
  · have hJ := it_neg c7 hJ
    refine lv_aload_n hx hb dX10_hasNow_11 rfl (lv_at hl 0 rfl) ?_
    refine fg_1360 C w hk0 tw_6_223 dX10_hasNow_12 ?_
    refine lv_iload_n hx hb dX10_hasNow_15 rfl (lv_at hl 2 rfl) ?_
    obtain ⟨a12, ea12, hka12, hJ⟩ := dr_some hJ
    rw [ea12]
    obtain ⟨hi13, hJ⟩ := ck_some hJ
    refine jr_ialdM C w hka12 hi13 dX10_hasNow_16 ?_
    refine lv_iload_n hx hb dX10_hasNow_17 rfl (lv_at hl 1 rfl) ?_
    refine lv_icmp_ne (tgt := 38) hx hb dX10_hasNow_18 (by decide) (fun c14 => ?_) (fun c14 => ?_)
    · have hJ := it_neg c14 hJ
      refine lv_iinc (v := x2 + (-1 : Int32)) (lv' := [(2, .int (x2 + (-1 : Int32))), (0, .ref t0), (1, .int x1)]) hx hb dX10_hasNow_38 hl (k := 2) rfl rfl (by decide) rfl (fun ls hl => ?_)
      refine lv_goto (tgt := 7) hx hb dX10_hasNow_41 (by decide) ?_
      exact i7 _ _ _ _ _ _ _ _ hJ hk0 w (lv_sub (l' := [(0, .ref t0), (1, .int x1), (2, .int (x2 + (-1 : Int32)))]) hl [1, 2, 0] rfl)
    · have hJ := it_pos c14 hJ
      refine lv_aload_n hx hb dX10_hasNow_21 rfl (lv_at hl 0 rfl) ?_
      refine lv_aload_n hx hb dX10_hasNow_22 rfl (lv_at hl 0 rfl) ?_
      refine fg_1361 C w hk0 tw_6_224 dX10_hasNow_23 ?_
      refine lv_iload_n hx hb dX10_hasNow_26 rfl (lv_at hl 2 rfl) ?_
      obtain ⟨a15, ea15, hka15, hJ⟩ := dr_some hJ
      rw [ea15]
      obtain ⟨hi16, hJ⟩ := ck_some hJ
      refine jr_laldM C w hka15 hi16 dX10_hasNow_27 ?_
      refine fp_1351 (x := h.bw a15 x2.toNatClampNeg) C w hk0 tw_6_214 dX10_hasNow_28 (fun H locs w => ?_)
      refine lv_aload_n hx hb dX10_hasNow_31 rfl (lv_at hl 0 rfl) ?_
      refine fg_1362 C w hk0 tw_6_225 dX10_hasNow_32 ?_
      refine lv_iload_n hx hb dX10_hasNow_35 rfl (lv_at hl 2 rfl) ?_
      obtain ⟨a17, ea17, hka17, hJ⟩ := dr_some hJ
      rw [ea17]
      obtain ⟨hi18, hJ⟩ := ck_some hJ
      refine jr_zaldM C w hka17 hi18 dX10_hasNow_36 ?_
      obtain ⟨hzo19, hJ⟩ := ck_some hJ
      obtain ⟨rfl, rfl⟩ := rs2 hJ
      exact jr_zret C w hzo19 hz2 dX10_hasNow_37
def L_X10_hasNow_7 (N : Nat) (t0 : Nat) : Nat → Hp → Int32 → Int32 → Option (Hp × Int32)
  | 0 => fun _ _ _ => none
  | n + 1 => fun h x1 x2 => B_X10_hasNow_7 N (L_X10_hasNow_7 N t0 n) t0 h x1 x2
theorem ml_X10_hasNow_7 (N : Nat) (t0 : Nat) : ∀ (n : Nat) (h : Hp) (x1 : Int32) (x2 : Int32), L_X10_hasNow_7 N t0 n h x1 x2 = some (hz, rz) → Mo h hz := by
  intro n
  induction n with
  | zero => intro h x1 x2 hJ; cases hJ
  | succ n ih => intro h x1 x2 hJ; exact mb_X10_hasNow_7 N (L_X10_hasNow_7 N t0 n) t0 h x1 x2 ih hJ
theorem sl_X10_hasNow_7 (C : Cx p s m args meth c cX10_hasNow 3 (some .boolean) RX10 D cs A h0.se) (hz2 : hz.nx ≤ h0.nx + mc ∧ hz.su ≤ h0.su + ms) (N : Nat) (t0 : Nat) : ∀ n : Nat, ∀ (h : Hp) (x1 : Int32) (x2 : Int32) (H : Heap) (locs : List Loc) (cells slots : Nat) (ls : Array Slot), L_X10_hasNow_7 N t0 n h x1 x2 = some (hz, rz) → h.kd t0 = 13 → Wo D cs A s h0 h H locs cells slots → lv_has ls 3 [(0, .ref t0), (1, .int x1), (2, .int x2)] → W p l e { frames := 1, cells := mc, slots := ms, locals := 30 } s m args below meth c H locs cells slots (MQ below (Zi D cs A hz rz) args s mc ms A) (F0 m 7 ls []) := by
  intro n
  induction n with
  | zero => intro h x1 x2 H locs cells slots ls hJ; cases hJ
  | succ n ih =>
    intro h x1 x2 H locs cells slots ls hJ hk0 w hl
    exact sb_X10_hasNow_7 C hz2 N (L_X10_hasNow_7 N t0 n) t0 (ml_X10_hasNow_7 N t0 n) ih h x1 x2 hJ hk0 w hl
def B_X10_hasNow_0 (N : Nat) (t0 : Nat) (h : Hp) (x1 : Int32) : Option (Hp × Int32) := L_X10_hasNow_7 N t0 N h x1 ((h.gi 1363 t0) - (1 : Int32))
theorem mb_X10_hasNow_0 (N : Nat) (t0 : Nat) (h : Hp) (x1 : Int32) (hJ : B_X10_hasNow_0 N t0 h x1 = some (hz, rz)) : Mo h hz := by
  unfold B_X10_hasNow_0 at hJ
  exact ml_X10_hasNow_7 N t0 N _ _ _ hJ
set_option maxRecDepth 100000 in
set_option maxHeartbeats 4000000 in
theorem sb_X10_hasNow_0 (C : Cx p s m args meth c cX10_hasNow 3 (some .boolean) RX10 D cs A h0.se) (hz2 : hz.nx ≤ h0.nx + mc ∧ hz.su ≤ h0.su + ms) (N : Nat) (t0 : Nat) (h : Hp) (x1 : Int32) (hJ : B_X10_hasNow_0 N t0 h x1 = some (hz, rz)) (hk0 : h.kd t0 = 13) {H : Heap} {locs : List Loc} {cells slots : Nat} (w : Wo D cs A s h0 h H locs cells slots) {ls : Array Slot} (hl : lv_has ls 3 [(0, .ref t0), (1, .int x1)]) : W p l e { frames := 1, cells := mc, slots := ms, locals := 30 } s m args below meth c H locs cells slots (MQ below (Zi D cs A hz rz) args s mc ms A) (F0 m 0 ls []) := by
  obtain ⟨hx, hb, hml, hown, hts, -⟩ := id C
  unfold B_X10_hasNow_0 at hJ
  refine lv_aload_n hx hb dX10_hasNow_0 rfl (lv_at hl 0 rfl) ?_
  refine fg_1363 C w hk0 tw_6_226 dX10_hasNow_1 ?_
  refine lv_iconst (v := (1 : Int32)) hx hb dX10_hasNow_4 (by decide) ?_
  refine lv_isub hx hb dX10_hasNow_5 ?_
  refine lv_istore_n (i := 2) (lv' := [(2, .int ((h.gi 1363 t0) - (1 : Int32))), (0, .ref t0), (1, .int x1)]) hx hb dX10_hasNow_6 rfl hl (by decide) rfl (fun ls hl => ?_)
  exact sl_X10_hasNow_7 C hz2 N t0 N _ _ _ _ _ _ _ _ hJ hk0 w (lv_sub (l' := [(0, .ref t0), (1, .int x1), (2, .int ((h.gi 1363 t0) - (1 : Int32)))]) hl [1, 2, 0] rfl)
def J_X10_hasNow (N : Nat) (t0 : Nat) (h : Hp) (x1 : Int32) : Option (Hp × Int32) := B_X10_hasNow_0 N t0 h x1
theorem mo_X10_hasNow (N : Nat) (t0 : Nat) (h : Hp) (x1 : Int32) (hJ : J_X10_hasNow N t0 h x1 = some (hz, rz)) : Mo h hz := mb_X10_hasNow_0 N t0 h x1 hJ
theorem cd_X10_hasNow : Cd yX10_hasNow 1 := ⟨by decide +kernel, by decide +kernel, by decide +kernel⟩
theorem cc_X10_hasNow (N : Nat) (t0 : Nat) (h : Hp) (x1 : Int32) (hk0 : h.kd t0 = 13) (hJ : J_X10_hasNow N t0 h x1 = some (hz, rz)) : Ci l yX10_hasNow cX10_hasNow 3 (some .boolean) 1 30 D cs h hz [.ref t0, .int x1] rz := by
  intro mc ms g1 g2
  refine je_any (by decide) (by simp [lg_sl, rf_cat, cat_i, cat_l, cat_r]) ?_
  intro p e s m args below meth c C hin2 w ls hl
  have hl : lv_has ls 3 [(0, .ref t0), (1, .int x1)] := hl
  exact sb_X10_hasNow_0 C ⟨g1, g2⟩ N t0 h x1 hJ hk0 w hl
end G_X10_hasNow
section G_X10_isNearAgain
variable {p : Program} {l : Launch} {e : Env} {s : State} {m : MethodId} {args : Array Value} {below : List Frame} {meth : Method} {c : Code} {D : va_G} {cs : C4} {A : Nat → Prop} {h0 hz : Hp} {mc ms : Nat} {rz : Int32}
def B_X10_isNearAgain_92 (N : Nat) (k5 : Hp → Int32 → Int32 → Int32 → Int32 → Option (Hp × Int32)) (t0 : Nat) (h : Hp) (x1 : Int32) (x2 : Int32) (x3 : Int32) (x4 : Int32) : Option (Hp × Int32) := k5 h x1 x2 x3 (x4 + (1 : Int32))
theorem mb_X10_isNearAgain_92 (N : Nat) (k5 : Hp → Int32 → Int32 → Int32 → Int32 → Option (Hp × Int32)) (t0 : Nat) (h : Hp) (x1 : Int32) (x2 : Int32) (x3 : Int32) (x4 : Int32) (m5 : ∀ (h : Hp) (x1 : Int32) (x2 : Int32) (x3 : Int32) (x4 : Int32), k5 h x1 x2 x3 x4 = some (hz, rz) → Mo h hz) (hJ : B_X10_isNearAgain_92 N k5 t0 h x1 x2 x3 x4 = some (hz, rz)) : Mo h hz := by
  unfold B_X10_isNearAgain_92 at hJ
  exact m5 _ _ _ _ _ hJ
set_option maxRecDepth 100000 in
set_option maxHeartbeats 4000000 in
theorem sb_X10_isNearAgain_92 (C : Cx p s m args meth c cX10_isNearAgain 6 (some .boolean) RX10 D cs A h0.se) (hz2 : hz.nx ≤ h0.nx + mc ∧ hz.su ≤ h0.su + ms) (N : Nat) (k5 : Hp → Int32 → Int32 → Int32 → Int32 → Option (Hp × Int32)) (t0 : Nat) (m5 : ∀ (h : Hp) (x1 : Int32) (x2 : Int32) (x3 : Int32) (x4 : Int32), k5 h x1 x2 x3 x4 = some (hz, rz) → Mo h hz) (i5 : ∀ (h : Hp) (x1 : Int32) (x2 : Int32) (x3 : Int32) (x4 : Int32) (H : Heap) (locs : List Loc) (cells slots : Nat) (ls : Array Slot), k5 h x1 x2 x3 x4 = some (hz, rz) → h.kd t0 = 13 → Wo D cs A s h0 h H locs cells slots → lv_has ls 6 [(0, .ref t0), (1, .int x1), (2, .int x2), (3, .int x3), (4, .int x4)] → W p l e { frames := 2, cells := mc, slots := ms, locals := 60 } s m args below meth c H locs cells slots (MQ below (Zi D cs A hz rz) args s mc ms A) (F0 m 5 ls [])) (h : Hp) (x1 : Int32) (x2 : Int32) (x3 : Int32) (x4 : Int32) (hJ : B_X10_isNearAgain_92 N k5 t0 h x1 x2 x3 x4 = some (hz, rz)) (hk0 : h.kd t0 = 13) {H : Heap} {locs : List Loc} {cells slots : Nat} (w : Wo D cs A s h0 h H locs cells slots) {ls : Array Slot} (hl : lv_has ls 6 [(0, .ref t0), (1, .int x1), (2, .int x2), (3, .int x3), (4, .int x4)]) : W p l e { frames := 2, cells := mc, slots := ms, locals := 60 } s m args below meth c H locs cells slots (MQ below (Zi D cs A hz rz) args s mc ms A) (F0 m 92 ls []) := by
  obtain ⟨hx, hb, hml, hown, hts, -⟩ := id C
  unfold B_X10_isNearAgain_92 at hJ
  refine lv_iinc (v := x4 + (1 : Int32)) (lv' := [(4, .int (x4 + (1 : Int32))), (0, .ref t0), (1, .int x1), (2, .int x2), (3, .int x3)]) hx hb dX10_isNearAgain_92 hl (k := 4) rfl rfl (by decide) rfl (fun ls hl => ?_)
  refine lv_goto (tgt := 5) hx hb dX10_isNearAgain_95 (by decide) ?_
  exact i5 _ _ _ _ _ _ _ _ _ _ hJ hk0 w (lv_sub (l' := [(0, .ref t0), (1, .int x1), (2, .int x2), (3, .int x3), (4, .int (x4 + (1 : Int32)))]) hl [1, 2, 3, 4, 0] rfl)
def B_X10_isNearAgain_86 (N : Nat) (k5 : Hp → Int32 → Int32 → Int32 → Int32 → Option (Hp × Int32)) (t0 : Nat) (h : Hp) (x1 : Int32) (x2 : Int32) (x3 : Int32) (x4 : Int32) (y0 : Int32) : Option (Hp × Int32) := if y0 = 0 then (B_X10_isNearAgain_92 N k5 t0 h x1 x2 x3 x4) else (B_X10_isNearAgain_92 N k5 t0 h x1 x2 x4 x4)
theorem mb_X10_isNearAgain_86 (N : Nat) (k5 : Hp → Int32 → Int32 → Int32 → Int32 → Option (Hp × Int32)) (t0 : Nat) (h : Hp) (x1 : Int32) (x2 : Int32) (x3 : Int32) (x4 : Int32) (y0 : Int32) (m5 : ∀ (h : Hp) (x1 : Int32) (x2 : Int32) (x3 : Int32) (x4 : Int32), k5 h x1 x2 x3 x4 = some (hz, rz) → Mo h hz) (hJ : B_X10_isNearAgain_86 N k5 t0 h x1 x2 x3 x4 y0 = some (hz, rz)) : Mo h hz := by
  unfold B_X10_isNearAgain_86 at hJ
  by_cases c1 : y0 = 0
  · have hJ := it_pos c1 hJ
    exact mb_X10_isNearAgain_92 N k5 t0 _ _ _ _ _ m5 hJ
  · have hJ := it_neg c1 hJ
    exact mb_X10_isNearAgain_92 N k5 t0 _ _ _ _ _ m5 hJ
set_option maxRecDepth 100000 in
set_option maxHeartbeats 4000000 in
theorem sb_X10_isNearAgain_86 (C : Cx p s m args meth c cX10_isNearAgain 6 (some .boolean) RX10 D cs A h0.se) (hz2 : hz.nx ≤ h0.nx + mc ∧ hz.su ≤ h0.su + ms) (N : Nat) (k5 : Hp → Int32 → Int32 → Int32 → Int32 → Option (Hp × Int32)) (t0 : Nat) (m5 : ∀ (h : Hp) (x1 : Int32) (x2 : Int32) (x3 : Int32) (x4 : Int32), k5 h x1 x2 x3 x4 = some (hz, rz) → Mo h hz) (i5 : ∀ (h : Hp) (x1 : Int32) (x2 : Int32) (x3 : Int32) (x4 : Int32) (H : Heap) (locs : List Loc) (cells slots : Nat) (ls : Array Slot), k5 h x1 x2 x3 x4 = some (hz, rz) → h.kd t0 = 13 → Wo D cs A s h0 h H locs cells slots → lv_has ls 6 [(0, .ref t0), (1, .int x1), (2, .int x2), (3, .int x3), (4, .int x4)] → W p l e { frames := 2, cells := mc, slots := ms, locals := 60 } s m args below meth c H locs cells slots (MQ below (Zi D cs A hz rz) args s mc ms A) (F0 m 5 ls [])) (h : Hp) (x1 : Int32) (x2 : Int32) (x3 : Int32) (x4 : Int32) (y0 : Int32) (hJ : B_X10_isNearAgain_86 N k5 t0 h x1 x2 x3 x4 y0 = some (hz, rz)) (hk0 : h.kd t0 = 13) {H : Heap} {locs : List Loc} {cells slots : Nat} (w : Wo D cs A s h0 h H locs cells slots) {ls : Array Slot} (hl : lv_has ls 6 [(0, .ref t0), (1, .int x1), (2, .int x2), (3, .int x3), (4, .int x4)]) : W p l e { frames := 2, cells := mc, slots := ms, locals := 60 } s m args below meth c H locs cells slots (MQ below (Zi D cs A hz rz) args s mc ms A) (F0 m 86 ls [.int y0]) := by
  obtain ⟨hx, hb, hml, hown, hts, -⟩ := id C
  unfold B_X10_isNearAgain_86 at hJ
  refine lv_if_eq (tgt := 92) hx hb dX10_isNearAgain_86 (by decide) (fun c1 => ?_) (fun c1 => ?_)
  · have hJ := it_pos c1 hJ
    exact sb_X10_isNearAgain_92 C hz2 N k5 t0 m5 i5 _ _ _ _ _ hJ hk0 w hl
  · have hJ := it_neg c1 hJ
    refine lv_iload hx hb dX10_isNearAgain_89 (lv_at hl 4 rfl) ?_
    refine lv_istore_n (i := 3) (lv' := [(3, .int x4), (0, .ref t0), (1, .int x1), (2, .int x2), (4, .int x4)]) hx hb dX10_isNearAgain_91 rfl hl (by decide) rfl (fun ls hl => ?_)
    exact sb_X10_isNearAgain_92 C hz2 N k5 t0 m5 i5 _ _ _ _ _ hJ hk0 w (lv_sub (l' := [(0, .ref t0), (1, .int x1), (2, .int x2), (3, .int x4), (4, .int x4)]) hl [1, 2, 3, 0, 4] rfl)
def B_X10_isNearAgain_68 (N : Nat) (k5 : Hp → Int32 → Int32 → Int32 → Int32 → Option (Hp × Int32)) (t0 : Nat) (h : Hp) (x1 : Int32) (x2 : Int32) (x3 : Int32) (x4 : Int32) (y0 : Int32) : Option (Hp × Int32) := if y0 = 0 then (B_X10_isNearAgain_92 N k5 t0 h x1 x2 x3 x4) else (dr h 30 (h.gr 1352 t0) (fun a3 => ck (¬ (x4 < 0 ∨ h.al a3 ≤ x4.toNatClampNeg)) ((J_X10_hasNow N t0 h (h.bi a3 x4.toNatClampNeg)).bind (fun z => B_X10_isNearAgain_86 N k5 t0 z.1 x1 x2 x3 x4 z.2))))
theorem mb_X10_isNearAgain_68 (N : Nat) (k5 : Hp → Int32 → Int32 → Int32 → Int32 → Option (Hp × Int32)) (t0 : Nat) (h : Hp) (x1 : Int32) (x2 : Int32) (x3 : Int32) (x4 : Int32) (y0 : Int32) (m5 : ∀ (h : Hp) (x1 : Int32) (x2 : Int32) (x3 : Int32) (x4 : Int32), k5 h x1 x2 x3 x4 = some (hz, rz) → Mo h hz) (hJ : B_X10_isNearAgain_68 N k5 t0 h x1 x2 x3 x4 y0 = some (hz, rz)) : Mo h hz := by
  unfold B_X10_isNearAgain_68 at hJ
  by_cases c2 : y0 = 0
  · have hJ := it_pos c2 hJ
    exact mb_X10_isNearAgain_92 N k5 t0 _ _ _ _ _ m5 hJ
  · have hJ := it_neg c2 hJ
    obtain ⟨a3, ea3, -, hJ⟩ := dr_some hJ
    obtain ⟨-, hJ⟩ := ck_some hJ
    obtain ⟨⟨h5, r6⟩, e7, hJ⟩ := ob_some hJ
    exact (mo_X10_hasNow N t0 h (h.bi a3 x4.toNatClampNeg) e7).tr (mb_X10_isNearAgain_86 N k5 t0 _ _ _ _ _ _ m5 hJ)
set_option maxRecDepth 100000 in
set_option maxHeartbeats 4000000 in
theorem sb_X10_isNearAgain_68 (C : Cx p s m args meth c cX10_isNearAgain 6 (some .boolean) RX10 D cs A h0.se) (hz2 : hz.nx ≤ h0.nx + mc ∧ hz.su ≤ h0.su + ms) (N : Nat) (k5 : Hp → Int32 → Int32 → Int32 → Int32 → Option (Hp × Int32)) (t0 : Nat) (m5 : ∀ (h : Hp) (x1 : Int32) (x2 : Int32) (x3 : Int32) (x4 : Int32), k5 h x1 x2 x3 x4 = some (hz, rz) → Mo h hz) (i5 : ∀ (h : Hp) (x1 : Int32) (x2 : Int32) (x3 : Int32) (x4 : Int32) (H : Heap) (locs : List Loc) (cells slots : Nat) (ls : Array Slot), k5 h x1 x2 x3 x4 = some (hz, rz) → h.kd t0 = 13 → Wo D cs A s h0 h H locs cells slots → lv_has ls 6 [(0, .ref t0), (1, .int x1), (2, .int x2), (3, .int x3), (4, .int x4)] → W p l e { frames := 2, cells := mc, slots := ms, locals := 60 } s m args below meth c H locs cells slots (MQ below (Zi D cs A hz rz) args s mc ms A) (F0 m 5 ls [])) (h : Hp) (x1 : Int32) (x2 : Int32) (x3 : Int32) (x4 : Int32) (y0 : Int32) (hJ : B_X10_isNearAgain_68 N k5 t0 h x1 x2 x3 x4 y0 = some (hz, rz)) (hk0 : h.kd t0 = 13) {H : Heap} {locs : List Loc} {cells slots : Nat} (w : Wo D cs A s h0 h H locs cells slots) {ls : Array Slot} (hl : lv_has ls 6 [(0, .ref t0), (1, .int x1), (2, .int x2), (3, .int x3), (4, .int x4)]) : W p l e { frames := 2, cells := mc, slots := ms, locals := 60 } s m args below meth c H locs cells slots (MQ below (Zi D cs A hz rz) args s mc ms A) (F0 m 68 ls [.int y0]) := by
  obtain ⟨hx, hb, hml, hown, hts, -⟩ := id C
  unfold B_X10_isNearAgain_68 at hJ
  refine lv_istore (i := 5) (lv' := [(5, .int y0), (0, .ref t0), (1, .int x1), (2, .int x2), (3, .int x3), (4, .int x4)]) hx hb dX10_isNearAgain_68 hl (by decide) rfl (fun ls hl => ?_)
  refine lv_iload hx hb dX10_isNearAgain_70 (lv_at hl 0 rfl) ?_
  refine lv_if_eq (tgt := 92) hx hb dX10_isNearAgain_72 (by decide) (fun c2 => ?_) (fun c2 => ?_)
  · have hJ := it_pos c2 hJ
    exact sb_X10_isNearAgain_92 C hz2 N k5 t0 m5 i5 _ _ _ _ _ hJ hk0 w (lv_sub (l' := [(0, .ref t0), (1, .int x1), (2, .int x2), (3, .int x3), (4, .int x4)]) hl [1, 2, 3, 4, 5] rfl)
  · have hJ := it_neg c2 hJ
    refine lv_aload_n hx hb dX10_isNearAgain_75 rfl (lv_at hl 1 rfl) ?_
    refine lv_aload_n hx hb dX10_isNearAgain_76 rfl (lv_at hl 1 rfl) ?_
    refine fg_1352 C w hk0 tw_6_215 dX10_isNearAgain_77 ?_
    refine lv_iload hx hb dX10_isNearAgain_80 (lv_at hl 5 rfl) ?_
    obtain ⟨a3, ea3, hka3, hJ⟩ := dr_some hJ
    rw [ea3]
    obtain ⟨hi4, hJ⟩ := ck_some hJ
    refine jr_ialdM C w hka3 hi4 dX10_isNearAgain_82 ?_
    obtain ⟨⟨h5, r6⟩, e7, hJ⟩ := ob_some hJ
    refine jc_Vi (As := [.int (h.bi a3 x4.toNatClampNeg)]) C w (cc_X10_hasNow N t0 h (h.bi a3 x4.toNatClampNeg) hk0 e7) (mo_X10_hasNow N t0 h (h.bi a3 x4.toNatClampNeg) e7) (mb_X10_isNearAgain_86 N k5 t0 _ _ _ _ _ _ m5 hJ) hz2 hk0 (by decide) rfl (fs := fs13 h t0) rfl rfl ⟨tw_8_147, tw_8_144, tw_8_146, ts_73, tw_1_7⟩ cd_X10_hasNow ⟨by decide, by decide⟩ hl.1 (by first | exact Nat.le_of_ble_eq_true rfl | simp [rf_cat, cat_i, cat_l, cat_r]) rfl dX10_isNearAgain_83 (fun H locs w1 => ?_)
    have hk8 := kd_keep w (mo_X10_hasNow N t0 h (h.bi a3 x4.toNatClampNeg) e7) hk0 (by decide)
    have w := w1
    exact sb_X10_isNearAgain_86 C hz2 N k5 t0 m5 i5 _ _ _ _ _ _ hJ hk8 w (lv_sub (l' := [(0, .ref t0), (1, .int x1), (2, .int x2), (3, .int x3), (4, .int x4)]) hl [1, 2, 3, 4, 5] rfl)
def B_X10_isNearAgain_43 (N : Nat) (k5 : Hp → Int32 → Int32 → Int32 → Int32 → Option (Hp × Int32)) (t0 : Nat) (h : Hp) (x1 : Int32) (x2 : Int32) (x3 : Int32) (x4 : Int32) : Option (Hp × Int32) := B_X10_isNearAgain_68 N k5 t0 h x1 x2 x3 x4 (0 : Int32)
theorem mb_X10_isNearAgain_43 (N : Nat) (k5 : Hp → Int32 → Int32 → Int32 → Int32 → Option (Hp × Int32)) (t0 : Nat) (h : Hp) (x1 : Int32) (x2 : Int32) (x3 : Int32) (x4 : Int32) (m5 : ∀ (h : Hp) (x1 : Int32) (x2 : Int32) (x3 : Int32) (x4 : Int32), k5 h x1 x2 x3 x4 = some (hz, rz) → Mo h hz) (hJ : B_X10_isNearAgain_43 N k5 t0 h x1 x2 x3 x4 = some (hz, rz)) : Mo h hz := by
  unfold B_X10_isNearAgain_43 at hJ
  exact mb_X10_isNearAgain_68 N k5 t0 _ _ _ _ _ _ m5 hJ
set_option maxRecDepth 100000 in
set_option maxHeartbeats 4000000 in
theorem sb_X10_isNearAgain_43 (C : Cx p s m args meth c cX10_isNearAgain 6 (some .boolean) RX10 D cs A h0.se) (hz2 : hz.nx ≤ h0.nx + mc ∧ hz.su ≤ h0.su + ms) (N : Nat) (k5 : Hp → Int32 → Int32 → Int32 → Int32 → Option (Hp × Int32)) (t0 : Nat) (m5 : ∀ (h : Hp) (x1 : Int32) (x2 : Int32) (x3 : Int32) (x4 : Int32), k5 h x1 x2 x3 x4 = some (hz, rz) → Mo h hz) (i5 : ∀ (h : Hp) (x1 : Int32) (x2 : Int32) (x3 : Int32) (x4 : Int32) (H : Heap) (locs : List Loc) (cells slots : Nat) (ls : Array Slot), k5 h x1 x2 x3 x4 = some (hz, rz) → h.kd t0 = 13 → Wo D cs A s h0 h H locs cells slots → lv_has ls 6 [(0, .ref t0), (1, .int x1), (2, .int x2), (3, .int x3), (4, .int x4)] → W p l e { frames := 2, cells := mc, slots := ms, locals := 60 } s m args below meth c H locs cells slots (MQ below (Zi D cs A hz rz) args s mc ms A) (F0 m 5 ls [])) (h : Hp) (x1 : Int32) (x2 : Int32) (x3 : Int32) (x4 : Int32) (hJ : B_X10_isNearAgain_43 N k5 t0 h x1 x2 x3 x4 = some (hz, rz)) (hk0 : h.kd t0 = 13) {H : Heap} {locs : List Loc} {cells slots : Nat} (w : Wo D cs A s h0 h H locs cells slots) {ls : Array Slot} (hl : lv_has ls 6 [(0, .ref t0), (1, .int x1), (2, .int x2), (3, .int x3), (4, .int x4)]) : W p l e { frames := 2, cells := mc, slots := ms, locals := 60 } s m args below meth c H locs cells slots (MQ below (Zi D cs A hz rz) args s mc ms A) (F0 m 43 ls []) := by
  obtain ⟨hx, hb, hml, hown, hts, -⟩ := id C
  unfold B_X10_isNearAgain_43 at hJ
  refine lv_iconst (v := (0 : Int32)) hx hb dX10_isNearAgain_43 (by decide) ?_
  refine lv_goto (tgt := 68) hx hb dX10_isNearAgain_44 (by decide) ?_
  exact sb_X10_isNearAgain_68 C hz2 N k5 t0 m5 i5 _ _ _ _ _ _ hJ hk0 w hl
def B_X10_isNearAgain_131 (N : Nat) (t0 : Nat) (h : Hp) (y0 : Int32) : Option (Hp × Int32) := ck (y0 = 0 ∨ y0 = 1) (some (h, y0))
theorem mb_X10_isNearAgain_131 (N : Nat) (t0 : Nat) (h : Hp) (y0 : Int32) (hJ : B_X10_isNearAgain_131 N t0 h y0 = some (hz, rz)) : Mo h hz := by
  unfold B_X10_isNearAgain_131 at hJ
  obtain ⟨-, hJ⟩ := ck_some hJ
  obtain ⟨rfl, -⟩ := rs2 hJ
  exact ⟨fun _ _ => rfl, Nat.le_refl _, Nat.le_refl _, rfl, fun _ _ => rfl⟩
set_option maxRecDepth 100000 in
set_option maxHeartbeats 4000000 in
theorem sb_X10_isNearAgain_131 (C : Cx p s m args meth c cX10_isNearAgain 6 (some .boolean) RX10 D cs A h0.se) (hz2 : hz.nx ≤ h0.nx + mc ∧ hz.su ≤ h0.su + ms) (N : Nat) (t0 : Nat) (h : Hp) (y0 : Int32) (hJ : B_X10_isNearAgain_131 N t0 h y0 = some (hz, rz)) (hk0 : h.kd t0 = 13) {H : Heap} {locs : List Loc} {cells slots : Nat} (w : Wo D cs A s h0 h H locs cells slots) {ls : Array Slot} (hl : lv_has ls 6 [(0, .ref t0)]) : W p l e { frames := 2, cells := mc, slots := ms, locals := 60 } s m args below meth c H locs cells slots (MQ below (Zi D cs A hz rz) args s mc ms A) (F0 m 131 ls [.int y0]) := by
  obtain ⟨hx, hb, hml, hown, hts, -⟩ := id C
  unfold B_X10_isNearAgain_131 at hJ
  obtain ⟨hzo9, hJ⟩ := ck_some hJ
  obtain ⟨rfl, rfl⟩ := rs2 hJ
  exact jr_zret C w hzo9 hz2 dX10_isNearAgain_131
def B_X10_isNearAgain_130 (N : Nat) (t0 : Nat) (h : Hp) : Option (Hp × Int32) := B_X10_isNearAgain_131 N t0 h (0 : Int32)
theorem mb_X10_isNearAgain_130 (N : Nat) (t0 : Nat) (h : Hp) (hJ : B_X10_isNearAgain_130 N t0 h = some (hz, rz)) : Mo h hz := by
  unfold B_X10_isNearAgain_130 at hJ
  exact mb_X10_isNearAgain_131 N t0 _ _ hJ
set_option maxRecDepth 100000 in
set_option maxHeartbeats 4000000 in
theorem sb_X10_isNearAgain_130 (C : Cx p s m args meth c cX10_isNearAgain 6 (some .boolean) RX10 D cs A h0.se) (hz2 : hz.nx ≤ h0.nx + mc ∧ hz.su ≤ h0.su + ms) (N : Nat) (t0 : Nat) (h : Hp) (hJ : B_X10_isNearAgain_130 N t0 h = some (hz, rz)) (hk0 : h.kd t0 = 13) {H : Heap} {locs : List Loc} {cells slots : Nat} (w : Wo D cs A s h0 h H locs cells slots) {ls : Array Slot} (hl : lv_has ls 6 [(0, .ref t0)]) : W p l e { frames := 2, cells := mc, slots := ms, locals := 60 } s m args below meth c H locs cells slots (MQ below (Zi D cs A hz rz) args s mc ms A) (F0 m 130 ls []) := by
  obtain ⟨hx, hb, hml, hown, hts, -⟩ := id C
  unfold B_X10_isNearAgain_130 at hJ
  refine lv_iconst (v := (0 : Int32)) hx hb dX10_isNearAgain_130 (by decide) ?_
  exact sb_X10_isNearAgain_131 C hz2 N t0 _ _ hJ hk0 w hl
def B_X10_isNearAgain_112 (N : Nat) (t0 : Nat) (h : Hp) (x1 : Int32) (x3 : Int32) : Option (Hp × Int32) := if x3 = (-1 : Int32) then (dr h 30 (h.gr 1335 t0) (fun a11 => ck (¬ (x1 < 0 ∨ h.al a11 ≤ x1.toNatClampNeg)) (if (h.bi a11 x1.toNatClampNeg) = 0 then (B_X10_isNearAgain_131 N t0 h (1 : Int32)) else (B_X10_isNearAgain_130 N t0 h)))) else (B_X10_isNearAgain_130 N t0 h)
theorem mb_X10_isNearAgain_112 (N : Nat) (t0 : Nat) (h : Hp) (x1 : Int32) (x3 : Int32) (hJ : B_X10_isNearAgain_112 N t0 h x1 x3 = some (hz, rz)) : Mo h hz := by
  unfold B_X10_isNearAgain_112 at hJ
  by_cases c10 : x3 = (-1 : Int32)
  · have hJ := it_pos c10 hJ
    obtain ⟨a11, ea11, -, hJ⟩ := dr_some hJ
    obtain ⟨-, hJ⟩ := ck_some hJ
    by_cases c13 : (h.bi a11 x1.toNatClampNeg) = 0
    · have hJ := it_pos c13 hJ
      exact mb_X10_isNearAgain_131 N t0 _ _ hJ
    · have hJ := it_neg c13 hJ
      exact mb_X10_isNearAgain_130 N t0 _ hJ
  · have hJ := it_neg c10 hJ
    exact mb_X10_isNearAgain_130 N t0 _ hJ
set_option maxRecDepth 100000 in
set_option maxHeartbeats 4000000 in
theorem sb_X10_isNearAgain_112 (C : Cx p s m args meth c cX10_isNearAgain 6 (some .boolean) RX10 D cs A h0.se) (hz2 : hz.nx ≤ h0.nx + mc ∧ hz.su ≤ h0.su + ms) (N : Nat) (t0 : Nat) (h : Hp) (x1 : Int32) (x3 : Int32) (hJ : B_X10_isNearAgain_112 N t0 h x1 x3 = some (hz, rz)) (hk0 : h.kd t0 = 13) {H : Heap} {locs : List Loc} {cells slots : Nat} (w : Wo D cs A s h0 h H locs cells slots) {ls : Array Slot} (hl : lv_has ls 6 [(0, .ref t0), (1, .int x1), (3, .int x3)]) : W p l e { frames := 2, cells := mc, slots := ms, locals := 60 } s m args below meth c H locs cells slots (MQ below (Zi D cs A hz rz) args s mc ms A) (F0 m 112 ls []) := by
  obtain ⟨hx, hb, hml, hown, hts, -⟩ := id C
  unfold B_X10_isNearAgain_112 at hJ
  refine lv_iload_n hx hb dX10_isNearAgain_112 rfl (lv_at hl 2 rfl) ?_
  refine lv_iconst (v := (-1 : Int32)) hx hb dX10_isNearAgain_113 (by decide) ?_
  refine lv_icmp_ne (tgt := 130) hx hb dX10_isNearAgain_114 (by decide) (fun c10 => ?_) (fun c10 => ?_)
  · have hJ := it_neg c10 hJ
    exact sb_X10_isNearAgain_130 C hz2 N t0 _ hJ hk0 w (lv_sub (l' := [(0, .ref t0)]) hl [0] rfl)
  · have hJ := it_pos c10 hJ
    refine lv_aload_n hx hb dX10_isNearAgain_117 rfl (lv_at hl 0 rfl) ?_
    refine fg_1335 C w hk0 tw_6_198 dX10_isNearAgain_118 ?_
    refine lv_iload_n hx hb dX10_isNearAgain_121 rfl (lv_at hl 1 rfl) ?_
    obtain ⟨a11, ea11, hka11, hJ⟩ := dr_some hJ
    rw [ea11]
    obtain ⟨hi12, hJ⟩ := ck_some hJ
    refine jr_ialdM C w hka11 hi12 dX10_isNearAgain_122 ?_
    refine lv_if_ne (tgt := 130) hx hb dX10_isNearAgain_123 (by decide) (fun c13 => ?_) (fun c13 => ?_)
    · have hJ := it_neg c13 hJ
      exact sb_X10_isNearAgain_130 C hz2 N t0 _ hJ hk0 w (lv_sub (l' := [(0, .ref t0)]) hl [0] rfl)
    · have hJ := it_pos c13 hJ
      refine lv_iconst (v := (1 : Int32)) hx hb dX10_isNearAgain_126 (by decide) ?_
      refine lv_goto (tgt := 131) hx hb dX10_isNearAgain_127 (by decide) ?_
      exact sb_X10_isNearAgain_131 C hz2 N t0 _ _ hJ hk0 w (lv_sub (l' := [(0, .ref t0)]) hl [0] rfl)
def B_X10_isNearAgain_179 (N : Nat) (t0 : Nat) (h : Hp) (y0 : Int32) : Option (Hp × Int32) := ck (y0 = 0 ∨ y0 = 1) (some (h, y0))
theorem mb_X10_isNearAgain_179 (N : Nat) (t0 : Nat) (h : Hp) (y0 : Int32) (hJ : B_X10_isNearAgain_179 N t0 h y0 = some (hz, rz)) : Mo h hz := by
  unfold B_X10_isNearAgain_179 at hJ
  obtain ⟨-, hJ⟩ := ck_some hJ
  obtain ⟨rfl, -⟩ := rs2 hJ
  exact ⟨fun _ _ => rfl, Nat.le_refl _, Nat.le_refl _, rfl, fun _ _ => rfl⟩
set_option maxRecDepth 100000 in
set_option maxHeartbeats 4000000 in
theorem sb_X10_isNearAgain_179 (C : Cx p s m args meth c cX10_isNearAgain 6 (some .boolean) RX10 D cs A h0.se) (hz2 : hz.nx ≤ h0.nx + mc ∧ hz.su ≤ h0.su + ms) (N : Nat) (t0 : Nat) (h : Hp) (y0 : Int32) (hJ : B_X10_isNearAgain_179 N t0 h y0 = some (hz, rz)) (hk0 : h.kd t0 = 13) {H : Heap} {locs : List Loc} {cells slots : Nat} (w : Wo D cs A s h0 h H locs cells slots) {ls : Array Slot} (hl : lv_has ls 6 [(0, .ref t0)]) : W p l e { frames := 2, cells := mc, slots := ms, locals := 60 } s m args below meth c H locs cells slots (MQ below (Zi D cs A hz rz) args s mc ms A) (F0 m 179 ls [.int y0]) := by
  obtain ⟨hx, hb, hml, hown, hts, -⟩ := id C
  unfold B_X10_isNearAgain_179 at hJ
  obtain ⟨hzo14, hJ⟩ := ck_some hJ
  obtain ⟨rfl, rfl⟩ := rs2 hJ
  exact jr_zret C w hzo14 hz2 dX10_isNearAgain_179
def B_X10_isNearAgain_178 (N : Nat) (t0 : Nat) (h : Hp) : Option (Hp × Int32) := B_X10_isNearAgain_179 N t0 h (0 : Int32)
theorem mb_X10_isNearAgain_178 (N : Nat) (t0 : Nat) (h : Hp) (hJ : B_X10_isNearAgain_178 N t0 h = some (hz, rz)) : Mo h hz := by
  unfold B_X10_isNearAgain_178 at hJ
  exact mb_X10_isNearAgain_179 N t0 _ _ hJ
set_option maxRecDepth 100000 in
set_option maxHeartbeats 4000000 in
theorem sb_X10_isNearAgain_178 (C : Cx p s m args meth c cX10_isNearAgain 6 (some .boolean) RX10 D cs A h0.se) (hz2 : hz.nx ≤ h0.nx + mc ∧ hz.su ≤ h0.su + ms) (N : Nat) (t0 : Nat) (h : Hp) (hJ : B_X10_isNearAgain_178 N t0 h = some (hz, rz)) (hk0 : h.kd t0 = 13) {H : Heap} {locs : List Loc} {cells slots : Nat} (w : Wo D cs A s h0 h H locs cells slots) {ls : Array Slot} (hl : lv_has ls 6 [(0, .ref t0)]) : W p l e { frames := 2, cells := mc, slots := ms, locals := 60 } s m args below meth c H locs cells slots (MQ below (Zi D cs A hz rz) args s mc ms A) (F0 m 178 ls []) := by
  obtain ⟨hx, hb, hml, hown, hts, -⟩ := id C
  unfold B_X10_isNearAgain_178 at hJ
  refine lv_iconst (v := (0 : Int32)) hx hb dX10_isNearAgain_178 (by decide) ?_
  exact sb_X10_isNearAgain_179 C hz2 N t0 _ _ hJ hk0 w hl
def B_X10_isNearAgain_142 (N : Nat) (t0 : Nat) (h : Hp) (x1 : Int32) (x3 : Int32) (y0 : Int32) : Option (Hp × Int32) := if y0 = 0 then (B_X10_isNearAgain_178 N t0 h) else (dr h 30 (h.gr 1352 t0) (fun a16 => ck (¬ (x3 < 0 ∨ h.al a16 ≤ x3.toNatClampNeg)) (dr h 30 (h.gr 1336 t0) (fun a18 => ck (¬ (x1 < 0 ∨ h.al a18 ≤ x1.toNatClampNeg)) (if (h.bi a16 x3.toNatClampNeg) = (h.bi a18 x1.toNatClampNeg) then (dr h 31 (h.gr 1337 t0) (fun a21 => ck (¬ (x1 < 0 ∨ h.al a21 ≤ x1.toNatClampNeg)) (if (lg_cmp (h.gl 1351 t0) (h.bw a21 x1.toNatClampNeg)) = 0 then (B_X10_isNearAgain_179 N t0 h (1 : Int32)) else (B_X10_isNearAgain_178 N t0 h)))) else (B_X10_isNearAgain_178 N t0 h))))))
theorem mb_X10_isNearAgain_142 (N : Nat) (t0 : Nat) (h : Hp) (x1 : Int32) (x3 : Int32) (y0 : Int32) (hJ : B_X10_isNearAgain_142 N t0 h x1 x3 y0 = some (hz, rz)) : Mo h hz := by
  unfold B_X10_isNearAgain_142 at hJ
  by_cases c15 : y0 = 0
  · have hJ := it_pos c15 hJ
    exact mb_X10_isNearAgain_178 N t0 _ hJ
  · have hJ := it_neg c15 hJ
    obtain ⟨a16, ea16, -, hJ⟩ := dr_some hJ
    obtain ⟨-, hJ⟩ := ck_some hJ
    obtain ⟨a18, ea18, -, hJ⟩ := dr_some hJ
    obtain ⟨-, hJ⟩ := ck_some hJ
    by_cases c20 : (h.bi a16 x3.toNatClampNeg) = (h.bi a18 x1.toNatClampNeg)
    · have hJ := it_pos c20 hJ
      obtain ⟨a21, ea21, -, hJ⟩ := dr_some hJ
      obtain ⟨-, hJ⟩ := ck_some hJ
      by_cases c23 : (lg_cmp (h.gl 1351 t0) (h.bw a21 x1.toNatClampNeg)) = 0
      · have hJ := it_pos c23 hJ
        exact mb_X10_isNearAgain_179 N t0 _ _ hJ
      · have hJ := it_neg c23 hJ
        exact mb_X10_isNearAgain_178 N t0 _ hJ
    · have hJ := it_neg c20 hJ
      exact mb_X10_isNearAgain_178 N t0 _ hJ
set_option maxRecDepth 100000 in
set_option maxHeartbeats 4000000 in
theorem sb_X10_isNearAgain_142 (C : Cx p s m args meth c cX10_isNearAgain 6 (some .boolean) RX10 D cs A h0.se) (hz2 : hz.nx ≤ h0.nx + mc ∧ hz.su ≤ h0.su + ms) (N : Nat) (t0 : Nat) (h : Hp) (x1 : Int32) (x3 : Int32) (y0 : Int32) (hJ : B_X10_isNearAgain_142 N t0 h x1 x3 y0 = some (hz, rz)) (hk0 : h.kd t0 = 13) {H : Heap} {locs : List Loc} {cells slots : Nat} (w : Wo D cs A s h0 h H locs cells slots) {ls : Array Slot} (hl : lv_has ls 6 [(0, .ref t0), (1, .int x1), (3, .int x3)]) : W p l e { frames := 2, cells := mc, slots := ms, locals := 60 } s m args below meth c H locs cells slots (MQ below (Zi D cs A hz rz) args s mc ms A) (F0 m 142 ls [.int y0]) := by
  obtain ⟨hx, hb, hml, hown, hts, -⟩ := id C
  unfold B_X10_isNearAgain_142 at hJ
  refine lv_if_eq (tgt := 178) hx hb dX10_isNearAgain_142 (by decide) (fun c15 => ?_) (fun c15 => ?_)
  · have hJ := it_pos c15 hJ
    exact sb_X10_isNearAgain_178 C hz2 N t0 _ hJ hk0 w (lv_sub (l' := [(0, .ref t0)]) hl [0] rfl)
  · have hJ := it_neg c15 hJ
    refine lv_aload_n hx hb dX10_isNearAgain_145 rfl (lv_at hl 0 rfl) ?_
    refine fg_1352 C w hk0 tw_6_215 dX10_isNearAgain_146 ?_
    refine lv_iload_n hx hb dX10_isNearAgain_149 rfl (lv_at hl 2 rfl) ?_
    obtain ⟨a16, ea16, hka16, hJ⟩ := dr_some hJ
    rw [ea16]
    obtain ⟨hi17, hJ⟩ := ck_some hJ
    refine jr_ialdM C w hka16 hi17 dX10_isNearAgain_150 ?_
    refine lv_aload_n hx hb dX10_isNearAgain_151 rfl (lv_at hl 0 rfl) ?_
    refine fg_1336 C w hk0 tw_6_199 dX10_isNearAgain_152 ?_
    refine lv_iload_n hx hb dX10_isNearAgain_155 rfl (lv_at hl 1 rfl) ?_
    obtain ⟨a18, ea18, hka18, hJ⟩ := dr_some hJ
    rw [ea18]
    obtain ⟨hi19, hJ⟩ := ck_some hJ
    refine jr_ialdM C w hka18 hi19 dX10_isNearAgain_156 ?_
    refine lv_icmp_ne (tgt := 178) hx hb dX10_isNearAgain_157 (by decide) (fun c20 => ?_) (fun c20 => ?_)
    · have hJ := it_neg c20 hJ
      exact sb_X10_isNearAgain_178 C hz2 N t0 _ hJ hk0 w (lv_sub (l' := [(0, .ref t0)]) hl [0] rfl)
    · have hJ := it_pos c20 hJ
      refine lv_aload_n hx hb dX10_isNearAgain_160 rfl (lv_at hl 0 rfl) ?_
      refine fg_1351 C w hk0 tw_6_214 dX10_isNearAgain_161 ?_
      refine lv_aload_n hx hb dX10_isNearAgain_164 rfl (lv_at hl 0 rfl) ?_
      refine fg_1337 C w hk0 tw_6_200 dX10_isNearAgain_165 ?_
      refine lv_iload_n hx hb dX10_isNearAgain_168 rfl (lv_at hl 1 rfl) ?_
      obtain ⟨a21, ea21, hka21, hJ⟩ := dr_some hJ
      rw [ea21]
      obtain ⟨hi22, hJ⟩ := ck_some hJ
      refine jr_laldM C w hka21 hi22 dX10_isNearAgain_169 ?_
      refine W.lcmp hx hb dX10_isNearAgain_170 ?_
      refine lv_if_ne (tgt := 178) hx hb dX10_isNearAgain_171 (by decide) (fun c23 => ?_) (fun c23 => ?_)
      · have hJ := it_neg c23 hJ
        exact sb_X10_isNearAgain_178 C hz2 N t0 _ hJ hk0 w (lv_sub (l' := [(0, .ref t0)]) hl [0] rfl)
      · have hJ := it_pos c23 hJ
        refine lv_iconst (v := (1 : Int32)) hx hb dX10_isNearAgain_174 (by decide) ?_
        refine lv_goto (tgt := 179) hx hb dX10_isNearAgain_175 (by decide) ?_
        exact sb_X10_isNearAgain_179 C hz2 N t0 _ _ hJ hk0 w (lv_sub (l' := [(0, .ref t0)]) hl [0] rfl)
def B_X10_isNearAgain_5 (N : Nat) (k5 : Hp → Int32 → Int32 → Int32 → Int32 → Option (Hp × Int32)) (t0 : Nat) (h : Hp) (x1 : Int32) (x2 : Int32) (x3 : Int32) (x4 : Int32) : Option (Hp × Int32) := if (h.gi 1353 t0) ≤ x4 then (if x3 = (-1 : Int32) then (B_X10_isNearAgain_112 N t0 h x1 x3) else (dr h 30 (h.gr 1335 t0) (fun a26 => ck (¬ (x1 < 0 ∨ h.al a26 ≤ x1.toNatClampNeg)) (if (h.bi a26 x1.toNatClampNeg) = 0 then (B_X10_isNearAgain_112 N t0 h x1 x3) else (dr h 30 (h.gr 1352 t0) (fun a29 => ck (¬ (x3 < 0 ∨ h.al a29 ≤ x3.toNatClampNeg)) ((J_X10_hasNow N t0 h (h.bi a29 x3.toNatClampNeg)).bind (fun z => B_X10_isNearAgain_142 N t0 z.1 x1 x3 z.2)))))))) else (if x2 = 0 then (dr h 30 (h.gr 1352 t0) (fun a36 => ck (¬ (x4 < 0 ∨ h.al a36 ≤ x4.toNatClampNeg)) (dr h 30 (h.gr 1331 t0) (fun a38 => ck (¬ (x1 < 0 ∨ h.al a38 ≤ x1.toNatClampNeg)) (if (h.bi a38 x1.toNatClampNeg) < (h.bi a36 x4.toNatClampNeg) then (B_X10_isNearAgain_68 N k5 t0 h x1 x2 x3 x4 (0 : Int32)) else (B_X10_isNearAgain_68 N k5 t0 h x1 x2 x3 x4 (1 : Int32))))))) else (dr h 30 (h.gr 1352 t0) (fun a41 => ck (¬ (x4 < 0 ∨ h.al a41 ≤ x4.toNatClampNeg)) (dr h 30 (h.gr 1331 t0) (fun a43 => ck (¬ (x1 < 0 ∨ h.al a43 ≤ x1.toNatClampNeg)) (if (h.bi a41 x4.toNatClampNeg) < (h.bi a43 x1.toNatClampNeg) then (B_X10_isNearAgain_43 N k5 t0 h x1 x2 x3 x4) else (if x3 = (-1 : Int32) then (B_X10_isNearAgain_68 N k5 t0 h x1 x2 x3 x4 (1 : Int32)) else (B_X10_isNearAgain_43 N k5 t0 h x1 x2 x3 x4))))))))
theorem mb_X10_isNearAgain_5 (N : Nat) (k5 : Hp → Int32 → Int32 → Int32 → Int32 → Option (Hp × Int32)) (t0 : Nat) (h : Hp) (x1 : Int32) (x2 : Int32) (x3 : Int32) (x4 : Int32) (m5 : ∀ (h : Hp) (x1 : Int32) (x2 : Int32) (x3 : Int32) (x4 : Int32), k5 h x1 x2 x3 x4 = some (hz, rz) → Mo h hz) (hJ : B_X10_isNearAgain_5 N k5 t0 h x1 x2 x3 x4 = some (hz, rz)) : Mo h hz := by
  unfold B_X10_isNearAgain_5 at hJ
  by_cases c24 : (h.gi 1353 t0) ≤ x4
  · have hJ := it_pos c24 hJ
    by_cases c25 : x3 = (-1 : Int32)
    · have hJ := it_pos c25 hJ
      exact mb_X10_isNearAgain_112 N t0 _ _ _ hJ
    · have hJ := it_neg c25 hJ
      obtain ⟨a26, ea26, -, hJ⟩ := dr_some hJ
      obtain ⟨-, hJ⟩ := ck_some hJ
      by_cases c28 : (h.bi a26 x1.toNatClampNeg) = 0
      · have hJ := it_pos c28 hJ
        exact mb_X10_isNearAgain_112 N t0 _ _ _ hJ
      · have hJ := it_neg c28 hJ
        obtain ⟨a29, ea29, -, hJ⟩ := dr_some hJ
        obtain ⟨-, hJ⟩ := ck_some hJ
        obtain ⟨⟨h31, r32⟩, e33, hJ⟩ := ob_some hJ
        exact (mo_X10_hasNow N t0 h (h.bi a29 x3.toNatClampNeg) e33).tr (mb_X10_isNearAgain_142 N t0 _ _ _ _ hJ)
  · have hJ := it_neg c24 hJ
    by_cases c35 : x2 = 0
    · have hJ := it_pos c35 hJ
      obtain ⟨a36, ea36, -, hJ⟩ := dr_some hJ
      obtain ⟨-, hJ⟩ := ck_some hJ
      obtain ⟨a38, ea38, -, hJ⟩ := dr_some hJ
      obtain ⟨-, hJ⟩ := ck_some hJ
      by_cases c40 : (h.bi a38 x1.toNatClampNeg) < (h.bi a36 x4.toNatClampNeg)
      · have hJ := it_pos c40 hJ
        exact mb_X10_isNearAgain_68 N k5 t0 _ _ _ _ _ _ m5 hJ
      · have hJ := it_neg c40 hJ
        exact mb_X10_isNearAgain_68 N k5 t0 _ _ _ _ _ _ m5 hJ
    · have hJ := it_neg c35 hJ
      obtain ⟨a41, ea41, -, hJ⟩ := dr_some hJ
      obtain ⟨-, hJ⟩ := ck_some hJ
      obtain ⟨a43, ea43, -, hJ⟩ := dr_some hJ
      obtain ⟨-, hJ⟩ := ck_some hJ
      by_cases c45 : (h.bi a41 x4.toNatClampNeg) < (h.bi a43 x1.toNatClampNeg)
      · have hJ := it_pos c45 hJ
        exact mb_X10_isNearAgain_43 N k5 t0 _ _ _ _ _ m5 hJ
      · have hJ := it_neg c45 hJ
        by_cases c46 : x3 = (-1 : Int32)
        · have hJ := it_pos c46 hJ
          exact mb_X10_isNearAgain_68 N k5 t0 _ _ _ _ _ _ m5 hJ
        · have hJ := it_neg c46 hJ
          exact mb_X10_isNearAgain_43 N k5 t0 _ _ _ _ _ m5 hJ
set_option maxRecDepth 100000 in
set_option maxHeartbeats 4000000 in
theorem sb_X10_isNearAgain_5 (C : Cx p s m args meth c cX10_isNearAgain 6 (some .boolean) RX10 D cs A h0.se) (hz2 : hz.nx ≤ h0.nx + mc ∧ hz.su ≤ h0.su + ms) (N : Nat) (k5 : Hp → Int32 → Int32 → Int32 → Int32 → Option (Hp × Int32)) (t0 : Nat) (m5 : ∀ (h : Hp) (x1 : Int32) (x2 : Int32) (x3 : Int32) (x4 : Int32), k5 h x1 x2 x3 x4 = some (hz, rz) → Mo h hz) (i5 : ∀ (h : Hp) (x1 : Int32) (x2 : Int32) (x3 : Int32) (x4 : Int32) (H : Heap) (locs : List Loc) (cells slots : Nat) (ls : Array Slot), k5 h x1 x2 x3 x4 = some (hz, rz) → h.kd t0 = 13 → Wo D cs A s h0 h H locs cells slots → lv_has ls 6 [(0, .ref t0), (1, .int x1), (2, .int x2), (3, .int x3), (4, .int x4)] → W p l e { frames := 2, cells := mc, slots := ms, locals := 60 } s m args below meth c H locs cells slots (MQ below (Zi D cs A hz rz) args s mc ms A) (F0 m 5 ls [])) (h : Hp) (x1 : Int32) (x2 : Int32) (x3 : Int32) (x4 : Int32) (hJ : B_X10_isNearAgain_5 N k5 t0 h x1 x2 x3 x4 = some (hz, rz)) (hk0 : h.kd t0 = 13) {H : Heap} {locs : List Loc} {cells slots : Nat} (w : Wo D cs A s h0 h H locs cells slots) {ls : Array Slot} (hl : lv_has ls 6 [(0, .ref t0), (1, .int x1), (2, .int x2), (3, .int x3), (4, .int x4)]) : W p l e { frames := 2, cells := mc, slots := ms, locals := 60 } s m args below meth c H locs cells slots (MQ below (Zi D cs A hz rz) args s mc ms A) (F0 m 5 ls []) := by
  obtain ⟨hx, hb, hml, hown, hts, -⟩ := id C
  unfold B_X10_isNearAgain_5 at hJ
  refine lv_iload hx hb dX10_isNearAgain_5 (lv_at hl 4 rfl) ?_
  refine lv_aload_n hx hb dX10_isNearAgain_7 rfl (lv_at hl 0 rfl) ?_
  refine fg_1353 C w hk0 tw_6_216 dX10_isNearAgain_8 ?_
  refine lv_icmp_ge (tgt := 98) hx hb dX10_isNearAgain_11 (by decide) (fun c24 => ?_) (fun c24 => ?_)
  · have hJ := it_pos c24 hJ
    refine lv_iload_n hx hb dX10_isNearAgain_98 rfl (lv_at hl 3 rfl) ?_
    refine lv_iconst (v := (-1 : Int32)) hx hb dX10_isNearAgain_99 (by decide) ?_
    refine lv_icmp_eq (tgt := 112) hx hb dX10_isNearAgain_100 (by decide) (fun c25 => ?_) (fun c25 => ?_)
    · have hJ := it_pos c25 hJ
      exact sb_X10_isNearAgain_112 C hz2 N t0 _ _ _ hJ hk0 w (lv_sub (l' := [(0, .ref t0), (1, .int x1), (3, .int x3)]) hl [0, 1, 3] rfl)
    · have hJ := it_neg c25 hJ
      refine lv_aload_n hx hb dX10_isNearAgain_103 rfl (lv_at hl 0 rfl) ?_
      refine fg_1335 C w hk0 tw_6_198 dX10_isNearAgain_104 ?_
      refine lv_iload_n hx hb dX10_isNearAgain_107 rfl (lv_at hl 1 rfl) ?_
      obtain ⟨a26, ea26, hka26, hJ⟩ := dr_some hJ
      rw [ea26]
      obtain ⟨hi27, hJ⟩ := ck_some hJ
      refine jr_ialdM C w hka26 hi27 dX10_isNearAgain_108 ?_
      refine lv_if_ne (tgt := 132) hx hb dX10_isNearAgain_109 (by decide) (fun c28 => ?_) (fun c28 => ?_)
      · have hJ := it_neg c28 hJ
        refine lv_aload_n hx hb dX10_isNearAgain_132 rfl (lv_at hl 0 rfl) ?_
        refine lv_aload_n hx hb dX10_isNearAgain_133 rfl (lv_at hl 0 rfl) ?_
        refine fg_1352 C w hk0 tw_6_215 dX10_isNearAgain_134 ?_
        refine lv_iload_n hx hb dX10_isNearAgain_137 rfl (lv_at hl 3 rfl) ?_
        obtain ⟨a29, ea29, hka29, hJ⟩ := dr_some hJ
        rw [ea29]
        obtain ⟨hi30, hJ⟩ := ck_some hJ
        refine jr_ialdM C w hka29 hi30 dX10_isNearAgain_138 ?_
        obtain ⟨⟨h31, r32⟩, e33, hJ⟩ := ob_some hJ
        refine jc_Vi (As := [.int (h.bi a29 x3.toNatClampNeg)]) C w (cc_X10_hasNow N t0 h (h.bi a29 x3.toNatClampNeg) hk0 e33) (mo_X10_hasNow N t0 h (h.bi a29 x3.toNatClampNeg) e33) (mb_X10_isNearAgain_142 N t0 _ _ _ _ hJ) hz2 hk0 (by decide) rfl (fs := fs13 h t0) rfl rfl ⟨tw_8_147, tw_8_144, tw_8_146, ts_73, tw_1_7⟩ cd_X10_hasNow ⟨by decide, by decide⟩ hl.1 (by first | exact Nat.le_of_ble_eq_true rfl | simp [rf_cat, cat_i, cat_l, cat_r]) rfl dX10_isNearAgain_139 (fun H locs w1 => ?_)
        have hk34 := kd_keep w (mo_X10_hasNow N t0 h (h.bi a29 x3.toNatClampNeg) e33) hk0 (by decide)
        have w := w1
        exact sb_X10_isNearAgain_142 C hz2 N t0 _ _ _ _ hJ hk34 w (lv_sub (l' := [(0, .ref t0), (1, .int x1), (3, .int x3)]) hl [0, 1, 3] rfl)
      · have hJ := it_pos c28 hJ
        exact sb_X10_isNearAgain_112 C hz2 N t0 _ _ _ hJ hk0 w (lv_sub (l' := [(0, .ref t0), (1, .int x1), (3, .int x3)]) hl [0, 1, 3] rfl)
  · have hJ := it_neg c24 hJ
    refine lv_iload_n hx hb dX10_isNearAgain_14 rfl (lv_at hl 2 rfl) ?_
    refine lv_if_eq (tgt := 47) hx hb dX10_isNearAgain_15 (by decide) (fun c35 => ?_) (fun c35 => ?_)
    · have hJ := it_pos c35 hJ
      refine lv_aload_n hx hb dX10_isNearAgain_47 rfl (lv_at hl 0 rfl) ?_
      refine fg_1352 C w hk0 tw_6_215 dX10_isNearAgain_48 ?_
      refine lv_iload hx hb dX10_isNearAgain_51 (lv_at hl 4 rfl) ?_
      obtain ⟨a36, ea36, hka36, hJ⟩ := dr_some hJ
      rw [ea36]
      obtain ⟨hi37, hJ⟩ := ck_some hJ
      refine jr_ialdM C w hka36 hi37 dX10_isNearAgain_53 ?_
      refine lv_aload_n hx hb dX10_isNearAgain_54 rfl (lv_at hl 0 rfl) ?_
      refine fg_1331 C w hk0 tw_6_194 dX10_isNearAgain_55 ?_
      refine lv_iload_n hx hb dX10_isNearAgain_58 rfl (lv_at hl 1 rfl) ?_
      obtain ⟨a38, ea38, hka38, hJ⟩ := dr_some hJ
      rw [ea38]
      obtain ⟨hi39, hJ⟩ := ck_some hJ
      refine jr_ialdM C w hka38 hi39 dX10_isNearAgain_59 ?_
      refine lv_icmp_gt (tgt := 67) hx hb dX10_isNearAgain_60 (by decide) (fun c40 => ?_) (fun c40 => ?_)
      · have hJ := it_pos c40 hJ
        refine lv_iconst (v := (0 : Int32)) hx hb dX10_isNearAgain_67 (by decide) ?_
        exact sb_X10_isNearAgain_68 C hz2 N k5 t0 m5 i5 _ _ _ _ _ _ hJ hk0 w hl
      · have hJ := it_neg c40 hJ
        refine lv_iconst (v := (1 : Int32)) hx hb dX10_isNearAgain_63 (by decide) ?_
        refine lv_goto (tgt := 68) hx hb dX10_isNearAgain_64 (by decide) ?_
        exact sb_X10_isNearAgain_68 C hz2 N k5 t0 m5 i5 _ _ _ _ _ _ hJ hk0 w hl
    · have hJ := it_neg c35 hJ
      refine lv_aload_n hx hb dX10_isNearAgain_18 rfl (lv_at hl 0 rfl) ?_
      refine fg_1352 C w hk0 tw_6_215 dX10_isNearAgain_19 ?_
      refine lv_iload hx hb dX10_isNearAgain_22 (lv_at hl 4 rfl) ?_
      obtain ⟨a41, ea41, hka41, hJ⟩ := dr_some hJ
      rw [ea41]
      obtain ⟨hi42, hJ⟩ := ck_some hJ
      refine jr_ialdM C w hka41 hi42 dX10_isNearAgain_24 ?_
      refine lv_aload_n hx hb dX10_isNearAgain_25 rfl (lv_at hl 0 rfl) ?_
      refine fg_1331 C w hk0 tw_6_194 dX10_isNearAgain_26 ?_
      refine lv_iload_n hx hb dX10_isNearAgain_29 rfl (lv_at hl 1 rfl) ?_
      obtain ⟨a43, ea43, hka43, hJ⟩ := dr_some hJ
      rw [ea43]
      obtain ⟨hi44, hJ⟩ := ck_some hJ
      refine jr_ialdM C w hka43 hi44 dX10_isNearAgain_30 ?_
      refine lv_icmp_lt (tgt := 43) hx hb dX10_isNearAgain_31 (by decide) (fun c45 => ?_) (fun c45 => ?_)
      · have hJ := it_pos c45 hJ
        exact sb_X10_isNearAgain_43 C hz2 N k5 t0 m5 i5 _ _ _ _ _ hJ hk0 w hl
      · have hJ := it_neg c45 hJ
        refine lv_iload_n hx hb dX10_isNearAgain_34 rfl (lv_at hl 3 rfl) ?_
        refine lv_iconst (v := (-1 : Int32)) hx hb dX10_isNearAgain_35 (by decide) ?_
        refine lv_icmp_ne (tgt := 43) hx hb dX10_isNearAgain_36 (by decide) (fun c46 => ?_) (fun c46 => ?_)
        · have hJ := it_neg c46 hJ
          exact sb_X10_isNearAgain_43 C hz2 N k5 t0 m5 i5 _ _ _ _ _ hJ hk0 w hl
        · have hJ := it_pos c46 hJ
          refine lv_iconst (v := (1 : Int32)) hx hb dX10_isNearAgain_39 (by decide) ?_
          refine lv_goto (tgt := 68) hx hb dX10_isNearAgain_40 (by decide) ?_
          exact sb_X10_isNearAgain_68 C hz2 N k5 t0 m5 i5 _ _ _ _ _ _ hJ hk0 w hl
def L_X10_isNearAgain_5 (N : Nat) (t0 : Nat) : Nat → Hp → Int32 → Int32 → Int32 → Int32 → Option (Hp × Int32)
  | 0 => fun _ _ _ _ _ => none
  | n + 1 => fun h x1 x2 x3 x4 => B_X10_isNearAgain_5 N (L_X10_isNearAgain_5 N t0 n) t0 h x1 x2 x3 x4
theorem ml_X10_isNearAgain_5 (N : Nat) (t0 : Nat) : ∀ (n : Nat) (h : Hp) (x1 : Int32) (x2 : Int32) (x3 : Int32) (x4 : Int32), L_X10_isNearAgain_5 N t0 n h x1 x2 x3 x4 = some (hz, rz) → Mo h hz := by
  intro n
  induction n with
  | zero => intro h x1 x2 x3 x4 hJ; cases hJ
  | succ n ih => intro h x1 x2 x3 x4 hJ; exact mb_X10_isNearAgain_5 N (L_X10_isNearAgain_5 N t0 n) t0 h x1 x2 x3 x4 ih hJ
theorem sl_X10_isNearAgain_5 (C : Cx p s m args meth c cX10_isNearAgain 6 (some .boolean) RX10 D cs A h0.se) (hz2 : hz.nx ≤ h0.nx + mc ∧ hz.su ≤ h0.su + ms) (N : Nat) (t0 : Nat) : ∀ n : Nat, ∀ (h : Hp) (x1 : Int32) (x2 : Int32) (x3 : Int32) (x4 : Int32) (H : Heap) (locs : List Loc) (cells slots : Nat) (ls : Array Slot), L_X10_isNearAgain_5 N t0 n h x1 x2 x3 x4 = some (hz, rz) → h.kd t0 = 13 → Wo D cs A s h0 h H locs cells slots → lv_has ls 6 [(0, .ref t0), (1, .int x1), (2, .int x2), (3, .int x3), (4, .int x4)] → W p l e { frames := 2, cells := mc, slots := ms, locals := 60 } s m args below meth c H locs cells slots (MQ below (Zi D cs A hz rz) args s mc ms A) (F0 m 5 ls []) := by
  intro n
  induction n with
  | zero => intro h x1 x2 x3 x4 H locs cells slots ls hJ; cases hJ
  | succ n ih =>
    intro h x1 x2 x3 x4 H locs cells slots ls hJ hk0 w hl
    exact sb_X10_isNearAgain_5 C hz2 N (L_X10_isNearAgain_5 N t0 n) t0 (ml_X10_isNearAgain_5 N t0 n) ih h x1 x2 x3 x4 hJ hk0 w hl
def B_X10_isNearAgain_0 (N : Nat) (t0 : Nat) (h : Hp) (x1 : Int32) (x2 : Int32) : Option (Hp × Int32) := L_X10_isNearAgain_5 N t0 N h x1 x2 (-1 : Int32) (0 : Int32)
theorem mb_X10_isNearAgain_0 (N : Nat) (t0 : Nat) (h : Hp) (x1 : Int32) (x2 : Int32) (hJ : B_X10_isNearAgain_0 N t0 h x1 x2 = some (hz, rz)) : Mo h hz := by
  unfold B_X10_isNearAgain_0 at hJ
  exact ml_X10_isNearAgain_5 N t0 N _ _ _ _ _ hJ
set_option maxRecDepth 100000 in
set_option maxHeartbeats 4000000 in
theorem sb_X10_isNearAgain_0 (C : Cx p s m args meth c cX10_isNearAgain 6 (some .boolean) RX10 D cs A h0.se) (hz2 : hz.nx ≤ h0.nx + mc ∧ hz.su ≤ h0.su + ms) (N : Nat) (t0 : Nat) (h : Hp) (x1 : Int32) (x2 : Int32) (hJ : B_X10_isNearAgain_0 N t0 h x1 x2 = some (hz, rz)) (hk0 : h.kd t0 = 13) {H : Heap} {locs : List Loc} {cells slots : Nat} (w : Wo D cs A s h0 h H locs cells slots) {ls : Array Slot} (hl : lv_has ls 6 [(0, .ref t0), (1, .int x1), (2, .int x2)]) : W p l e { frames := 2, cells := mc, slots := ms, locals := 60 } s m args below meth c H locs cells slots (MQ below (Zi D cs A hz rz) args s mc ms A) (F0 m 0 ls []) := by
  obtain ⟨hx, hb, hml, hown, hts, -⟩ := id C
  unfold B_X10_isNearAgain_0 at hJ
  refine lv_iconst (v := (-1 : Int32)) hx hb dX10_isNearAgain_0 (by decide) ?_
  refine lv_istore_n (i := 3) (lv' := [(3, .int (-1 : Int32)), (0, .ref t0), (1, .int x1), (2, .int x2)]) hx hb dX10_isNearAgain_1 rfl hl (by decide) rfl (fun ls hl => ?_)
  refine lv_iconst (v := (0 : Int32)) hx hb dX10_isNearAgain_2 (by decide) ?_
  refine lv_istore (i := 4) (lv' := [(4, .int (0 : Int32)), (3, .int (-1 : Int32)), (0, .ref t0), (1, .int x1), (2, .int x2)]) hx hb dX10_isNearAgain_3 hl (by decide) rfl (fun ls hl => ?_)
  exact sl_X10_isNearAgain_5 C hz2 N t0 N _ _ _ _ _ _ _ _ _ _ hJ hk0 w (lv_sub (l' := [(0, .ref t0), (1, .int x1), (2, .int x2), (3, .int (-1 : Int32)), (4, .int (0 : Int32))]) hl [2, 3, 4, 1, 0] rfl)
def J_X10_isNearAgain (N : Nat) (t0 : Nat) (h : Hp) (x1 : Int32) (x2 : Int32) : Option (Hp × Int32) := B_X10_isNearAgain_0 N t0 h x1 x2
theorem mo_X10_isNearAgain (N : Nat) (t0 : Nat) (h : Hp) (x1 : Int32) (x2 : Int32) (hJ : J_X10_isNearAgain N t0 h x1 x2 = some (hz, rz)) : Mo h hz := mb_X10_isNearAgain_0 N t0 h x1 x2 hJ
theorem cd_X10_isNearAgain : Cd yX10_isNearAgain 2 := ⟨by decide +kernel, by decide +kernel, by decide +kernel⟩
theorem cc_X10_isNearAgain (N : Nat) (t0 : Nat) (h : Hp) (x1 : Int32) (x2 : Int32) (hk0 : h.kd t0 = 13) (hJ : J_X10_isNearAgain N t0 h x1 x2 = some (hz, rz)) : Ci l yX10_isNearAgain cX10_isNearAgain 6 (some .boolean) 2 60 D cs h hz [.ref t0, .int x1, .int x2] rz := by
  intro mc ms g1 g2
  refine je_any (by decide) (by simp [lg_sl, rf_cat, cat_i, cat_l, cat_r]) ?_
  intro p e s m args below meth c C hin2 w ls hl
  have hl : lv_has ls 6 [(0, .ref t0), (1, .int x1), (2, .int x2)] := hl
  exact sb_X10_isNearAgain_0 C ⟨g1, g2⟩ N t0 h x1 x2 hJ hk0 w hl
end G_X10_isNearAgain
section G_X10_isScanAgain
variable {p : Program} {l : Launch} {e : Env} {s : State} {m : MethodId} {args : Array Value} {below : List Frame} {meth : Method} {c : Code} {D : va_G} {cs : C4} {A : Nat → Prop} {h0 hz : Hp} {mc ms : Nat} {rz : Int32}
def B_X10_isScanAgain_142 (N : Nat) (k7 : Hp → Int32 → Int32 → Int32 → Int32 → Option (Hp × Int32)) (t0 : Nat) (h : Hp) (x1 : Int32) (x2 : Int32) (x3 : Int32) (x4 : Int32) : Option (Hp × Int32) := k7 h x1 x2 x3 (x4 + (1 : Int32))
theorem mb_X10_isScanAgain_142 (N : Nat) (k7 : Hp → Int32 → Int32 → Int32 → Int32 → Option (Hp × Int32)) (t0 : Nat) (h : Hp) (x1 : Int32) (x2 : Int32) (x3 : Int32) (x4 : Int32) (m7 : ∀ (h : Hp) (x1 : Int32) (x2 : Int32) (x3 : Int32) (x4 : Int32), k7 h x1 x2 x3 x4 = some (hz, rz) → Mo h hz) (hJ : B_X10_isScanAgain_142 N k7 t0 h x1 x2 x3 x4 = some (hz, rz)) : Mo h hz := by
  unfold B_X10_isScanAgain_142 at hJ
  exact m7 _ _ _ _ _ hJ
set_option maxRecDepth 100000 in
set_option maxHeartbeats 4000000 in
theorem sb_X10_isScanAgain_142 (C : Cx p s m args meth c cX10_isScanAgain 5 (some .boolean) RX10 D cs A h0.se) (hz2 : hz.nx ≤ h0.nx + mc ∧ hz.su ≤ h0.su + ms) (N : Nat) (k7 : Hp → Int32 → Int32 → Int32 → Int32 → Option (Hp × Int32)) (t0 : Nat) (m7 : ∀ (h : Hp) (x1 : Int32) (x2 : Int32) (x3 : Int32) (x4 : Int32), k7 h x1 x2 x3 x4 = some (hz, rz) → Mo h hz) (i7 : ∀ (h : Hp) (x1 : Int32) (x2 : Int32) (x3 : Int32) (x4 : Int32) (H : Heap) (locs : List Loc) (cells slots : Nat) (ls : Array Slot), k7 h x1 x2 x3 x4 = some (hz, rz) → h.kd t0 = 13 → Wo D cs A s h0 h H locs cells slots → lv_has ls 5 [(0, .ref t0), (1, .int x1), (2, .int x2), (3, .int x3), (4, .int x4)] → W p l e { frames := 2, cells := mc, slots := ms, locals := 60 } s m args below meth c H locs cells slots (MQ below (Zi D cs A hz rz) args s mc ms A) (F0 m 7 ls [])) (h : Hp) (x1 : Int32) (x2 : Int32) (x3 : Int32) (x4 : Int32) (hJ : B_X10_isScanAgain_142 N k7 t0 h x1 x2 x3 x4 = some (hz, rz)) (hk0 : h.kd t0 = 13) {H : Heap} {locs : List Loc} {cells slots : Nat} (w : Wo D cs A s h0 h H locs cells slots) {ls : Array Slot} (hl : lv_has ls 5 [(0, .ref t0), (1, .int x1), (2, .int x2), (3, .int x3), (4, .int x4)]) : W p l e { frames := 2, cells := mc, slots := ms, locals := 60 } s m args below meth c H locs cells slots (MQ below (Zi D cs A hz rz) args s mc ms A) (F0 m 142 ls []) := by
  obtain ⟨hx, hb, hml, hown, hts, -⟩ := id C
  unfold B_X10_isScanAgain_142 at hJ
  refine lv_iinc (v := x4 + (1 : Int32)) (lv' := [(4, .int (x4 + (1 : Int32))), (0, .ref t0), (1, .int x1), (2, .int x2), (3, .int x3)]) hx hb dX10_isScanAgain_142 hl (k := 4) rfl rfl (by decide) rfl (fun ls hl => ?_)
  refine lv_goto (tgt := 7) hx hb dX10_isScanAgain_145 (by decide) ?_
  exact i7 _ _ _ _ _ _ _ _ _ _ hJ hk0 w (lv_sub (l' := [(0, .ref t0), (1, .int x1), (2, .int x2), (3, .int x3), (4, .int (x4 + (1 : Int32)))]) hl [1, 2, 3, 4, 0] rfl)
def B_X10_isScanAgain_138 (N : Nat) (k7 : Hp → Int32 → Int32 → Int32 → Int32 → Option (Hp × Int32)) (t0 : Nat) (h : Hp) (x1 : Int32) (x2 : Int32) (x4 : Int32) (y0 : Int32) : Option (Hp × Int32) := B_X10_isScanAgain_142 N k7 t0 h x1 (x2 + (1 : Int32)) y0 x4
theorem mb_X10_isScanAgain_138 (N : Nat) (k7 : Hp → Int32 → Int32 → Int32 → Int32 → Option (Hp × Int32)) (t0 : Nat) (h : Hp) (x1 : Int32) (x2 : Int32) (x4 : Int32) (y0 : Int32) (m7 : ∀ (h : Hp) (x1 : Int32) (x2 : Int32) (x3 : Int32) (x4 : Int32), k7 h x1 x2 x3 x4 = some (hz, rz) → Mo h hz) (hJ : B_X10_isScanAgain_138 N k7 t0 h x1 x2 x4 y0 = some (hz, rz)) : Mo h hz := by
  unfold B_X10_isScanAgain_138 at hJ
  exact mb_X10_isScanAgain_142 N k7 t0 _ _ _ _ _ m7 hJ
set_option maxRecDepth 100000 in
set_option maxHeartbeats 4000000 in
theorem sb_X10_isScanAgain_138 (C : Cx p s m args meth c cX10_isScanAgain 5 (some .boolean) RX10 D cs A h0.se) (hz2 : hz.nx ≤ h0.nx + mc ∧ hz.su ≤ h0.su + ms) (N : Nat) (k7 : Hp → Int32 → Int32 → Int32 → Int32 → Option (Hp × Int32)) (t0 : Nat) (m7 : ∀ (h : Hp) (x1 : Int32) (x2 : Int32) (x3 : Int32) (x4 : Int32), k7 h x1 x2 x3 x4 = some (hz, rz) → Mo h hz) (i7 : ∀ (h : Hp) (x1 : Int32) (x2 : Int32) (x3 : Int32) (x4 : Int32) (H : Heap) (locs : List Loc) (cells slots : Nat) (ls : Array Slot), k7 h x1 x2 x3 x4 = some (hz, rz) → h.kd t0 = 13 → Wo D cs A s h0 h H locs cells slots → lv_has ls 5 [(0, .ref t0), (1, .int x1), (2, .int x2), (3, .int x3), (4, .int x4)] → W p l e { frames := 2, cells := mc, slots := ms, locals := 60 } s m args below meth c H locs cells slots (MQ below (Zi D cs A hz rz) args s mc ms A) (F0 m 7 ls [])) (h : Hp) (x1 : Int32) (x2 : Int32) (x4 : Int32) (y0 : Int32) (hJ : B_X10_isScanAgain_138 N k7 t0 h x1 x2 x4 y0 = some (hz, rz)) (hk0 : h.kd t0 = 13) {H : Heap} {locs : List Loc} {cells slots : Nat} (w : Wo D cs A s h0 h H locs cells slots) {ls : Array Slot} (hl : lv_has ls 5 [(0, .ref t0), (1, .int x1), (2, .int x2), (4, .int x4)]) : W p l e { frames := 2, cells := mc, slots := ms, locals := 60 } s m args below meth c H locs cells slots (MQ below (Zi D cs A hz rz) args s mc ms A) (F0 m 138 ls [.int y0]) := by
  obtain ⟨hx, hb, hml, hown, hts, -⟩ := id C
  unfold B_X10_isScanAgain_138 at hJ
  refine lv_istore_n (i := 3) (lv' := [(3, .int y0), (0, .ref t0), (1, .int x1), (2, .int x2), (4, .int x4)]) hx hb dX10_isScanAgain_138 rfl hl (by decide) rfl (fun ls hl => ?_)
  refine lv_iinc (v := x2 + (1 : Int32)) (lv' := [(2, .int (x2 + (1 : Int32))), (3, .int y0), (0, .ref t0), (1, .int x1), (4, .int x4)]) hx hb dX10_isScanAgain_139 hl (k := 3) rfl rfl (by decide) rfl (fun ls hl => ?_)
  exact sb_X10_isScanAgain_142 C hz2 N k7 t0 m7 i7 _ _ _ _ _ hJ hk0 w (lv_sub (l' := [(0, .ref t0), (1, .int x1), (2, .int (x2 + (1 : Int32))), (3, .int y0), (4, .int x4)]) hl [2, 3, 0, 1, 4] rfl)
def B_X10_isScanAgain_137 (N : Nat) (k7 : Hp → Int32 → Int32 → Int32 → Int32 → Option (Hp × Int32)) (t0 : Nat) (h : Hp) (x1 : Int32) (x2 : Int32) (x4 : Int32) : Option (Hp × Int32) := B_X10_isScanAgain_138 N k7 t0 h x1 x2 x4 (0 : Int32)
theorem mb_X10_isScanAgain_137 (N : Nat) (k7 : Hp → Int32 → Int32 → Int32 → Int32 → Option (Hp × Int32)) (t0 : Nat) (h : Hp) (x1 : Int32) (x2 : Int32) (x4 : Int32) (m7 : ∀ (h : Hp) (x1 : Int32) (x2 : Int32) (x3 : Int32) (x4 : Int32), k7 h x1 x2 x3 x4 = some (hz, rz) → Mo h hz) (hJ : B_X10_isScanAgain_137 N k7 t0 h x1 x2 x4 = some (hz, rz)) : Mo h hz := by
  unfold B_X10_isScanAgain_137 at hJ
  exact mb_X10_isScanAgain_138 N k7 t0 _ _ _ _ _ m7 hJ
set_option maxRecDepth 100000 in
set_option maxHeartbeats 4000000 in
theorem sb_X10_isScanAgain_137 (C : Cx p s m args meth c cX10_isScanAgain 5 (some .boolean) RX10 D cs A h0.se) (hz2 : hz.nx ≤ h0.nx + mc ∧ hz.su ≤ h0.su + ms) (N : Nat) (k7 : Hp → Int32 → Int32 → Int32 → Int32 → Option (Hp × Int32)) (t0 : Nat) (m7 : ∀ (h : Hp) (x1 : Int32) (x2 : Int32) (x3 : Int32) (x4 : Int32), k7 h x1 x2 x3 x4 = some (hz, rz) → Mo h hz) (i7 : ∀ (h : Hp) (x1 : Int32) (x2 : Int32) (x3 : Int32) (x4 : Int32) (H : Heap) (locs : List Loc) (cells slots : Nat) (ls : Array Slot), k7 h x1 x2 x3 x4 = some (hz, rz) → h.kd t0 = 13 → Wo D cs A s h0 h H locs cells slots → lv_has ls 5 [(0, .ref t0), (1, .int x1), (2, .int x2), (3, .int x3), (4, .int x4)] → W p l e { frames := 2, cells := mc, slots := ms, locals := 60 } s m args below meth c H locs cells slots (MQ below (Zi D cs A hz rz) args s mc ms A) (F0 m 7 ls [])) (h : Hp) (x1 : Int32) (x2 : Int32) (x4 : Int32) (hJ : B_X10_isScanAgain_137 N k7 t0 h x1 x2 x4 = some (hz, rz)) (hk0 : h.kd t0 = 13) {H : Heap} {locs : List Loc} {cells slots : Nat} (w : Wo D cs A s h0 h H locs cells slots) {ls : Array Slot} (hl : lv_has ls 5 [(0, .ref t0), (1, .int x1), (2, .int x2), (4, .int x4)]) : W p l e { frames := 2, cells := mc, slots := ms, locals := 60 } s m args below meth c H locs cells slots (MQ below (Zi D cs A hz rz) args s mc ms A) (F0 m 137 ls []) := by
  obtain ⟨hx, hb, hml, hown, hts, -⟩ := id C
  unfold B_X10_isScanAgain_137 at hJ
  refine lv_iconst (v := (0 : Int32)) hx hb dX10_isScanAgain_137 (by decide) ?_
  exact sb_X10_isScanAgain_138 C hz2 N k7 t0 m7 i7 _ _ _ _ _ hJ hk0 w hl
def B_X10_isScanAgain_69 (N : Nat) (k7 : Hp → Int32 → Int32 → Int32 → Int32 → Option (Hp × Int32)) (t0 : Nat) (h : Hp) (x1 : Int32) (x2 : Int32) (x3 : Int32) (x4 : Int32) (y0 : Int32) : Option (Hp × Int32) := if y0 = 0 then (B_X10_isScanAgain_142 N k7 t0 h x1 x2 x3 x4) else (if x3 = 0 then (B_X10_isScanAgain_137 N k7 t0 h x1 x2 x4) else (dr h 30 (h.gr 1335 t0) (fun a3 => ck (¬ (x1 < 0 ∨ h.al a3 ≤ x1.toNatClampNeg)) (if (h.bi a3 x1.toNatClampNeg) ≤ x2 then (B_X10_isScanAgain_137 N k7 t0 h x1 x2 x4) else (dr h 30 (h.gr 1338 t0) (fun a6 => ck (¬ (x1 < 0 ∨ h.al a6 ≤ x1.toNatClampNeg)) (dr h 30 (h.gr 1340 t0) (fun a8 => ck (¬ ((h.bi a6 x1.toNatClampNeg) + x2 < 0 ∨ h.al a8 ≤ ((h.bi a6 x1.toNatClampNeg) + x2).toNatClampNeg)) (dr h 30 (h.gr 1352 t0) (fun a10 => ck (¬ (x4 < 0 ∨ h.al a10 ≤ x4.toNatClampNeg)) (if (h.bi a8 ((h.bi a6 x1.toNatClampNeg) + x2).toNatClampNeg) = (h.bi a10 x4.toNatClampNeg) then (dr h 30 (h.gr 1338 t0) (fun a13 => ck (¬ (x1 < 0 ∨ h.al a13 ≤ x1.toNatClampNeg)) (dr h 31 (h.gr 1341 t0) (fun a15 => ck (¬ ((h.bi a13 x1.toNatClampNeg) + x2 < 0 ∨ h.al a15 ≤ ((h.bi a13 x1.toNatClampNeg) + x2).toNatClampNeg)) (if (lg_cmp (h.bw a15 ((h.bi a13 x1.toNatClampNeg) + x2).toNatClampNeg) (h.gl 1351 t0)) = 0 then (B_X10_isScanAgain_138 N k7 t0 h x1 x2 x4 (1 : Int32)) else (B_X10_isScanAgain_137 N k7 t0 h x1 x2 x4)))))) else (B_X10_isScanAgain_137 N k7 t0 h x1 x2 x4))))))))))))
theorem mb_X10_isScanAgain_69 (N : Nat) (k7 : Hp → Int32 → Int32 → Int32 → Int32 → Option (Hp × Int32)) (t0 : Nat) (h : Hp) (x1 : Int32) (x2 : Int32) (x3 : Int32) (x4 : Int32) (y0 : Int32) (m7 : ∀ (h : Hp) (x1 : Int32) (x2 : Int32) (x3 : Int32) (x4 : Int32), k7 h x1 x2 x3 x4 = some (hz, rz) → Mo h hz) (hJ : B_X10_isScanAgain_69 N k7 t0 h x1 x2 x3 x4 y0 = some (hz, rz)) : Mo h hz := by
  unfold B_X10_isScanAgain_69 at hJ
  by_cases c1 : y0 = 0
  · have hJ := it_pos c1 hJ
    exact mb_X10_isScanAgain_142 N k7 t0 _ _ _ _ _ m7 hJ
  · have hJ := it_neg c1 hJ
    by_cases c2 : x3 = 0
    · have hJ := it_pos c2 hJ
      exact mb_X10_isScanAgain_137 N k7 t0 _ _ _ _ m7 hJ
    · have hJ := it_neg c2 hJ
      obtain ⟨a3, ea3, -, hJ⟩ := dr_some hJ
      obtain ⟨-, hJ⟩ := ck_some hJ
      by_cases c5 : (h.bi a3 x1.toNatClampNeg) ≤ x2
      · have hJ := it_pos c5 hJ
        exact mb_X10_isScanAgain_137 N k7 t0 _ _ _ _ m7 hJ
      · have hJ := it_neg c5 hJ
        obtain ⟨a6, ea6, -, hJ⟩ := dr_some hJ
        obtain ⟨-, hJ⟩ := ck_some hJ
        obtain ⟨a8, ea8, -, hJ⟩ := dr_some hJ
        obtain ⟨-, hJ⟩ := ck_some hJ
        obtain ⟨a10, ea10, -, hJ⟩ := dr_some hJ
        obtain ⟨-, hJ⟩ := ck_some hJ
        by_cases c12 : (h.bi a8 ((h.bi a6 x1.toNatClampNeg) + x2).toNatClampNeg) = (h.bi a10 x4.toNatClampNeg)
        · have hJ := it_pos c12 hJ
          obtain ⟨a13, ea13, -, hJ⟩ := dr_some hJ
          obtain ⟨-, hJ⟩ := ck_some hJ
          obtain ⟨a15, ea15, -, hJ⟩ := dr_some hJ
          obtain ⟨-, hJ⟩ := ck_some hJ
          by_cases c17 : (lg_cmp (h.bw a15 ((h.bi a13 x1.toNatClampNeg) + x2).toNatClampNeg) (h.gl 1351 t0)) = 0
          · have hJ := it_pos c17 hJ
            exact mb_X10_isScanAgain_138 N k7 t0 _ _ _ _ _ m7 hJ
          · have hJ := it_neg c17 hJ
            exact mb_X10_isScanAgain_137 N k7 t0 _ _ _ _ m7 hJ
        · have hJ := it_neg c12 hJ
          exact mb_X10_isScanAgain_137 N k7 t0 _ _ _ _ m7 hJ
set_option maxRecDepth 100000 in
set_option maxHeartbeats 4000000 in
theorem sb_X10_isScanAgain_69 (C : Cx p s m args meth c cX10_isScanAgain 5 (some .boolean) RX10 D cs A h0.se) (hz2 : hz.nx ≤ h0.nx + mc ∧ hz.su ≤ h0.su + ms) (N : Nat) (k7 : Hp → Int32 → Int32 → Int32 → Int32 → Option (Hp × Int32)) (t0 : Nat) (m7 : ∀ (h : Hp) (x1 : Int32) (x2 : Int32) (x3 : Int32) (x4 : Int32), k7 h x1 x2 x3 x4 = some (hz, rz) → Mo h hz) (i7 : ∀ (h : Hp) (x1 : Int32) (x2 : Int32) (x3 : Int32) (x4 : Int32) (H : Heap) (locs : List Loc) (cells slots : Nat) (ls : Array Slot), k7 h x1 x2 x3 x4 = some (hz, rz) → h.kd t0 = 13 → Wo D cs A s h0 h H locs cells slots → lv_has ls 5 [(0, .ref t0), (1, .int x1), (2, .int x2), (3, .int x3), (4, .int x4)] → W p l e { frames := 2, cells := mc, slots := ms, locals := 60 } s m args below meth c H locs cells slots (MQ below (Zi D cs A hz rz) args s mc ms A) (F0 m 7 ls [])) (h : Hp) (x1 : Int32) (x2 : Int32) (x3 : Int32) (x4 : Int32) (y0 : Int32) (hJ : B_X10_isScanAgain_69 N k7 t0 h x1 x2 x3 x4 y0 = some (hz, rz)) (hk0 : h.kd t0 = 13) {H : Heap} {locs : List Loc} {cells slots : Nat} (w : Wo D cs A s h0 h H locs cells slots) {ls : Array Slot} (hl : lv_has ls 5 [(0, .ref t0), (1, .int x1), (2, .int x2), (3, .int x3), (4, .int x4)]) : W p l e { frames := 2, cells := mc, slots := ms, locals := 60 } s m args below meth c H locs cells slots (MQ below (Zi D cs A hz rz) args s mc ms A) (F0 m 69 ls [.int y0]) := by
  obtain ⟨hx, hb, hml, hown, hts, -⟩ := id C
  unfold B_X10_isScanAgain_69 at hJ
  refine lv_if_ne (tgt := 75) hx hb dX10_isScanAgain_69 (by decide) (fun c1 => ?_) (fun c1 => ?_)
  · have hJ := it_neg c1 hJ
    refine lv_iload_n hx hb dX10_isScanAgain_75 rfl (lv_at hl 3 rfl) ?_
    refine lv_if_eq (tgt := 137) hx hb dX10_isScanAgain_76 (by decide) (fun c2 => ?_) (fun c2 => ?_)
    · have hJ := it_pos c2 hJ
      exact sb_X10_isScanAgain_137 C hz2 N k7 t0 m7 i7 _ _ _ _ hJ hk0 w (lv_sub (l' := [(0, .ref t0), (1, .int x1), (2, .int x2), (4, .int x4)]) hl [0, 1, 2, 4] rfl)
    · have hJ := it_neg c2 hJ
      refine lv_iload_n hx hb dX10_isScanAgain_79 rfl (lv_at hl 2 rfl) ?_
      refine lv_aload_n hx hb dX10_isScanAgain_80 rfl (lv_at hl 0 rfl) ?_
      refine fg_1335 C w hk0 tw_6_198 dX10_isScanAgain_81 ?_
      refine lv_iload_n hx hb dX10_isScanAgain_84 rfl (lv_at hl 1 rfl) ?_
      obtain ⟨a3, ea3, hka3, hJ⟩ := dr_some hJ
      rw [ea3]
      obtain ⟨hi4, hJ⟩ := ck_some hJ
      refine jr_ialdM C w hka3 hi4 dX10_isScanAgain_85 ?_
      refine lv_icmp_ge (tgt := 137) hx hb dX10_isScanAgain_86 (by decide) (fun c5 => ?_) (fun c5 => ?_)
      · have hJ := it_pos c5 hJ
        exact sb_X10_isScanAgain_137 C hz2 N k7 t0 m7 i7 _ _ _ _ hJ hk0 w (lv_sub (l' := [(0, .ref t0), (1, .int x1), (2, .int x2), (4, .int x4)]) hl [0, 1, 2, 4] rfl)
      · have hJ := it_neg c5 hJ
        refine lv_aload_n hx hb dX10_isScanAgain_89 rfl (lv_at hl 0 rfl) ?_
        refine fg_1340 C w hk0 tw_6_203 dX10_isScanAgain_90 ?_
        refine lv_aload_n hx hb dX10_isScanAgain_93 rfl (lv_at hl 0 rfl) ?_
        refine fg_1338 C w hk0 tw_6_201 dX10_isScanAgain_94 ?_
        refine lv_iload_n hx hb dX10_isScanAgain_97 rfl (lv_at hl 1 rfl) ?_
        obtain ⟨a6, ea6, hka6, hJ⟩ := dr_some hJ
        rw [ea6]
        obtain ⟨hi7, hJ⟩ := ck_some hJ
        refine jr_ialdM C w hka6 hi7 dX10_isScanAgain_98 ?_
        refine lv_iload_n hx hb dX10_isScanAgain_99 rfl (lv_at hl 2 rfl) ?_
        refine lv_iadd hx hb dX10_isScanAgain_100 ?_
        obtain ⟨a8, ea8, hka8, hJ⟩ := dr_some hJ
        rw [ea8]
        obtain ⟨hi9, hJ⟩ := ck_some hJ
        refine jr_ialdM C w hka8 hi9 dX10_isScanAgain_101 ?_
        refine lv_aload_n hx hb dX10_isScanAgain_102 rfl (lv_at hl 0 rfl) ?_
        refine fg_1352 C w hk0 tw_6_215 dX10_isScanAgain_103 ?_
        refine lv_iload hx hb dX10_isScanAgain_106 (lv_at hl 4 rfl) ?_
        obtain ⟨a10, ea10, hka10, hJ⟩ := dr_some hJ
        rw [ea10]
        obtain ⟨hi11, hJ⟩ := ck_some hJ
        refine jr_ialdM C w hka10 hi11 dX10_isScanAgain_108 ?_
        refine lv_icmp_ne (tgt := 137) hx hb dX10_isScanAgain_109 (by decide) (fun c12 => ?_) (fun c12 => ?_)
        · have hJ := it_neg c12 hJ
          exact sb_X10_isScanAgain_137 C hz2 N k7 t0 m7 i7 _ _ _ _ hJ hk0 w (lv_sub (l' := [(0, .ref t0), (1, .int x1), (2, .int x2), (4, .int x4)]) hl [0, 1, 2, 4] rfl)
        · have hJ := it_pos c12 hJ
          refine lv_aload_n hx hb dX10_isScanAgain_112 rfl (lv_at hl 0 rfl) ?_
          refine fg_1341 C w hk0 tw_6_204 dX10_isScanAgain_113 ?_
          refine lv_aload_n hx hb dX10_isScanAgain_116 rfl (lv_at hl 0 rfl) ?_
          refine fg_1338 C w hk0 tw_6_201 dX10_isScanAgain_117 ?_
          refine lv_iload_n hx hb dX10_isScanAgain_120 rfl (lv_at hl 1 rfl) ?_
          obtain ⟨a13, ea13, hka13, hJ⟩ := dr_some hJ
          rw [ea13]
          obtain ⟨hi14, hJ⟩ := ck_some hJ
          refine jr_ialdM C w hka13 hi14 dX10_isScanAgain_121 ?_
          refine lv_iload_n hx hb dX10_isScanAgain_122 rfl (lv_at hl 2 rfl) ?_
          refine lv_iadd hx hb dX10_isScanAgain_123 ?_
          obtain ⟨a15, ea15, hka15, hJ⟩ := dr_some hJ
          rw [ea15]
          obtain ⟨hi16, hJ⟩ := ck_some hJ
          refine jr_laldM C w hka15 hi16 dX10_isScanAgain_124 ?_
          refine lv_aload_n hx hb dX10_isScanAgain_125 rfl (lv_at hl 0 rfl) ?_
          refine fg_1351 C w hk0 tw_6_214 dX10_isScanAgain_126 ?_
          refine W.lcmp hx hb dX10_isScanAgain_129 ?_
          refine lv_if_ne (tgt := 137) hx hb dX10_isScanAgain_130 (by decide) (fun c17 => ?_) (fun c17 => ?_)
          · have hJ := it_neg c17 hJ
            exact sb_X10_isScanAgain_137 C hz2 N k7 t0 m7 i7 _ _ _ _ hJ hk0 w (lv_sub (l' := [(0, .ref t0), (1, .int x1), (2, .int x2), (4, .int x4)]) hl [0, 1, 2, 4] rfl)
          · have hJ := it_pos c17 hJ
            refine lv_iconst (v := (1 : Int32)) hx hb dX10_isScanAgain_133 (by decide) ?_
            refine lv_goto (tgt := 138) hx hb dX10_isScanAgain_134 (by decide) ?_
            exact sb_X10_isScanAgain_138 C hz2 N k7 t0 m7 i7 _ _ _ _ _ hJ hk0 w (lv_sub (l' := [(0, .ref t0), (1, .int x1), (2, .int x2), (4, .int x4)]) hl [0, 1, 2, 4] rfl)
  · have hJ := it_pos c1 hJ
    refine lv_goto (tgt := 142) hx hb dX10_isScanAgain_72 (by decide) ?_
    exact sb_X10_isScanAgain_142 C hz2 N k7 t0 m7 i7 _ _ _ _ _ hJ hk0 w hl
def B_X10_isScanAgain_167 (N : Nat) (t0 : Nat) (h : Hp) (y0 : Int32) : Option (Hp × Int32) := ck (y0 = 0 ∨ y0 = 1) (some (h, y0))
theorem mb_X10_isScanAgain_167 (N : Nat) (t0 : Nat) (h : Hp) (y0 : Int32) (hJ : B_X10_isScanAgain_167 N t0 h y0 = some (hz, rz)) : Mo h hz := by
  unfold B_X10_isScanAgain_167 at hJ
  obtain ⟨-, hJ⟩ := ck_some hJ
  obtain ⟨rfl, -⟩ := rs2 hJ
  exact ⟨fun _ _ => rfl, Nat.le_refl _, Nat.le_refl _, rfl, fun _ _ => rfl⟩
set_option maxRecDepth 100000 in
set_option maxHeartbeats 4000000 in
theorem sb_X10_isScanAgain_167 (C : Cx p s m args meth c cX10_isScanAgain 5 (some .boolean) RX10 D cs A h0.se) (hz2 : hz.nx ≤ h0.nx + mc ∧ hz.su ≤ h0.su + ms) (N : Nat) (t0 : Nat) (h : Hp) (y0 : Int32) (hJ : B_X10_isScanAgain_167 N t0 h y0 = some (hz, rz)) (hk0 : h.kd t0 = 13) {H : Heap} {locs : List Loc} {cells slots : Nat} (w : Wo D cs A s h0 h H locs cells slots) {ls : Array Slot} (hl : lv_has ls 5 [(0, .ref t0)]) : W p l e { frames := 2, cells := mc, slots := ms, locals := 60 } s m args below meth c H locs cells slots (MQ below (Zi D cs A hz rz) args s mc ms A) (F0 m 167 ls [.int y0]) := by
  obtain ⟨hx, hb, hml, hown, hts, -⟩ := id C
  unfold B_X10_isScanAgain_167 at hJ
  obtain ⟨hzo18, hJ⟩ := ck_some hJ
  obtain ⟨rfl, rfl⟩ := rs2 hJ
  exact jr_zret C w hzo18 hz2 dX10_isScanAgain_167
def B_X10_isScanAgain_166 (N : Nat) (t0 : Nat) (h : Hp) : Option (Hp × Int32) := B_X10_isScanAgain_167 N t0 h (0 : Int32)
theorem mb_X10_isScanAgain_166 (N : Nat) (t0 : Nat) (h : Hp) (hJ : B_X10_isScanAgain_166 N t0 h = some (hz, rz)) : Mo h hz := by
  unfold B_X10_isScanAgain_166 at hJ
  exact mb_X10_isScanAgain_167 N t0 _ _ hJ
set_option maxRecDepth 100000 in
set_option maxHeartbeats 4000000 in
theorem sb_X10_isScanAgain_166 (C : Cx p s m args meth c cX10_isScanAgain 5 (some .boolean) RX10 D cs A h0.se) (hz2 : hz.nx ≤ h0.nx + mc ∧ hz.su ≤ h0.su + ms) (N : Nat) (t0 : Nat) (h : Hp) (hJ : B_X10_isScanAgain_166 N t0 h = some (hz, rz)) (hk0 : h.kd t0 = 13) {H : Heap} {locs : List Loc} {cells slots : Nat} (w : Wo D cs A s h0 h H locs cells slots) {ls : Array Slot} (hl : lv_has ls 5 [(0, .ref t0)]) : W p l e { frames := 2, cells := mc, slots := ms, locals := 60 } s m args below meth c H locs cells slots (MQ below (Zi D cs A hz rz) args s mc ms A) (F0 m 166 ls []) := by
  obtain ⟨hx, hb, hml, hown, hts, -⟩ := id C
  unfold B_X10_isScanAgain_166 at hJ
  refine lv_iconst (v := (0 : Int32)) hx hb dX10_isScanAgain_166 (by decide) ?_
  exact sb_X10_isScanAgain_167 C hz2 N t0 _ _ hJ hk0 w hl
def B_X10_isScanAgain_148 (N : Nat) (t0 : Nat) (h : Hp) (x1 : Int32) (x2 : Int32) (x3 : Int32) : Option (Hp × Int32) := if x3 = 0 then (B_X10_isScanAgain_166 N t0 h) else (dr h 30 (h.gr 1335 t0) (fun a20 => ck (¬ (x1 < 0 ∨ h.al a20 ≤ x1.toNatClampNeg)) (if x2 = (h.bi a20 x1.toNatClampNeg) then (B_X10_isScanAgain_167 N t0 h (1 : Int32)) else (B_X10_isScanAgain_166 N t0 h))))
theorem mb_X10_isScanAgain_148 (N : Nat) (t0 : Nat) (h : Hp) (x1 : Int32) (x2 : Int32) (x3 : Int32) (hJ : B_X10_isScanAgain_148 N t0 h x1 x2 x3 = some (hz, rz)) : Mo h hz := by
  unfold B_X10_isScanAgain_148 at hJ
  by_cases c19 : x3 = 0
  · have hJ := it_pos c19 hJ
    exact mb_X10_isScanAgain_166 N t0 _ hJ
  · have hJ := it_neg c19 hJ
    obtain ⟨a20, ea20, -, hJ⟩ := dr_some hJ
    obtain ⟨-, hJ⟩ := ck_some hJ
    by_cases c22 : x2 = (h.bi a20 x1.toNatClampNeg)
    · have hJ := it_pos c22 hJ
      exact mb_X10_isScanAgain_167 N t0 _ _ hJ
    · have hJ := it_neg c22 hJ
      exact mb_X10_isScanAgain_166 N t0 _ hJ
set_option maxRecDepth 100000 in
set_option maxHeartbeats 4000000 in
theorem sb_X10_isScanAgain_148 (C : Cx p s m args meth c cX10_isScanAgain 5 (some .boolean) RX10 D cs A h0.se) (hz2 : hz.nx ≤ h0.nx + mc ∧ hz.su ≤ h0.su + ms) (N : Nat) (t0 : Nat) (h : Hp) (x1 : Int32) (x2 : Int32) (x3 : Int32) (hJ : B_X10_isScanAgain_148 N t0 h x1 x2 x3 = some (hz, rz)) (hk0 : h.kd t0 = 13) {H : Heap} {locs : List Loc} {cells slots : Nat} (w : Wo D cs A s h0 h H locs cells slots) {ls : Array Slot} (hl : lv_has ls 5 [(0, .ref t0), (1, .int x1), (2, .int x2), (3, .int x3)]) : W p l e { frames := 2, cells := mc, slots := ms, locals := 60 } s m args below meth c H locs cells slots (MQ below (Zi D cs A hz rz) args s mc ms A) (F0 m 148 ls []) := by
  obtain ⟨hx, hb, hml, hown, hts, -⟩ := id C
  unfold B_X10_isScanAgain_148 at hJ
  refine lv_iload_n hx hb dX10_isScanAgain_148 rfl (lv_at hl 3 rfl) ?_
  refine lv_if_eq (tgt := 166) hx hb dX10_isScanAgain_149 (by decide) (fun c19 => ?_) (fun c19 => ?_)
  · have hJ := it_pos c19 hJ
    exact sb_X10_isScanAgain_166 C hz2 N t0 _ hJ hk0 w (lv_sub (l' := [(0, .ref t0)]) hl [0] rfl)
  · have hJ := it_neg c19 hJ
    refine lv_iload_n hx hb dX10_isScanAgain_152 rfl (lv_at hl 2 rfl) ?_
    refine lv_aload_n hx hb dX10_isScanAgain_153 rfl (lv_at hl 0 rfl) ?_
    refine fg_1335 C w hk0 tw_6_198 dX10_isScanAgain_154 ?_
    refine lv_iload_n hx hb dX10_isScanAgain_157 rfl (lv_at hl 1 rfl) ?_
    obtain ⟨a20, ea20, hka20, hJ⟩ := dr_some hJ
    rw [ea20]
    obtain ⟨hi21, hJ⟩ := ck_some hJ
    refine jr_ialdM C w hka20 hi21 dX10_isScanAgain_158 ?_
    refine lv_icmp_ne (tgt := 166) hx hb dX10_isScanAgain_159 (by decide) (fun c22 => ?_) (fun c22 => ?_)
    · have hJ := it_neg c22 hJ
      exact sb_X10_isScanAgain_166 C hz2 N t0 _ hJ hk0 w (lv_sub (l' := [(0, .ref t0)]) hl [0] rfl)
    · have hJ := it_pos c22 hJ
      refine lv_iconst (v := (1 : Int32)) hx hb dX10_isScanAgain_162 (by decide) ?_
      refine lv_goto (tgt := 167) hx hb dX10_isScanAgain_163 (by decide) ?_
      exact sb_X10_isScanAgain_167 C hz2 N t0 _ _ hJ hk0 w (lv_sub (l' := [(0, .ref t0)]) hl [0] rfl)
def B_X10_isScanAgain_7 (N : Nat) (k7 : Hp → Int32 → Int32 → Int32 → Int32 → Option (Hp × Int32)) (t0 : Nat) (h : Hp) (x1 : Int32) (x2 : Int32) (x3 : Int32) (x4 : Int32) : Option (Hp × Int32) := if (h.gi 1353 t0) ≤ x4 then (B_X10_isScanAgain_148 N t0 h x1 x2 x3) else (dr h 30 (h.gr 1333 t0) (fun a24 => ck (¬ (x1 < 0 ∨ h.al a24 ≤ x1.toNatClampNeg)) (if (h.bi a24 x1.toNatClampNeg) ≤ x2 then (B_X10_isScanAgain_148 N t0 h x1 x2 x3) else (dr h 30 (h.gr 1352 t0) (fun a27 => ck (¬ (x4 < 0 ∨ h.al a27 ≤ x4.toNatClampNeg)) (dr h 30 (h.gr 1331 t0) (fun a29 => ck (¬ (x1 < 0 ∨ h.al a29 ≤ x1.toNatClampNeg)) (if (h.bi a27 x4.toNatClampNeg) < (h.bi a29 x1.toNatClampNeg) then (B_X10_isScanAgain_142 N k7 t0 h x1 x2 x3 x4) else (dr h 30 (h.gr 1352 t0) (fun a32 => ck (¬ (x4 < 0 ∨ h.al a32 ≤ x4.toNatClampNeg)) (dr h 30 (h.gr 1332 t0) (fun a34 => ck (¬ (x1 < 0 ∨ h.al a34 ≤ x1.toNatClampNeg)) (if (h.bi a34 x1.toNatClampNeg) < (h.bi a32 x4.toNatClampNeg) then (B_X10_isScanAgain_142 N k7 t0 h x1 x2 x3 x4) else (dr h 30 (h.gr 1352 t0) (fun a37 => ck (¬ (x4 < 0 ∨ h.al a37 ≤ x4.toNatClampNeg)) ((J_X10_hasNow N t0 h (h.bi a37 x4.toNatClampNeg)).bind (fun z => B_X10_isScanAgain_69 N k7 t0 z.1 x1 x2 x3 x4 z.2)))))))))))))))))
theorem mb_X10_isScanAgain_7 (N : Nat) (k7 : Hp → Int32 → Int32 → Int32 → Int32 → Option (Hp × Int32)) (t0 : Nat) (h : Hp) (x1 : Int32) (x2 : Int32) (x3 : Int32) (x4 : Int32) (m7 : ∀ (h : Hp) (x1 : Int32) (x2 : Int32) (x3 : Int32) (x4 : Int32), k7 h x1 x2 x3 x4 = some (hz, rz) → Mo h hz) (hJ : B_X10_isScanAgain_7 N k7 t0 h x1 x2 x3 x4 = some (hz, rz)) : Mo h hz := by
  unfold B_X10_isScanAgain_7 at hJ
  by_cases c23 : (h.gi 1353 t0) ≤ x4
  · have hJ := it_pos c23 hJ
    exact mb_X10_isScanAgain_148 N t0 _ _ _ _ hJ
  · have hJ := it_neg c23 hJ
    obtain ⟨a24, ea24, -, hJ⟩ := dr_some hJ
    obtain ⟨-, hJ⟩ := ck_some hJ
    by_cases c26 : (h.bi a24 x1.toNatClampNeg) ≤ x2
    · have hJ := it_pos c26 hJ
      exact mb_X10_isScanAgain_148 N t0 _ _ _ _ hJ
    · have hJ := it_neg c26 hJ
      obtain ⟨a27, ea27, -, hJ⟩ := dr_some hJ
      obtain ⟨-, hJ⟩ := ck_some hJ
      obtain ⟨a29, ea29, -, hJ⟩ := dr_some hJ
      obtain ⟨-, hJ⟩ := ck_some hJ
      by_cases c31 : (h.bi a27 x4.toNatClampNeg) < (h.bi a29 x1.toNatClampNeg)
      · have hJ := it_pos c31 hJ
        exact mb_X10_isScanAgain_142 N k7 t0 _ _ _ _ _ m7 hJ
      · have hJ := it_neg c31 hJ
        obtain ⟨a32, ea32, -, hJ⟩ := dr_some hJ
        obtain ⟨-, hJ⟩ := ck_some hJ
        obtain ⟨a34, ea34, -, hJ⟩ := dr_some hJ
        obtain ⟨-, hJ⟩ := ck_some hJ
        by_cases c36 : (h.bi a34 x1.toNatClampNeg) < (h.bi a32 x4.toNatClampNeg)
        · have hJ := it_pos c36 hJ
          exact mb_X10_isScanAgain_142 N k7 t0 _ _ _ _ _ m7 hJ
        · have hJ := it_neg c36 hJ
          obtain ⟨a37, ea37, -, hJ⟩ := dr_some hJ
          obtain ⟨-, hJ⟩ := ck_some hJ
          obtain ⟨⟨h39, r40⟩, e41, hJ⟩ := ob_some hJ
          exact (mo_X10_hasNow N t0 h (h.bi a37 x4.toNatClampNeg) e41).tr (mb_X10_isScanAgain_69 N k7 t0 _ _ _ _ _ _ m7 hJ)
set_option maxRecDepth 100000 in
set_option maxHeartbeats 4000000 in
theorem sb_X10_isScanAgain_7 (C : Cx p s m args meth c cX10_isScanAgain 5 (some .boolean) RX10 D cs A h0.se) (hz2 : hz.nx ≤ h0.nx + mc ∧ hz.su ≤ h0.su + ms) (N : Nat) (k7 : Hp → Int32 → Int32 → Int32 → Int32 → Option (Hp × Int32)) (t0 : Nat) (m7 : ∀ (h : Hp) (x1 : Int32) (x2 : Int32) (x3 : Int32) (x4 : Int32), k7 h x1 x2 x3 x4 = some (hz, rz) → Mo h hz) (i7 : ∀ (h : Hp) (x1 : Int32) (x2 : Int32) (x3 : Int32) (x4 : Int32) (H : Heap) (locs : List Loc) (cells slots : Nat) (ls : Array Slot), k7 h x1 x2 x3 x4 = some (hz, rz) → h.kd t0 = 13 → Wo D cs A s h0 h H locs cells slots → lv_has ls 5 [(0, .ref t0), (1, .int x1), (2, .int x2), (3, .int x3), (4, .int x4)] → W p l e { frames := 2, cells := mc, slots := ms, locals := 60 } s m args below meth c H locs cells slots (MQ below (Zi D cs A hz rz) args s mc ms A) (F0 m 7 ls [])) (h : Hp) (x1 : Int32) (x2 : Int32) (x3 : Int32) (x4 : Int32) (hJ : B_X10_isScanAgain_7 N k7 t0 h x1 x2 x3 x4 = some (hz, rz)) (hk0 : h.kd t0 = 13) {H : Heap} {locs : List Loc} {cells slots : Nat} (w : Wo D cs A s h0 h H locs cells slots) {ls : Array Slot} (hl : lv_has ls 5 [(0, .ref t0), (1, .int x1), (2, .int x2), (3, .int x3), (4, .int x4)]) : W p l e { frames := 2, cells := mc, slots := ms, locals := 60 } s m args below meth c H locs cells slots (MQ below (Zi D cs A hz rz) args s mc ms A) (F0 m 7 ls []) := by
  obtain ⟨hx, hb, hml, hown, hts, -⟩ := id C
  unfold B_X10_isScanAgain_7 at hJ
  refine lv_iload hx hb dX10_isScanAgain_7 (lv_at hl 4 rfl) ?_
  refine lv_aload_n hx hb dX10_isScanAgain_9 rfl (lv_at hl 0 rfl) ?_
  refine fg_1353 C w hk0 tw_6_216 dX10_isScanAgain_10 ?_
  refine lv_icmp_ge (tgt := 148) hx hb dX10_isScanAgain_13 (by decide) (fun c23 => ?_) (fun c23 => ?_)
  · have hJ := it_pos c23 hJ
    exact sb_X10_isScanAgain_148 C hz2 N t0 _ _ _ _ hJ hk0 w (lv_sub (l' := [(0, .ref t0), (1, .int x1), (2, .int x2), (3, .int x3)]) hl [0, 1, 2, 3] rfl)
  · have hJ := it_neg c23 hJ
    refine lv_iload_n hx hb dX10_isScanAgain_16 rfl (lv_at hl 2 rfl) ?_
    refine lv_aload_n hx hb dX10_isScanAgain_17 rfl (lv_at hl 0 rfl) ?_
    refine fg_1333 C w hk0 tw_6_196 dX10_isScanAgain_18 ?_
    refine lv_iload_n hx hb dX10_isScanAgain_21 rfl (lv_at hl 1 rfl) ?_
    obtain ⟨a24, ea24, hka24, hJ⟩ := dr_some hJ
    rw [ea24]
    obtain ⟨hi25, hJ⟩ := ck_some hJ
    refine jr_ialdM C w hka24 hi25 dX10_isScanAgain_22 ?_
    refine lv_icmp_ge (tgt := 148) hx hb dX10_isScanAgain_23 (by decide) (fun c26 => ?_) (fun c26 => ?_)
    · have hJ := it_pos c26 hJ
      exact sb_X10_isScanAgain_148 C hz2 N t0 _ _ _ _ hJ hk0 w (lv_sub (l' := [(0, .ref t0), (1, .int x1), (2, .int x2), (3, .int x3)]) hl [0, 1, 2, 3] rfl)
    · have hJ := it_neg c26 hJ
      refine lv_aload_n hx hb dX10_isScanAgain_26 rfl (lv_at hl 0 rfl) ?_
      refine fg_1352 C w hk0 tw_6_215 dX10_isScanAgain_27 ?_
      refine lv_iload hx hb dX10_isScanAgain_30 (lv_at hl 4 rfl) ?_
      obtain ⟨a27, ea27, hka27, hJ⟩ := dr_some hJ
      rw [ea27]
      obtain ⟨hi28, hJ⟩ := ck_some hJ
      refine jr_ialdM C w hka27 hi28 dX10_isScanAgain_32 ?_
      refine lv_aload_n hx hb dX10_isScanAgain_33 rfl (lv_at hl 0 rfl) ?_
      refine fg_1331 C w hk0 tw_6_194 dX10_isScanAgain_34 ?_
      refine lv_iload_n hx hb dX10_isScanAgain_37 rfl (lv_at hl 1 rfl) ?_
      obtain ⟨a29, ea29, hka29, hJ⟩ := dr_some hJ
      rw [ea29]
      obtain ⟨hi30, hJ⟩ := ck_some hJ
      refine jr_ialdM C w hka29 hi30 dX10_isScanAgain_38 ?_
      refine lv_icmp_lt (tgt := 142) hx hb dX10_isScanAgain_39 (by decide) (fun c31 => ?_) (fun c31 => ?_)
      · have hJ := it_pos c31 hJ
        exact sb_X10_isScanAgain_142 C hz2 N k7 t0 m7 i7 _ _ _ _ _ hJ hk0 w hl
      · have hJ := it_neg c31 hJ
        refine lv_aload_n hx hb dX10_isScanAgain_42 rfl (lv_at hl 0 rfl) ?_
        refine fg_1352 C w hk0 tw_6_215 dX10_isScanAgain_43 ?_
        refine lv_iload hx hb dX10_isScanAgain_46 (lv_at hl 4 rfl) ?_
        obtain ⟨a32, ea32, hka32, hJ⟩ := dr_some hJ
        rw [ea32]
        obtain ⟨hi33, hJ⟩ := ck_some hJ
        refine jr_ialdM C w hka32 hi33 dX10_isScanAgain_48 ?_
        refine lv_aload_n hx hb dX10_isScanAgain_49 rfl (lv_at hl 0 rfl) ?_
        refine fg_1332 C w hk0 tw_6_195 dX10_isScanAgain_50 ?_
        refine lv_iload_n hx hb dX10_isScanAgain_53 rfl (lv_at hl 1 rfl) ?_
        obtain ⟨a34, ea34, hka34, hJ⟩ := dr_some hJ
        rw [ea34]
        obtain ⟨hi35, hJ⟩ := ck_some hJ
        refine jr_ialdM C w hka34 hi35 dX10_isScanAgain_54 ?_
        refine lv_icmp_gt (tgt := 142) hx hb dX10_isScanAgain_55 (by decide) (fun c36 => ?_) (fun c36 => ?_)
        · have hJ := it_pos c36 hJ
          exact sb_X10_isScanAgain_142 C hz2 N k7 t0 m7 i7 _ _ _ _ _ hJ hk0 w hl
        · have hJ := it_neg c36 hJ
          refine lv_aload_n hx hb dX10_isScanAgain_58 rfl (lv_at hl 0 rfl) ?_
          refine lv_aload_n hx hb dX10_isScanAgain_59 rfl (lv_at hl 0 rfl) ?_
          refine fg_1352 C w hk0 tw_6_215 dX10_isScanAgain_60 ?_
          refine lv_iload hx hb dX10_isScanAgain_63 (lv_at hl 4 rfl) ?_
          obtain ⟨a37, ea37, hka37, hJ⟩ := dr_some hJ
          rw [ea37]
          obtain ⟨hi38, hJ⟩ := ck_some hJ
          refine jr_ialdM C w hka37 hi38 dX10_isScanAgain_65 ?_
          obtain ⟨⟨h39, r40⟩, e41, hJ⟩ := ob_some hJ
          refine jc_Vi (As := [.int (h.bi a37 x4.toNatClampNeg)]) C w (cc_X10_hasNow N t0 h (h.bi a37 x4.toNatClampNeg) hk0 e41) (mo_X10_hasNow N t0 h (h.bi a37 x4.toNatClampNeg) e41) (mb_X10_isScanAgain_69 N k7 t0 _ _ _ _ _ _ m7 hJ) hz2 hk0 (by decide) rfl (fs := fs13 h t0) rfl rfl ⟨tw_8_147, tw_8_144, tw_8_146, ts_73, tw_1_7⟩ cd_X10_hasNow ⟨by decide, by decide⟩ hl.1 (by first | exact Nat.le_of_ble_eq_true rfl | simp [rf_cat, cat_i, cat_l, cat_r]) rfl dX10_isScanAgain_66 (fun H locs w1 => ?_)
          have hk42 := kd_keep w (mo_X10_hasNow N t0 h (h.bi a37 x4.toNatClampNeg) e41) hk0 (by decide)
          have w := w1
          exact sb_X10_isScanAgain_69 C hz2 N k7 t0 m7 i7 _ _ _ _ _ _ hJ hk42 w hl
def L_X10_isScanAgain_7 (N : Nat) (t0 : Nat) : Nat → Hp → Int32 → Int32 → Int32 → Int32 → Option (Hp × Int32)
  | 0 => fun _ _ _ _ _ => none
  | n + 1 => fun h x1 x2 x3 x4 => B_X10_isScanAgain_7 N (L_X10_isScanAgain_7 N t0 n) t0 h x1 x2 x3 x4
theorem ml_X10_isScanAgain_7 (N : Nat) (t0 : Nat) : ∀ (n : Nat) (h : Hp) (x1 : Int32) (x2 : Int32) (x3 : Int32) (x4 : Int32), L_X10_isScanAgain_7 N t0 n h x1 x2 x3 x4 = some (hz, rz) → Mo h hz := by
  intro n
  induction n with
  | zero => intro h x1 x2 x3 x4 hJ; cases hJ
  | succ n ih => intro h x1 x2 x3 x4 hJ; exact mb_X10_isScanAgain_7 N (L_X10_isScanAgain_7 N t0 n) t0 h x1 x2 x3 x4 ih hJ
theorem sl_X10_isScanAgain_7 (C : Cx p s m args meth c cX10_isScanAgain 5 (some .boolean) RX10 D cs A h0.se) (hz2 : hz.nx ≤ h0.nx + mc ∧ hz.su ≤ h0.su + ms) (N : Nat) (t0 : Nat) : ∀ n : Nat, ∀ (h : Hp) (x1 : Int32) (x2 : Int32) (x3 : Int32) (x4 : Int32) (H : Heap) (locs : List Loc) (cells slots : Nat) (ls : Array Slot), L_X10_isScanAgain_7 N t0 n h x1 x2 x3 x4 = some (hz, rz) → h.kd t0 = 13 → Wo D cs A s h0 h H locs cells slots → lv_has ls 5 [(0, .ref t0), (1, .int x1), (2, .int x2), (3, .int x3), (4, .int x4)] → W p l e { frames := 2, cells := mc, slots := ms, locals := 60 } s m args below meth c H locs cells slots (MQ below (Zi D cs A hz rz) args s mc ms A) (F0 m 7 ls []) := by
  intro n
  induction n with
  | zero => intro h x1 x2 x3 x4 H locs cells slots ls hJ; cases hJ
  | succ n ih =>
    intro h x1 x2 x3 x4 H locs cells slots ls hJ hk0 w hl
    exact sb_X10_isScanAgain_7 C hz2 N (L_X10_isScanAgain_7 N t0 n) t0 (ml_X10_isScanAgain_7 N t0 n) ih h x1 x2 x3 x4 hJ hk0 w hl
def B_X10_isScanAgain_0 (N : Nat) (t0 : Nat) (h : Hp) (x1 : Int32) : Option (Hp × Int32) := L_X10_isScanAgain_7 N t0 N h x1 (0 : Int32) (1 : Int32) (0 : Int32)
theorem mb_X10_isScanAgain_0 (N : Nat) (t0 : Nat) (h : Hp) (x1 : Int32) (hJ : B_X10_isScanAgain_0 N t0 h x1 = some (hz, rz)) : Mo h hz := by
  unfold B_X10_isScanAgain_0 at hJ
  exact ml_X10_isScanAgain_7 N t0 N _ _ _ _ _ hJ
set_option maxRecDepth 100000 in
set_option maxHeartbeats 4000000 in
theorem sb_X10_isScanAgain_0 (C : Cx p s m args meth c cX10_isScanAgain 5 (some .boolean) RX10 D cs A h0.se) (hz2 : hz.nx ≤ h0.nx + mc ∧ hz.su ≤ h0.su + ms) (N : Nat) (t0 : Nat) (h : Hp) (x1 : Int32) (hJ : B_X10_isScanAgain_0 N t0 h x1 = some (hz, rz)) (hk0 : h.kd t0 = 13) {H : Heap} {locs : List Loc} {cells slots : Nat} (w : Wo D cs A s h0 h H locs cells slots) {ls : Array Slot} (hl : lv_has ls 5 [(0, .ref t0), (1, .int x1)]) : W p l e { frames := 2, cells := mc, slots := ms, locals := 60 } s m args below meth c H locs cells slots (MQ below (Zi D cs A hz rz) args s mc ms A) (F0 m 0 ls []) := by
  obtain ⟨hx, hb, hml, hown, hts, -⟩ := id C
  unfold B_X10_isScanAgain_0 at hJ
  refine lv_iconst (v := (0 : Int32)) hx hb dX10_isScanAgain_0 (by decide) ?_
  refine lv_istore_n (i := 2) (lv' := [(2, .int (0 : Int32)), (0, .ref t0), (1, .int x1)]) hx hb dX10_isScanAgain_1 rfl hl (by decide) rfl (fun ls hl => ?_)
  refine lv_iconst (v := (1 : Int32)) hx hb dX10_isScanAgain_2 (by decide) ?_
  refine lv_istore_n (i := 3) (lv' := [(3, .int (1 : Int32)), (2, .int (0 : Int32)), (0, .ref t0), (1, .int x1)]) hx hb dX10_isScanAgain_3 rfl hl (by decide) rfl (fun ls hl => ?_)
  refine lv_iconst (v := (0 : Int32)) hx hb dX10_isScanAgain_4 (by decide) ?_
  refine lv_istore (i := 4) (lv' := [(4, .int (0 : Int32)), (3, .int (1 : Int32)), (2, .int (0 : Int32)), (0, .ref t0), (1, .int x1)]) hx hb dX10_isScanAgain_5 hl (by decide) rfl (fun ls hl => ?_)
  exact sl_X10_isScanAgain_7 C hz2 N t0 N _ _ _ _ _ _ _ _ _ _ hJ hk0 w (lv_sub (l' := [(0, .ref t0), (1, .int x1), (2, .int (0 : Int32)), (3, .int (1 : Int32)), (4, .int (0 : Int32))]) hl [3, 4, 2, 1, 0] rfl)
def J_X10_isScanAgain (N : Nat) (t0 : Nat) (h : Hp) (x1 : Int32) : Option (Hp × Int32) := B_X10_isScanAgain_0 N t0 h x1
theorem mo_X10_isScanAgain (N : Nat) (t0 : Nat) (h : Hp) (x1 : Int32) (hJ : J_X10_isScanAgain N t0 h x1 = some (hz, rz)) : Mo h hz := mb_X10_isScanAgain_0 N t0 h x1 hJ
theorem cd_X10_isScanAgain : Cd yX10_isScanAgain 1 := ⟨by decide +kernel, by decide +kernel, by decide +kernel⟩
theorem cc_X10_isScanAgain (N : Nat) (t0 : Nat) (h : Hp) (x1 : Int32) (hk0 : h.kd t0 = 13) (hJ : J_X10_isScanAgain N t0 h x1 = some (hz, rz)) : Ci l yX10_isScanAgain cX10_isScanAgain 5 (some .boolean) 2 60 D cs h hz [.ref t0, .int x1] rz := by
  intro mc ms g1 g2
  refine je_any (by decide) (by simp [lg_sl, rf_cat, cat_i, cat_l, cat_r]) ?_
  intro p e s m args below meth c C hin2 w ls hl
  have hl : lv_has ls 5 [(0, .ref t0), (1, .int x1)] := hl
  exact sb_X10_isScanAgain_0 C ⟨g1, g2⟩ N t0 h x1 hJ hk0 w hl
end G_X10_isScanAgain
