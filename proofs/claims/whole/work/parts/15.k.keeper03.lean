section G_X9_abort
variable {p : Program} {l : Launch} {e : Env} {s : State} {m : MethodId} {args : Array Value} {below : List Frame} {meth : Method} {c : Code} {D : va_G} {cs : C4} {A : Nat → Prop} {h0 hz : Hp} {mc ms : Nat}
def B_X9_abort_10 (N : Nat) (t0 : Nat) (h : Hp) : Option (Hp × Unit) := some (h, ())
theorem mb_X9_abort_10 (N : Nat) (t0 : Nat) (h : Hp) (hJ : B_X9_abort_10 N t0 h = some (hz, ())) : Mo h hz := by
  unfold B_X9_abort_10 at hJ
  obtain ⟨rfl, -⟩ := rs2 hJ
  exact ⟨fun _ _ => rfl, Nat.le_refl _, Nat.le_refl _, rfl, fun _ _ => rfl⟩
set_option maxRecDepth 100000 in
set_option maxHeartbeats 4000000 in
theorem sb_X9_abort_10 (C : Cx p s m args meth c cX9_abort 2 none RX9 D cs A h0.se) (hz2 : hz.nx ≤ h0.nx + mc ∧ hz.su ≤ h0.su + ms) (N : Nat) (t0 : Nat) (h : Hp) (hJ : B_X9_abort_10 N t0 h = some (hz, ())) (hk0 : h.kd t0 = 12) {H : Heap} {locs : List Loc} {cells slots : Nat} (w : Wo D cs A s h0 h H locs cells slots) {ls : Array Slot} (hl : lv_has ls 2 [(0, .ref t0)]) : W p l e { frames := 5, cells := mc, slots := ms, locals := 150 } s m args below meth c H locs cells slots (MQ below (Zv D cs A hz) args s mc ms A) (F0 m 10 ls []) := by
  obtain ⟨hx, hb, hml, hown, hts, -⟩ := id C
  unfold B_X9_abort_10 at hJ
  obtain ⟨rfl, -⟩ := rs2 hJ
  exact jr_vret C w hz2 dX9_abort_10
def B_X9_abort_6 (N : Nat) (t0 : Nat) (h : Hp) (y0 : Option Nat) (y1 : Option Nat) : Option (Hp × Unit) := dr h 12 y0 (fun a1 => (J_X9_end N a1 h y1 (3 : Int32)).bind (fun z => B_X9_abort_10 N t0 z.1))
theorem mb_X9_abort_6 (N : Nat) (t0 : Nat) (h : Hp) (y0 : Option Nat) (y1 : Option Nat) (hJ : B_X9_abort_6 N t0 h y0 y1 = some (hz, ())) : Mo h hz := by
  unfold B_X9_abort_6 at hJ
  obtain ⟨a1, ea1, -, hJ⟩ := dr_some hJ
  obtain ⟨⟨h2, r3⟩, e4, hJ⟩ := ob_some hJ
  exact (mo_X9_end N a1 h y1 (3 : Int32) e4).tr (mb_X9_abort_10 N t0 _ hJ)
set_option maxRecDepth 100000 in
set_option maxHeartbeats 4000000 in
theorem sb_X9_abort_6 (C : Cx p s m args meth c cX9_abort 2 none RX9 D cs A h0.se) (hz2 : hz.nx ≤ h0.nx + mc ∧ hz.su ≤ h0.su + ms) (N : Nat) (t0 : Nat) (h : Hp) (y0 : Option Nat) (y1 : Option Nat) (hJ : B_X9_abort_6 N t0 h y0 y1 = some (hz, ())) (hk0 : h.kd t0 = 12) {H : Heap} {locs : List Loc} {cells slots : Nat} (w : Wo D cs A s h0 h H locs cells slots) {ls : Array Slot} (hl : lv_has ls 2 [(0, .ref t0)]) : W p l e { frames := 5, cells := mc, slots := ms, locals := 150 } s m args below meth c H locs cells slots (MQ below (Zv D cs A hz) args s mc ms A) (F0 m 6 ls [va_rf y1, va_rf y0]) := by
  obtain ⟨hx, hb, hml, hown, hts, -⟩ := id C
  unfold B_X9_abort_6 at hJ
  refine lv_iconst (v := (3 : Int32)) hx hb dX9_abort_6 (by decide) ?_
  obtain ⟨a1, ea1, hka1, hJ⟩ := dr_some hJ
  rw [ea1]
  obtain ⟨⟨h2, r3⟩, e4, hJ⟩ := ob_some hJ
  refine jc_Vv (As := [va_rf y1, .int (3 : Int32)]) C w (cc_X9_end N a1 h y1 (3 : Int32) hka1 e4) (mo_X9_end N a1 h y1 (3 : Int32) e4) (mb_X9_abort_10 N t0 _ hJ) hz2 hka1 (by decide) rfl (fs := fs12 h a1) rfl rfl ⟨tw_5_203, tw_5_200, tw_5_202, ts_24, tw_1_1⟩ cd_X9_end ⟨by decide, by decide⟩ hl.1 (by first | exact Nat.le_of_ble_eq_true rfl | simp [rf_cat, cat_i, cat_l, cat_r]) rfl dX9_abort_7 (fun H locs w1 => ?_)
  have hk5 := kd_keep w (mo_X9_end N a1 h y1 (3 : Int32) e4) hk0 (by decide)
  have w := w1
  exact sb_X9_abort_10 C hz2 N t0 _ hJ hk5 w hl
def B_X9_abort_0 (N : Nat) (t0 : Nat) (h : Hp) (x1 : Int32) : Option (Hp × Unit) := (J_X9_activeOne N t0 h x1).bind (fun z => B_X9_abort_6 N t0 z.1 (some t0) z.2)
theorem mb_X9_abort_0 (N : Nat) (t0 : Nat) (h : Hp) (x1 : Int32) (hJ : B_X9_abort_0 N t0 h x1 = some (hz, ())) : Mo h hz := by
  unfold B_X9_abort_0 at hJ
  obtain ⟨⟨h6, r7⟩, e8, hJ⟩ := ob_some hJ
  exact (mo_X9_activeOne N t0 h x1 e8).tr (mb_X9_abort_6 N t0 _ _ _ hJ)
set_option maxRecDepth 100000 in
set_option maxHeartbeats 4000000 in
theorem sb_X9_abort_0 (C : Cx p s m args meth c cX9_abort 2 none RX9 D cs A h0.se) (hz2 : hz.nx ≤ h0.nx + mc ∧ hz.su ≤ h0.su + ms) (N : Nat) (t0 : Nat) (h : Hp) (x1 : Int32) (hJ : B_X9_abort_0 N t0 h x1 = some (hz, ())) (hk0 : h.kd t0 = 12) {H : Heap} {locs : List Loc} {cells slots : Nat} (w : Wo D cs A s h0 h H locs cells slots) {ls : Array Slot} (hl : lv_has ls 2 [(0, .ref t0), (1, .int x1)]) : W p l e { frames := 5, cells := mc, slots := ms, locals := 150 } s m args below meth c H locs cells slots (MQ below (Zv D cs A hz) args s mc ms A) (F0 m 0 ls []) := by
  obtain ⟨hx, hb, hml, hown, hts, -⟩ := id C
  unfold B_X9_abort_0 at hJ
  refine lv_aload_n hx hb dX9_abort_0 rfl (lv_at hl 0 rfl) ?_
  refine lv_aload_n hx hb dX9_abort_1 rfl (lv_at hl 0 rfl) ?_
  refine lv_iload_n hx hb dX9_abort_2 rfl (lv_at hl 1 rfl) ?_
  obtain ⟨⟨h6, r7⟩, e8, hJ⟩ := ob_some hJ
  refine jc_Vq (As := [.int x1]) C w (cc_X9_activeOne N t0 h x1 hk0 e8) (mo_X9_activeOne N t0 h x1 e8) (mb_X9_abort_6 N t0 _ _ _ hJ) hz2 hk0 (by decide) rfl (fs := fs12 h t0) rfl rfl ⟨tw_5_114, tw_5_111, tw_5_113, ts_17, tw_1_1⟩ cd_X9_activeOne ⟨by decide, by decide⟩ hl.1 (by first | exact Nat.le_of_ble_eq_true rfl | simp [rf_cat, cat_i, cat_l, cat_r]) rfl dX9_abort_3 (fun H locs w1 => ?_)
  have hk9 := kd_keep w (mo_X9_activeOne N t0 h x1 e8) hk0 (by decide)
  have w := w1
  exact sb_X9_abort_6 C hz2 N t0 _ _ _ hJ hk9 w (lv_sub (l' := [(0, .ref t0)]) hl [0] rfl)
def J_X9_abort (N : Nat) (t0 : Nat) (h : Hp) (x1 : Int32) : Option (Hp × Unit) := B_X9_abort_0 N t0 h x1
theorem mo_X9_abort (N : Nat) (t0 : Nat) (h : Hp) (x1 : Int32) (hJ : J_X9_abort N t0 h x1 = some (hz, ())) : Mo h hz := mb_X9_abort_0 N t0 h x1 hJ
theorem cd_X9_abort : Cd yX9_abort 1 := ⟨by decide +kernel, by decide +kernel, by decide +kernel⟩
theorem cc_X9_abort (N : Nat) (t0 : Nat) (h : Hp) (x1 : Int32) (hk0 : h.kd t0 = 12) (hJ : J_X9_abort N t0 h x1 = some (hz, ())) : Cv l yX9_abort cX9_abort 2 none 5 150 D cs h hz [.ref t0, .int x1] := by
  intro mc ms g1 g2
  refine je_any (by decide) (by simp [lg_sl, rf_cat, cat_i, cat_l, cat_r]) ?_
  intro p e s m args below meth c C hin2 w ls hl
  have hl : lv_has ls 2 [(0, .ref t0), (1, .int x1)] := hl
  exact sb_X9_abort_0 C ⟨g1, g2⟩ N t0 h x1 hJ hk0 w hl
end G_X9_abort
