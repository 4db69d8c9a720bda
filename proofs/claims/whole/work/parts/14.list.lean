section G_Jxa1e45_init_da8c8
variable {p : Program} {l : Launch} {e : Env} {s : State} {m : MethodId} {args : Array Value} {below : List Frame} {meth : Method} {c : Code} {D : va_G} {cs : C4} {A : Nat → Prop} {h0 hz : Hp} {mc ms : Nat}
def B_Jxa1e45_init_da8c8_0 (N : Nat) (t0 : Nat) (h : Hp) : Option (Hp × Unit) := some (h, ())
theorem mb_Jxa1e45_init_da8c8_0 (N : Nat) (t0 : Nat) (h : Hp) (hJ : B_Jxa1e45_init_da8c8_0 N t0 h = some (hz, ())) : Mo h hz := by
  unfold B_Jxa1e45_init_da8c8_0 at hJ
  obtain ⟨rfl, -⟩ := rs2 hJ
  exact ⟨fun _ _ => rfl, Nat.le_refl _, Nat.le_refl _, rfl, fun _ _ => rfl⟩
set_option maxRecDepth 100000 in
set_option maxHeartbeats 4000000 in
theorem sb_Jxa1e45_init_da8c8_0 (C : Cx p s m args meth c cJxa1e45_init_da8c8 1 none RJxa1e45 D cs A h0.se) (hin2 : meth.name = "<init>") (hz2 : hz.nx ≤ h0.nx + mc ∧ hz.su ≤ h0.su + ms) (N : Nat) (t0 : Nat) (h : Hp) (hJ : B_Jxa1e45_init_da8c8_0 N t0 h = some (hz, ())) (hk0 : h.kd t0 = 2) {H : Heap} {locs : List Loc} {cells slots : Nat} (w : Wo D cs A s h0 h H locs cells slots) {ls : Array Slot} (hl : lv_has ls 1 [(0, .ref t0)]) : W p l e { frames := 1, cells := mc, slots := ms, locals := 40 } s m args below meth c H locs cells slots (MQ below (Zv D cs A hz) args s mc ms A) (F0 m 0 ls []) := by
  obtain ⟨hx, hb, hml, hown, hts, -⟩ := id C
  unfold B_Jxa1e45_init_da8c8_0 at hJ
  refine lv_aload_n hx hb dJxa1e45_init_da8c8_0 rfl (lv_at hl 0 rfl) ?_
  refine jc_O C tw_1_60 tw_1_41 tw_obj hl.1 (by first | exact Nat.le_of_ble_eq_true rfl | simp [rf_cat, cat_i, cat_l, cat_r]) (by decide) dJxa1e45_init_da8c8_1 ?_
  obtain ⟨rfl, -⟩ := rs2 hJ
  exact jr_vret C w hz2 dJxa1e45_init_da8c8_4
def J_Jxa1e45_init_da8c8 (N : Nat) (t0 : Nat) (h : Hp) : Option (Hp × Unit) := B_Jxa1e45_init_da8c8_0 N t0 h
theorem mo_Jxa1e45_init_da8c8 (N : Nat) (t0 : Nat) (h : Hp) (hJ : J_Jxa1e45_init_da8c8 N t0 h = some (hz, ())) : Mo h hz := mb_Jxa1e45_init_da8c8_0 N t0 h hJ
theorem cd_Jxa1e45_init_da8c8 : Cd yJxa1e45_init_da8c8 0 := ⟨by decide +kernel, by decide +kernel, by decide +kernel⟩
theorem cc_Jxa1e45_init_da8c8 (N : Nat) (t0 : Nat) (h : Hp) (hk0 : h.kd t0 = 2) (hJ : J_Jxa1e45_init_da8c8 N t0 h = some (hz, ())) : Cv l yJxa1e45_init_da8c8 cJxa1e45_init_da8c8 1 none 1 40 D cs h hz [.ref t0] := by
  intro mc ms g1 g2
  refine je_anyF (by decide) (by simp [lg_sl, rf_cat, cat_i, cat_l, cat_r]) ?_
  intro p e s m args below meth c C hin2 w ls hl
  have hl : lv_has ls 1 [(0, .ref t0)] := hl
  exact sb_Jxa1e45_init_da8c8_0 C hin2 ⟨g1, g2⟩ N t0 h hJ hk0 w hl
end G_Jxa1e45_init_da8c8
section G_Jxc12de_init_da8c8
variable {p : Program} {l : Launch} {e : Env} {s : State} {m : MethodId} {args : Array Value} {below : List Frame} {meth : Method} {c : Code} {D : va_G} {cs : C4} {A : Nat → Prop} {h0 hz : Hp} {mc ms : Nat}
def B_Jxc12de_init_da8c8_4 (N : Nat) (t0 : Nat) (h : Hp) : Option (Hp × Unit) := some (h.sfi 200 t0 (0 : Int32), ())
theorem mb_Jxc12de_init_da8c8_4 (N : Nat) (t0 : Nat) (h : Hp) (hJ : B_Jxc12de_init_da8c8_4 N t0 h = some (hz, ())) : Mo h hz := by
  unfold B_Jxc12de_init_da8c8_4 at hJ
  obtain ⟨rfl, -⟩ := rs2 hJ
  exact ⟨fun _ _ => rfl, Nat.le_refl _, Nat.le_refl _, rfl, fun _ _ => rfl⟩
set_option maxRecDepth 100000 in
set_option maxHeartbeats 4000000 in
theorem sb_Jxc12de_init_da8c8_4 (C : Cx p s m args meth c cJxc12de_init_da8c8 1 none RJxc12de D cs A h0.se) (hin2 : meth.name = "<init>") (hz2 : hz.nx ≤ h0.nx + mc ∧ hz.su ≤ h0.su + ms) (N : Nat) (t0 : Nat) (h : Hp) (hJ : B_Jxc12de_init_da8c8_4 N t0 h = some (hz, ())) (hk0 : h.kd t0 = 2) {H : Heap} {locs : List Loc} {cells slots : Nat} (w : Wo D cs A s h0 h H locs cells slots) {ls : Array Slot} (hl : lv_has ls 1 [(0, .ref t0)]) : W p l e { frames := 2, cells := mc, slots := ms, locals := 60 } s m args below meth c H locs cells slots (MQ below (Zv D cs A hz) args s mc ms A) (F0 m 4 ls []) := by
  obtain ⟨hx, hb, hml, hown, hts, -⟩ := id C
  unfold B_Jxc12de_init_da8c8_4 at hJ
  refine lv_aload_n hx hb dJxc12de_init_da8c8_4 rfl (lv_at hl 0 rfl) ?_
  refine lv_iconst (v := (0 : Int32)) hx hb dJxc12de_init_da8c8_5 (by decide) ?_
  refine fp_200 (x := (0 : Int32)) C w hk0 tw_1_65 dJxc12de_init_da8c8_6 (fun H locs w => ?_)
  obtain ⟨rfl, -⟩ := rs2 hJ
  exact jr_vret C w hz2 dJxc12de_init_da8c8_9
def B_Jxc12de_init_da8c8_0 (N : Nat) (t0 : Nat) (h : Hp) : Option (Hp × Unit) := (J_Jxa1e45_init_da8c8 N t0 h).bind (fun z => B_Jxc12de_init_da8c8_4 N t0 z.1)
theorem mb_Jxc12de_init_da8c8_0 (N : Nat) (t0 : Nat) (h : Hp) (hJ : B_Jxc12de_init_da8c8_0 N t0 h = some (hz, ())) : Mo h hz := by
  unfold B_Jxc12de_init_da8c8_0 at hJ
  obtain ⟨⟨h1, r2⟩, e3, hJ⟩ := ob_some hJ
  exact (mo_Jxa1e45_init_da8c8 N t0 h e3).tr (mb_Jxc12de_init_da8c8_4 N t0 _ hJ)
set_option maxRecDepth 100000 in
set_option maxHeartbeats 4000000 in
theorem sb_Jxc12de_init_da8c8_0 (C : Cx p s m args meth c cJxc12de_init_da8c8 1 none RJxc12de D cs A h0.se) (hin2 : meth.name = "<init>") (hz2 : hz.nx ≤ h0.nx + mc ∧ hz.su ≤ h0.su + ms) (N : Nat) (t0 : Nat) (h : Hp) (hJ : B_Jxc12de_init_da8c8_0 N t0 h = some (hz, ())) (hk0 : h.kd t0 = 2) {H : Heap} {locs : List Loc} {cells slots : Nat} (w : Wo D cs A s h0 h H locs cells slots) {ls : Array Slot} (hl : lv_has ls 1 [(0, .ref t0)]) : W p l e { frames := 2, cells := mc, slots := ms, locals := 60 } s m args below meth c H locs cells slots (MQ below (Zv D cs A hz) args s mc ms A) (F0 m 0 ls []) := by
  obtain ⟨hx, hb, hml, hown, hts, -⟩ := id C
  unfold B_Jxc12de_init_da8c8_0 at hJ
  refine lv_aload_n hx hb dJxc12de_init_da8c8_0 rfl (lv_at hl 0 rfl) ?_
  obtain ⟨⟨h1, r2⟩, e3, hJ⟩ := ob_some hJ
  refine jc_I (As := []) C w (cc_Jxa1e45_init_da8c8 N t0 h hk0 e3) (mo_Jxa1e45_init_da8c8 N t0 h e3) (mb_Jxc12de_init_da8c8_4 N t0 _ hJ) hz2 tw_1_59 tw_1_57 tw_1_58 tw_1_3 rfl cd_Jxa1e45_init_da8c8 ⟨by decide, by decide⟩ hl.1 (by first | exact Nat.le_of_ble_eq_true rfl | simp [rf_cat, cat_i, cat_l, cat_r]) rfl dJxc12de_init_da8c8_1 (fun H locs w1 => ?_)
  have hk4 := kd_keep w (mo_Jxa1e45_init_da8c8 N t0 h e3) hk0 (by decide)
  have w := w1
  exact sb_Jxc12de_init_da8c8_4 C hin2 hz2 N t0 _ hJ hk4 w hl
def J_Jxc12de_init_da8c8 (N : Nat) (t0 : Nat) (h : Hp) : Option (Hp × Unit) := B_Jxc12de_init_da8c8_0 N t0 h
theorem mo_Jxc12de_init_da8c8 (N : Nat) (t0 : Nat) (h : Hp) (hJ : J_Jxc12de_init_da8c8 N t0 h = some (hz, ())) : Mo h hz := mb_Jxc12de_init_da8c8_0 N t0 h hJ
theorem cd_Jxc12de_init_da8c8 : Cd yJxc12de_init_da8c8 0 := ⟨by decide +kernel, by decide +kernel, by decide +kernel⟩
theorem cc_Jxc12de_init_da8c8 (N : Nat) (t0 : Nat) (h : Hp) (hk0 : h.kd t0 = 2) (hJ : J_Jxc12de_init_da8c8 N t0 h = some (hz, ())) : Cv l yJxc12de_init_da8c8 cJxc12de_init_da8c8 1 none 2 60 D cs h hz [.ref t0] := by
  intro mc ms g1 g2
  refine je_anyF (by decide) (by simp [lg_sl, rf_cat, cat_i, cat_l, cat_r]) ?_
  intro p e s m args below meth c C hin2 w ls hl
  have hl : lv_has ls 1 [(0, .ref t0)] := hl
  exact sb_Jxc12de_init_da8c8_0 C hin2 ⟨g1, g2⟩ N t0 h hJ hk0 w hl
end G_Jxc12de_init_da8c8
section G_Jx4a65c_init_da8c8
variable {p : Program} {l : Launch} {e : Env} {s : State} {m : MethodId} {args : Array Value} {below : List Frame} {meth : Method} {c : Code} {D : va_G} {cs : C4} {A : Nat → Prop} {h0 hz : Hp} {mc ms : Nat}
def B_Jx4a65c_init_da8c8_4 (N : Nat) (t0 : Nat) (h : Hp) : Option (Hp × Unit) := some (h.sfr 201 t0 (some h.se.1), ())
theorem mb_Jx4a65c_init_da8c8_4 (N : Nat) (t0 : Nat) (h : Hp) (hJ : B_Jx4a65c_init_da8c8_4 N t0 h = some (hz, ())) : Mo h hz := by
  unfold B_Jx4a65c_init_da8c8_4 at hJ
  obtain ⟨rfl, -⟩ := rs2 hJ
  exact ⟨fun _ _ => rfl, Nat.le_refl _, Nat.le_refl _, rfl, fun _ _ => rfl⟩
set_option maxRecDepth 100000 in
set_option maxHeartbeats 4000000 in
theorem sb_Jx4a65c_init_da8c8_4 (C : Cx p s m args meth c cJx4a65c_init_da8c8 1 none RJx4a65c D cs A h0.se) (hin2 : meth.name = "<init>") (hz2 : hz.nx ≤ h0.nx + mc ∧ hz.su ≤ h0.su + ms) (N : Nat) (t0 : Nat) (h : Hp) (hJ : B_Jx4a65c_init_da8c8_4 N t0 h = some (hz, ())) (hk0 : h.kd t0 = 2) {H : Heap} {locs : List Loc} {cells slots : Nat} (w : Wo D cs A s h0 h H locs cells slots) {ls : Array Slot} (hl : lv_has ls 1 [(0, .ref t0)]) : W p l e { frames := 3, cells := mc, slots := ms, locals := 80 } s m args below meth c H locs cells slots (MQ below (Zv D cs A hz) args s mc ms A) (F0 m 4 ls []) := by
  obtain ⟨hx, hb, hml, hown, hts, -⟩ := id C
  unfold B_Jx4a65c_init_da8c8_4 at hJ
  refine lv_aload_n hx hb dJx4a65c_init_da8c8_4 rfl (lv_at hl 0 rfl) ?_
  refine jr_gets C w tw_1_61 dJx4a65c_init_da8c8_5 ?_
  refine fp_201 (x := some h.se.1) C w hk0 tw_1_63 dJx4a65c_init_da8c8_8 (fun H locs w => ?_)
  obtain ⟨rfl, -⟩ := rs2 hJ
  exact jr_vret C w hz2 dJx4a65c_init_da8c8_11
def B_Jx4a65c_init_da8c8_0 (N : Nat) (t0 : Nat) (h : Hp) : Option (Hp × Unit) := (J_Jxc12de_init_da8c8 N t0 h).bind (fun z => B_Jx4a65c_init_da8c8_4 N t0 z.1)
theorem mb_Jx4a65c_init_da8c8_0 (N : Nat) (t0 : Nat) (h : Hp) (hJ : B_Jx4a65c_init_da8c8_0 N t0 h = some (hz, ())) : Mo h hz := by
  unfold B_Jx4a65c_init_da8c8_0 at hJ
  obtain ⟨⟨h1, r2⟩, e3, hJ⟩ := ob_some hJ
  exact (mo_Jxc12de_init_da8c8 N t0 h e3).tr (mb_Jx4a65c_init_da8c8_4 N t0 _ hJ)
set_option maxRecDepth 100000 in
set_option maxHeartbeats 4000000 in
theorem sb_Jx4a65c_init_da8c8_0 (C : Cx p s m args meth c cJx4a65c_init_da8c8 1 none RJx4a65c D cs A h0.se) (hin2 : meth.name = "<init>") (hz2 : hz.nx ≤ h0.nx + mc ∧ hz.su ≤ h0.su + ms) (N : Nat) (t0 : Nat) (h : Hp) (hJ : B_Jx4a65c_init_da8c8_0 N t0 h = some (hz, ())) (hk0 : h.kd t0 = 2) {H : Heap} {locs : List Loc} {cells slots : Nat} (w : Wo D cs A s h0 h H locs cells slots) {ls : Array Slot} (hl : lv_has ls 1 [(0, .ref t0)]) : W p l e { frames := 3, cells := mc, slots := ms, locals := 80 } s m args below meth c H locs cells slots (MQ below (Zv D cs A hz) args s mc ms A) (F0 m 0 ls []) := by
  obtain ⟨hx, hb, hml, hown, hts, -⟩ := id C
  unfold B_Jx4a65c_init_da8c8_0 at hJ
  refine lv_aload_n hx hb dJx4a65c_init_da8c8_0 rfl (lv_at hl 0 rfl) ?_
  obtain ⟨⟨h1, r2⟩, e3, hJ⟩ := ob_some hJ
  refine jc_I (As := []) C w (cc_Jxc12de_init_da8c8 N t0 h hk0 e3) (mo_Jxc12de_init_da8c8 N t0 h e3) (mb_Jx4a65c_init_da8c8_4 N t0 _ hJ) hz2 tw_1_56 tw_1_54 tw_1_55 tw_1_4 rfl cd_Jxc12de_init_da8c8 ⟨by decide, by decide⟩ hl.1 (by first | exact Nat.le_of_ble_eq_true rfl | simp [rf_cat, cat_i, cat_l, cat_r]) rfl dJx4a65c_init_da8c8_1 (fun H locs w1 => ?_)
  have hk4 := kd_keep w (mo_Jxc12de_init_da8c8 N t0 h e3) hk0 (by decide)
  have w := w1
  exact sb_Jx4a65c_init_da8c8_4 C hin2 hz2 N t0 _ hJ hk4 w hl
def J_Jx4a65c_init_da8c8 (N : Nat) (t0 : Nat) (h : Hp) : Option (Hp × Unit) := B_Jx4a65c_init_da8c8_0 N t0 h
theorem mo_Jx4a65c_init_da8c8 (N : Nat) (t0 : Nat) (h : Hp) (hJ : J_Jx4a65c_init_da8c8 N t0 h = some (hz, ())) : Mo h hz := mb_Jx4a65c_init_da8c8_0 N t0 h hJ
theorem cd_Jx4a65c_init_da8c8 : Cd yJx4a65c_init_da8c8 0 := ⟨by decide +kernel, by decide +kernel, by decide +kernel⟩
theorem cc_Jx4a65c_init_da8c8 (N : Nat) (t0 : Nat) (h : Hp) (hk0 : h.kd t0 = 2) (hJ : J_Jx4a65c_init_da8c8 N t0 h = some (hz, ())) : Cv l yJx4a65c_init_da8c8 cJx4a65c_init_da8c8 1 none 3 80 D cs h hz [.ref t0] := by
  intro mc ms g1 g2
  refine je_anyF (by decide) (by simp [lg_sl, rf_cat, cat_i, cat_l, cat_r]) ?_
  intro p e s m args below meth c C hin2 w ls hl
  have hl : lv_has ls 1 [(0, .ref t0)] := hl
  exact sb_Jx4a65c_init_da8c8_0 C hin2 ⟨g1, g2⟩ N t0 h hJ hk0 w hl
end G_Jx4a65c_init_da8c8
section G_Jx4a65c_size_8abf5
variable {p : Program} {l : Launch} {e : Env} {s : State} {m : MethodId} {args : Array Value} {below : List Frame} {meth : Method} {c : Code} {D : va_G} {cs : C4} {A : Nat → Prop} {h0 hz : Hp} {mc ms : Nat} {rz : Int32}
def B_Jx4a65c_size_8abf5_0 (N : Nat) (t0 : Nat) (h : Hp) : Option (Hp × Int32) := some (h, h.fi 202 t0)
theorem mb_Jx4a65c_size_8abf5_0 (N : Nat) (t0 : Nat) (h : Hp) (hJ : B_Jx4a65c_size_8abf5_0 N t0 h = some (hz, rz)) : Mo h hz := by
  unfold B_Jx4a65c_size_8abf5_0 at hJ
  obtain ⟨rfl, -⟩ := rs2 hJ
  exact ⟨fun _ _ => rfl, Nat.le_refl _, Nat.le_refl _, rfl, fun _ _ => rfl⟩
set_option maxRecDepth 100000 in
set_option maxHeartbeats 4000000 in
theorem sb_Jx4a65c_size_8abf5_0 (C : Cx p s m args meth c cJx4a65c_size_8abf5 1 (some .int) RJx4a65c D cs A h0.se) (hz2 : hz.nx ≤ h0.nx + mc ∧ hz.su ≤ h0.su + ms) (N : Nat) (t0 : Nat) (h : Hp) (hJ : B_Jx4a65c_size_8abf5_0 N t0 h = some (hz, rz)) (hk0 : h.kd t0 = 2) {H : Heap} {locs : List Loc} {cells slots : Nat} (w : Wo D cs A s h0 h H locs cells slots) {ls : Array Slot} (hl : lv_has ls 1 [(0, .ref t0)]) : W p l e { frames := 0, cells := mc, slots := ms, locals := 0 } s m args below meth c H locs cells slots (MQ below (Zi D cs A hz rz) args s mc ms A) (F0 m 0 ls []) := by
  obtain ⟨hx, hb, hml, hown, hts, -⟩ := id C
  unfold B_Jx4a65c_size_8abf5_0 at hJ
  refine lv_aload_n hx hb dJx4a65c_size_8abf5_0 rfl (lv_at hl 0 rfl) ?_
  refine fg_202 C w hk0 tw_1_64 dJx4a65c_size_8abf5_1 ?_
  obtain ⟨rfl, rfl⟩ := rs2 hJ
  exact jr_iret C w hz2 dJx4a65c_size_8abf5_4
def J_Jx4a65c_size_8abf5 (N : Nat) (t0 : Nat) (h : Hp) : Option (Hp × Int32) := B_Jx4a65c_size_8abf5_0 N t0 h
theorem mo_Jx4a65c_size_8abf5 (N : Nat) (t0 : Nat) (h : Hp) (hJ : J_Jx4a65c_size_8abf5 N t0 h = some (hz, rz)) : Mo h hz := mb_Jx4a65c_size_8abf5_0 N t0 h hJ
theorem cd_Jx4a65c_size_8abf5 : Cd yJx4a65c_size_8abf5 0 := ⟨by decide +kernel, by decide +kernel, by decide +kernel⟩
theorem cc_Jx4a65c_size_8abf5 (N : Nat) (t0 : Nat) (h : Hp) (hk0 : h.kd t0 = 2) (hJ : J_Jx4a65c_size_8abf5 N t0 h = some (hz, rz)) : Ci l yJx4a65c_size_8abf5 cJx4a65c_size_8abf5 1 (some .int) 0 0 D cs h hz [.ref t0] rz := by
  intro mc ms g1 g2
  refine je_anyF (by decide) (by simp [lg_sl, rf_cat, cat_i, cat_l, cat_r]) ?_
  intro p e s m args below meth c C hin2 w ls hl
  have hl : lv_has ls 1 [(0, .ref t0)] := hl
  exact sb_Jx4a65c_size_8abf5_0 C ⟨g1, g2⟩ N t0 h hJ hk0 w hl
end G_Jx4a65c_size_8abf5
section G_Jx4a65c_isEmpty_aae02
variable {p : Program} {l : Launch} {e : Env} {s : State} {m : MethodId} {args : Array Value} {below : List Frame} {meth : Method} {c : Code} {D : va_G} {cs : C4} {A : Nat → Prop} {h0 hz : Hp} {mc ms : Nat} {rz : Int32}
def B_Jx4a65c_isEmpty_aae02_12 (N : Nat) (t0 : Nat) (h : Hp) (y0 : Int32) : Option (Hp × Int32) := ck (y0 = 0 ∨ y0 = 1) (some (h, y0))
theorem mb_Jx4a65c_isEmpty_aae02_12 (N : Nat) (t0 : Nat) (h : Hp) (y0 : Int32) (hJ : B_Jx4a65c_isEmpty_aae02_12 N t0 h y0 = some (hz, rz)) : Mo h hz := by
  unfold B_Jx4a65c_isEmpty_aae02_12 at hJ
  obtain ⟨-, hJ⟩ := ck_some hJ
  obtain ⟨rfl, -⟩ := rs2 hJ
  exact ⟨fun _ _ => rfl, Nat.le_refl _, Nat.le_refl _, rfl, fun _ _ => rfl⟩
set_option maxRecDepth 100000 in
set_option maxHeartbeats 4000000 in
theorem sb_Jx4a65c_isEmpty_aae02_12 (C : Cx p s m args meth c cJx4a65c_isEmpty_aae02 1 (some .boolean) RJx4a65c D cs A h0.se) (hz2 : hz.nx ≤ h0.nx + mc ∧ hz.su ≤ h0.su + ms) (N : Nat) (t0 : Nat) (h : Hp) (y0 : Int32) (hJ : B_Jx4a65c_isEmpty_aae02_12 N t0 h y0 = some (hz, rz)) (hk0 : h.kd t0 = 2) {H : Heap} {locs : List Loc} {cells slots : Nat} (w : Wo D cs A s h0 h H locs cells slots) {ls : Array Slot} (hl : lv_has ls 1 [(0, .ref t0)]) : W p l e { frames := 0, cells := mc, slots := ms, locals := 0 } s m args below meth c H locs cells slots (MQ below (Zi D cs A hz rz) args s mc ms A) (F0 m 12 ls [.int y0]) := by
  obtain ⟨hx, hb, hml, hown, hts, -⟩ := id C
  unfold B_Jx4a65c_isEmpty_aae02_12 at hJ
  obtain ⟨hzo1, hJ⟩ := ck_some hJ
  obtain ⟨rfl, rfl⟩ := rs2 hJ
  exact jr_zret C w hzo1 hz2 dJx4a65c_isEmpty_aae02_12
def B_Jx4a65c_isEmpty_aae02_0 (N : Nat) (t0 : Nat) (h : Hp) : Option (Hp × Int32) := if (h.fi 202 t0) = 0 then (B_Jx4a65c_isEmpty_aae02_12 N t0 h (1 : Int32)) else (B_Jx4a65c_isEmpty_aae02_12 N t0 h (0 : Int32))
theorem mb_Jx4a65c_isEmpty_aae02_0 (N : Nat) (t0 : Nat) (h : Hp) (hJ : B_Jx4a65c_isEmpty_aae02_0 N t0 h = some (hz, rz)) : Mo h hz := by
  unfold B_Jx4a65c_isEmpty_aae02_0 at hJ
  by_cases c2 : (h.fi 202 t0) = 0
  · have hJ := it_pos c2 hJ
    exact mb_Jx4a65c_isEmpty_aae02_12 N t0 _ _ hJ
  · have hJ := it_neg c2 hJ
    exact mb_Jx4a65c_isEmpty_aae02_12 N t0 _ _ hJ
set_option maxRecDepth 100000 in
set_option maxHeartbeats 4000000 in
theorem sb_Jx4a65c_isEmpty_aae02_0 (C : Cx p s m args meth c cJx4a65c_isEmpty_aae02 1 (some .boolean) RJx4a65c D cs A h0.se) (hz2 : hz.nx ≤ h0.nx + mc ∧ hz.su ≤ h0.su + ms) (N : Nat) (t0 : Nat) (h : Hp) (hJ : B_Jx4a65c_isEmpty_aae02_0 N t0 h = some (hz, rz)) (hk0 : h.kd t0 = 2) {H : Heap} {locs : List Loc} {cells slots : Nat} (w : Wo D cs A s h0 h H locs cells slots) {ls : Array Slot} (hl : lv_has ls 1 [(0, .ref t0)]) : W p l e { frames := 0, cells := mc, slots := ms, locals := 0 } s m args below meth c H locs cells slots (MQ below (Zi D cs A hz rz) args s mc ms A) (F0 m 0 ls []) := by
  obtain ⟨hx, hb, hml, hown, hts, -⟩ := id C
  unfold B_Jx4a65c_isEmpty_aae02_0 at hJ
  refine lv_aload_n hx hb dJx4a65c_isEmpty_aae02_0 rfl (lv_at hl 0 rfl) ?_
  refine fg_202 C w hk0 tw_1_64 dJx4a65c_isEmpty_aae02_1 ?_
  refine lv_if_ne (tgt := 11) hx hb dJx4a65c_isEmpty_aae02_4 (by decide) (fun c2 => ?_) (fun c2 => ?_)
  · have hJ := it_neg c2 hJ
    refine lv_iconst (v := (0 : Int32)) hx hb dJx4a65c_isEmpty_aae02_11 (by decide) ?_
    exact sb_Jx4a65c_isEmpty_aae02_12 C hz2 N t0 _ _ hJ hk0 w hl
  · have hJ := it_pos c2 hJ
    refine lv_iconst (v := (1 : Int32)) hx hb dJx4a65c_isEmpty_aae02_7 (by decide) ?_
    refine lv_goto (tgt := 12) hx hb dJx4a65c_isEmpty_aae02_8 (by decide) ?_
    exact sb_Jx4a65c_isEmpty_aae02_12 C hz2 N t0 _ _ hJ hk0 w hl
def J_Jx4a65c_isEmpty_aae02 (N : Nat) (t0 : Nat) (h : Hp) : Option (Hp × Int32) := B_Jx4a65c_isEmpty_aae02_0 N t0 h
theorem mo_Jx4a65c_isEmpty_aae02 (N : Nat) (t0 : Nat) (h : Hp) (hJ : J_Jx4a65c_isEmpty_aae02 N t0 h = some (hz, rz)) : Mo h hz := mb_Jx4a65c_isEmpty_aae02_0 N t0 h hJ
theorem cd_Jx4a65c_isEmpty_aae02 : Cd yJx4a65c_isEmpty_aae02 0 := ⟨by decide +kernel, by decide +kernel, by decide +kernel⟩
theorem cc_Jx4a65c_isEmpty_aae02 (N : Nat) (t0 : Nat) (h : Hp) (hk0 : h.kd t0 = 2) (hJ : J_Jx4a65c_isEmpty_aae02 N t0 h = some (hz, rz)) : Ci l yJx4a65c_isEmpty_aae02 cJx4a65c_isEmpty_aae02 1 (some .boolean) 0 0 D cs h hz [.ref t0] rz := by
  intro mc ms g1 g2
  refine je_anyF (by decide) (by simp [lg_sl, rf_cat, cat_i, cat_l, cat_r]) ?_
  intro p e s m args below meth c C hin2 w ls hl
  have hl : lv_has ls 1 [(0, .ref t0)] := hl
  exact sb_Jx4a65c_isEmpty_aae02_0 C ⟨g1, g2⟩ N t0 h hJ hk0 w hl
end G_Jx4a65c_isEmpty_aae02
section G_J3_checkIndex_8e157
variable {p : Program} {l : Launch} {e : Env} {s : State} {m : MethodId} {args : Array Value} {below : List Frame} {meth : Method} {c : Code} {D : va_G} {cs : C4} {A : Nat → Prop} {h0 hz : Hp} {mc ms : Nat} {rz : Int32}
def B_J3_checkIndex_8e157_9 (N : Nat) (h : Hp) (x0 : Int32) (x1 : Int32) (x2 : Option Nat) : Option (Hp × Int32) := none
theorem mb_J3_checkIndex_8e157_9 (N : Nat) (h : Hp) (x0 : Int32) (x1 : Int32) (x2 : Option Nat) (hJ : B_J3_checkIndex_8e157_9 N h x0 x1 x2 = some (hz, rz)) : Mo h hz := by
  unfold B_J3_checkIndex_8e157_9 at hJ
  cases hJ
set_option maxRecDepth 100000 in
set_option maxHeartbeats 4000000 in
theorem sb_J3_checkIndex_8e157_9 (C : Cx p s m args meth c cJ3_checkIndex_8e157 3 (some .int) RJ3 D cs A h0.se) (hz2 : hz.nx ≤ h0.nx + mc ∧ hz.su ≤ h0.su + ms) (N : Nat) (h : Hp) (x0 : Int32) (x1 : Int32) (x2 : Option Nat) (hJ : B_J3_checkIndex_8e157_9 N h x0 x1 x2 = some (hz, rz)) {H : Heap} {locs : List Loc} {cells slots : Nat} (w : Wo D cs A s h0 h H locs cells slots) {ls : Array Slot} (hl : lv_has ls 3 [(0, .int x0), (1, .int x1), (2, va_rf x2)]) : W p l e { frames := 0, cells := mc, slots := ms, locals := 0 } s m args below meth c H locs cells slots (MQ below (Zi D cs A hz rz) args s mc ms A) (F0 m 9 ls []) := by
  obtain ⟨hx, hb, hml, hown, hts, -⟩ := id C
  unfold B_J3_checkIndex_8e157_9 at hJ
  refine jv_aload_n hx hb dJ3_checkIndex_8e157_9 rfl (lv_at hl 2 rfl) ?_
  refine lv_iload_n hx hb dJ3_checkIndex_8e157_10 rfl (lv_at hl 0 rfl) ?_
  refine lv_iload_n hx hb dJ3_checkIndex_8e157_11 rfl (lv_at hl 1 rfl) ?_
  cases hJ
def B_J3_checkIndex_8e157_0 (N : Nat) (h : Hp) (x0 : Int32) (x1 : Int32) (x2 : Option Nat) : Option (Hp × Int32) := if x0 < 0 then (B_J3_checkIndex_8e157_9 N h x0 x1 x2) else (if x0 < x1 then (some (h, x0)) else (B_J3_checkIndex_8e157_9 N h x0 x1 x2))
theorem mb_J3_checkIndex_8e157_0 (N : Nat) (h : Hp) (x0 : Int32) (x1 : Int32) (x2 : Option Nat) (hJ : B_J3_checkIndex_8e157_0 N h x0 x1 x2 = some (hz, rz)) : Mo h hz := by
  unfold B_J3_checkIndex_8e157_0 at hJ
  by_cases c1 : x0 < 0
  · have hJ := it_pos c1 hJ
    exact mb_J3_checkIndex_8e157_9 N _ _ _ _ hJ
  · have hJ := it_neg c1 hJ
    by_cases c2 : x0 < x1
    · have hJ := it_pos c2 hJ
      obtain ⟨rfl, -⟩ := rs2 hJ
      exact ⟨fun _ _ => rfl, Nat.le_refl _, Nat.le_refl _, rfl, fun _ _ => rfl⟩
    · have hJ := it_neg c2 hJ
      exact mb_J3_checkIndex_8e157_9 N _ _ _ _ hJ
set_option maxRecDepth 100000 in
set_option maxHeartbeats 4000000 in
theorem sb_J3_checkIndex_8e157_0 (C : Cx p s m args meth c cJ3_checkIndex_8e157 3 (some .int) RJ3 D cs A h0.se) (hz2 : hz.nx ≤ h0.nx + mc ∧ hz.su ≤ h0.su + ms) (N : Nat) (h : Hp) (x0 : Int32) (x1 : Int32) (x2 : Option Nat) (hJ : B_J3_checkIndex_8e157_0 N h x0 x1 x2 = some (hz, rz)) {H : Heap} {locs : List Loc} {cells slots : Nat} (w : Wo D cs A s h0 h H locs cells slots) {ls : Array Slot} (hl : lv_has ls 3 [(0, .int x0), (1, .int x1), (2, va_rf x2)]) : W p l e { frames := 0, cells := mc, slots := ms, locals := 0 } s m args below meth c H locs cells slots (MQ below (Zi D cs A hz rz) args s mc ms A) (F0 m 0 ls []) := by
  obtain ⟨hx, hb, hml, hown, hts, -⟩ := id C
  unfold B_J3_checkIndex_8e157_0 at hJ
  refine lv_iload_n hx hb dJ3_checkIndex_8e157_0 rfl (lv_at hl 0 rfl) ?_
  refine lv_if_lt (tgt := 9) hx hb dJ3_checkIndex_8e157_1 (by decide) (fun c1 => ?_) (fun c1 => ?_)
  · have hJ := it_pos c1 hJ
    exact sb_J3_checkIndex_8e157_9 C hz2 N _ _ _ _ hJ w hl
  · have hJ := it_neg c1 hJ
    refine lv_iload_n hx hb dJ3_checkIndex_8e157_4 rfl (lv_at hl 0 rfl) ?_
    refine lv_iload_n hx hb dJ3_checkIndex_8e157_5 rfl (lv_at hl 1 rfl) ?_
    refine lv_icmp_lt (tgt := 16) hx hb dJ3_checkIndex_8e157_6 (by decide) (fun c2 => ?_) (fun c2 => ?_)
    · have hJ := it_pos c2 hJ
      refine lv_iload_n hx hb dJ3_checkIndex_8e157_16 rfl (lv_at hl 0 rfl) ?_
      obtain ⟨rfl, rfl⟩ := rs2 hJ
      exact jr_iret C w hz2 dJ3_checkIndex_8e157_17
    · have hJ := it_neg c2 hJ
      exact sb_J3_checkIndex_8e157_9 C hz2 N _ _ _ _ hJ w hl
def J_J3_checkIndex_8e157 (N : Nat) (h : Hp) (x0 : Int32) (x1 : Int32) (x2 : Option Nat) : Option (Hp × Int32) := B_J3_checkIndex_8e157_0 N h x0 x1 x2
theorem mo_J3_checkIndex_8e157 (N : Nat) (h : Hp) (x0 : Int32) (x1 : Int32) (x2 : Option Nat) (hJ : J_J3_checkIndex_8e157 N h x0 x1 x2 = some (hz, rz)) : Mo h hz := mb_J3_checkIndex_8e157_0 N h x0 x1 x2 hJ
theorem cd_J3_checkIndex_8e157 : Cd yJ3_checkIndex_8e157 3 := ⟨by decide +kernel, by decide +kernel, by decide +kernel⟩
theorem cc_J3_checkIndex_8e157 (N : Nat) (h : Hp) (x0 : Int32) (x1 : Int32) (x2 : Option Nat) (hJ : J_J3_checkIndex_8e157 N h x0 x1 x2 = some (hz, rz)) : Ci l yJ3_checkIndex_8e157 cJ3_checkIndex_8e157 3 (some .int) 0 0 D cs h hz [.int x0, .int x1, va_rf x2] rz := by
  intro mc ms g1 g2
  refine je_anyF (by decide) (by simp [lg_sl, rf_cat, cat_i, cat_l, cat_r]) ?_
  intro p e s m args below meth c C hin2 w ls hl
  have hl : lv_has ls 3 [(0, .int x0), (1, .int x1), (2, va_rf x2)] := by simpa [lv_args, rf_cat, cat_i, cat_l, cat_r] using hl
  exact sb_J3_checkIndex_8e157_0 C ⟨g1, g2⟩ N h x0 x1 x2 hJ w hl
end G_J3_checkIndex_8e157
section G_J15_checkIndex_7cf53
variable {p : Program} {l : Launch} {e : Env} {s : State} {m : MethodId} {args : Array Value} {below : List Frame} {meth : Method} {c : Code} {D : va_G} {cs : C4} {A : Nat → Prop} {h0 hz : Hp} {mc ms : Nat} {rz : Int32}
def B_J15_checkIndex_7cf53_6 (N : Nat) (h : Hp) (y0 : Int32) : Option (Hp × Int32) := some (h, y0)
theorem mb_J15_checkIndex_7cf53_6 (N : Nat) (h : Hp) (y0 : Int32) (hJ : B_J15_checkIndex_7cf53_6 N h y0 = some (hz, rz)) : Mo h hz := by
  unfold B_J15_checkIndex_7cf53_6 at hJ
  obtain ⟨rfl, -⟩ := rs2 hJ
  exact ⟨fun _ _ => rfl, Nat.le_refl _, Nat.le_refl _, rfl, fun _ _ => rfl⟩
set_option maxRecDepth 100000 in
set_option maxHeartbeats 4000000 in
theorem sb_J15_checkIndex_7cf53_6 (C : Cx p s m args meth c cJ15_checkIndex_7cf53 2 (some .int) RJ15 D cs A h0.se) (hz2 : hz.nx ≤ h0.nx + mc ∧ hz.su ≤ h0.su + ms) (N : Nat) (h : Hp) (y0 : Int32) (hJ : B_J15_checkIndex_7cf53_6 N h y0 = some (hz, rz)) {H : Heap} {locs : List Loc} {cells slots : Nat} (w : Wo D cs A s h0 h H locs cells slots) {ls : Array Slot} (hl : lv_has ls 2 []) : W p l e { frames := 1, cells := mc, slots := ms, locals := 30 } s m args below meth c H locs cells slots (MQ below (Zi D cs A hz rz) args s mc ms A) (F0 m 6 ls [.int y0]) := by
  obtain ⟨hx, hb, hml, hown, hts, -⟩ := id C
  unfold B_J15_checkIndex_7cf53_6 at hJ
  obtain ⟨rfl, rfl⟩ := rs2 hJ
  exact jr_iret C w hz2 dJ15_checkIndex_7cf53_6
def B_J15_checkIndex_7cf53_0 (N : Nat) (h : Hp) (x0 : Int32) (x1 : Int32) : Option (Hp × Int32) := (J_J3_checkIndex_8e157 N h x0 x1 none).bind (fun z => B_J15_checkIndex_7cf53_6 N z.1 z.2)
theorem mb_J15_checkIndex_7cf53_0 (N : Nat) (h : Hp) (x0 : Int32) (x1 : Int32) (hJ : B_J15_checkIndex_7cf53_0 N h x0 x1 = some (hz, rz)) : Mo h hz := by
  unfold B_J15_checkIndex_7cf53_0 at hJ
  obtain ⟨⟨h1, r2⟩, e3, hJ⟩ := ob_some hJ
  exact (mo_J3_checkIndex_8e157 N h x0 x1 none e3).tr (mb_J15_checkIndex_7cf53_6 N _ _ hJ)
set_option maxRecDepth 100000 in
set_option maxHeartbeats 4000000 in
theorem sb_J15_checkIndex_7cf53_0 (C : Cx p s m args meth c cJ15_checkIndex_7cf53 2 (some .int) RJ15 D cs A h0.se) (hz2 : hz.nx ≤ h0.nx + mc ∧ hz.su ≤ h0.su + ms) (N : Nat) (h : Hp) (x0 : Int32) (x1 : Int32) (hJ : B_J15_checkIndex_7cf53_0 N h x0 x1 = some (hz, rz)) {H : Heap} {locs : List Loc} {cells slots : Nat} (w : Wo D cs A s h0 h H locs cells slots) {ls : Array Slot} (hl : lv_has ls 2 [(0, .int x0), (1, .int x1)]) : W p l e { frames := 1, cells := mc, slots := ms, locals := 30 } s m args below meth c H locs cells slots (MQ below (Zi D cs A hz rz) args s mc ms A) (F0 m 0 ls []) := by
  obtain ⟨hx, hb, hml, hown, hts, -⟩ := id C
  unfold B_J15_checkIndex_7cf53_0 at hJ
  refine lv_iload_n hx hb dJ15_checkIndex_7cf53_0 rfl (lv_at hl 0 rfl) ?_
  refine lv_iload_n hx hb dJ15_checkIndex_7cf53_1 rfl (lv_at hl 1 rfl) ?_
  refine lv_null hx hb dJ15_checkIndex_7cf53_2 ?_
  change W _ _ _ _ _ _ _ _ _ _ _ _ _ _ _ (F0 m 3 ls [va_rf none, .int x1, .int x0])
  obtain ⟨⟨h1, r2⟩, e3, hJ⟩ := ob_some hJ
  refine jc_Si (As := [.int x0, .int x1, va_rf none]) C w (cc_J3_checkIndex_8e157 N h x0 x1 none e3) (mo_J3_checkIndex_8e157 N h x0 x1 none e3) (mb_J15_checkIndex_7cf53_6 N _ _ hJ) hz2 ⟨tw_2_71, tw_2_69, tw_2_70, tw_1_12⟩ cd_J3_checkIndex_8e157 ⟨by decide, by decide⟩ hl.1 (by first | exact Nat.le_of_ble_eq_true rfl | simp [rf_cat, cat_i, cat_l, cat_r]) rfl dJ15_checkIndex_7cf53_3 (fun H locs w1 => ?_)
  have w := w1
  exact sb_J15_checkIndex_7cf53_6 C hz2 N _ _ hJ w (lv_sub (l' := []) hl [] rfl)
def J_J15_checkIndex_7cf53 (N : Nat) (h : Hp) (x0 : Int32) (x1 : Int32) : Option (Hp × Int32) := B_J15_checkIndex_7cf53_0 N h x0 x1
theorem mo_J15_checkIndex_7cf53 (N : Nat) (h : Hp) (x0 : Int32) (x1 : Int32) (hJ : J_J15_checkIndex_7cf53 N h x0 x1 = some (hz, rz)) : Mo h hz := mb_J15_checkIndex_7cf53_0 N h x0 x1 hJ
theorem cd_J15_checkIndex_7cf53 : Cd yJ15_checkIndex_7cf53 2 := ⟨by decide +kernel, by decide +kernel, by decide +kernel⟩
theorem cc_J15_checkIndex_7cf53 (N : Nat) (h : Hp) (x0 : Int32) (x1 : Int32) (hJ : J_J15_checkIndex_7cf53 N h x0 x1 = some (hz, rz)) : Ci l yJ15_checkIndex_7cf53 cJ15_checkIndex_7cf53 2 (some .int) 1 30 D cs h hz [.int x0, .int x1] rz := by
  intro mc ms g1 g2
  refine je_anyF (by decide) (by simp [lg_sl, rf_cat, cat_i, cat_l, cat_r]) ?_
  intro p e s m args below meth c C hin2 w ls hl
  have hl : lv_has ls 2 [(0, .int x0), (1, .int x1)] := hl
  exact sb_J15_checkIndex_7cf53_0 C ⟨g1, g2⟩ N h x0 x1 hJ w hl
end G_J15_checkIndex_7cf53
section G_Jx4a65c_elementData_915e3
variable {p : Program} {l : Launch} {e : Env} {s : State} {m : MethodId} {args : Array Value} {below : List Frame} {meth : Method} {c : Code} {D : va_G} {cs : C4} {A : Nat → Prop} {h0 hz : Hp} {mc ms : Nat} {rz : Option Nat}
def B_Jx4a65c_elementData_915e3_0 (N : Nat) (t0 : Nat) (h : Hp) (x1 : Int32) : Option (Hp × Option Nat) := dr h 23 (h.fr 201 t0) (fun a1 => ck (¬ (x1 < 0 ∨ h.al a1 ≤ x1.toNatClampNeg)) (some (h, h.ar a1 x1.toNatClampNeg)))
theorem mb_Jx4a65c_elementData_915e3_0 (N : Nat) (t0 : Nat) (h : Hp) (x1 : Int32) (hJ : B_Jx4a65c_elementData_915e3_0 N t0 h x1 = some (hz, rz)) : Mo h hz := by
  unfold B_Jx4a65c_elementData_915e3_0 at hJ
  obtain ⟨a1, ea1, -, hJ⟩ := dr_some hJ
  obtain ⟨-, hJ⟩ := ck_some hJ
  obtain ⟨rfl, -⟩ := rs2 hJ
  exact ⟨fun _ _ => rfl, Nat.le_refl _, Nat.le_refl _, rfl, fun _ _ => rfl⟩
set_option maxRecDepth 100000 in
set_option maxHeartbeats 4000000 in
theorem sb_Jx4a65c_elementData_915e3_0 (C : Cx p s m args meth c cJx4a65c_elementData_915e3 2 (some (.object "java/lang/Object")) RJx4a65c D cs A h0.se) (hz2 : hz.nx ≤ h0.nx + mc ∧ hz.su ≤ h0.su + ms) (N : Nat) (t0 : Nat) (h : Hp) (x1 : Int32) (hJ : B_Jx4a65c_elementData_915e3_0 N t0 h x1 = some (hz, rz)) (hk0 : h.kd t0 = 2) {H : Heap} {locs : List Loc} {cells slots : Nat} (w : Wo D cs A s h0 h H locs cells slots) {ls : Array Slot} (hl : lv_has ls 2 [(0, .ref t0), (1, .int x1)]) : W p l e { frames := 0, cells := mc, slots := ms, locals := 0 } s m args below meth c H locs cells slots (MQ below (Zq D cs A hz rz) args s mc ms A) (F0 m 0 ls []) := by
  obtain ⟨hx, hb, hml, hown, hts, -⟩ := id C
  unfold B_Jx4a65c_elementData_915e3_0 at hJ
  refine lv_aload_n hx hb dJx4a65c_elementData_915e3_0 rfl (lv_at hl 0 rfl) ?_
  refine fg_201 C w hk0 tw_1_63 dJx4a65c_elementData_915e3_1 ?_
  refine lv_iload_n hx hb dJx4a65c_elementData_915e3_4 rfl (lv_at hl 1 rfl) ?_
  obtain ⟨a1, ea1, hka1, hJ⟩ := dr_some hJ
  rw [ea1]
  obtain ⟨hi2, hJ⟩ := ck_some hJ
  refine jr_aald C w hka1 hi2 dJx4a65c_elementData_915e3_5 ?_
  obtain ⟨rfl, rfl⟩ := rs2 hJ
  exact jr_aret (r := h.ar a1 x1.toNatClampNeg) C w (Or.inl ⟨_, rfl⟩) hz2 dJx4a65c_elementData_915e3_6
def J_Jx4a65c_elementData_915e3 (N : Nat) (t0 : Nat) (h : Hp) (x1 : Int32) : Option (Hp × Option Nat) := B_Jx4a65c_elementData_915e3_0 N t0 h x1
theorem mo_Jx4a65c_elementData_915e3 (N : Nat) (t0 : Nat) (h : Hp) (x1 : Int32) (hJ : J_Jx4a65c_elementData_915e3 N t0 h x1 = some (hz, rz)) : Mo h hz := mb_Jx4a65c_elementData_915e3_0 N t0 h x1 hJ
theorem cd_Jx4a65c_elementData_915e3 : Cd yJx4a65c_elementData_915e3 1 := ⟨by decide +kernel, by decide +kernel, by decide +kernel⟩
theorem cc_Jx4a65c_elementData_915e3 (N : Nat) (t0 : Nat) (h : Hp) (x1 : Int32) (hk0 : h.kd t0 = 2) (hJ : J_Jx4a65c_elementData_915e3 N t0 h x1 = some (hz, rz)) : Cq l yJx4a65c_elementData_915e3 cJx4a65c_elementData_915e3 2 (some (.object "java/lang/Object")) 0 0 D cs h hz [.ref t0, .int x1] rz := by
  intro mc ms g1 g2
  refine je_anyF (by decide) (by simp [lg_sl, rf_cat, cat_i, cat_l, cat_r]) ?_
  intro p e s m args below meth c C hin2 w ls hl
  have hl : lv_has ls 2 [(0, .ref t0), (1, .int x1)] := hl
  exact sb_Jx4a65c_elementData_915e3_0 C ⟨g1, g2⟩ N t0 h x1 hJ hk0 w hl
end G_Jx4a65c_elementData_915e3
section G_Jx4a65c_get_915e3
variable {p : Program} {l : Launch} {e : Env} {s : State} {m : MethodId} {args : Array Value} {below : List Frame} {meth : Method} {c : Code} {D : va_G} {cs : C4} {A : Nat → Prop} {h0 hz : Hp} {mc ms : Nat} {rz : Option Nat}
def B_Jx4a65c_get_915e3_14 (N : Nat) (t0 : Nat) (h : Hp) (y0 : Option Nat) : Option (Hp × Option Nat) := some (h, y0)
theorem mb_Jx4a65c_get_915e3_14 (N : Nat) (t0 : Nat) (h : Hp) (y0 : Option Nat) (hJ : B_Jx4a65c_get_915e3_14 N t0 h y0 = some (hz, rz)) : Mo h hz := by
  unfold B_Jx4a65c_get_915e3_14 at hJ
  obtain ⟨rfl, -⟩ := rs2 hJ
  exact ⟨fun _ _ => rfl, Nat.le_refl _, Nat.le_refl _, rfl, fun _ _ => rfl⟩
set_option maxRecDepth 100000 in
set_option maxHeartbeats 4000000 in
theorem sb_Jx4a65c_get_915e3_14 (C : Cx p s m args meth c cJx4a65c_get_915e3 2 (some (.object "java/lang/Object")) RJx4a65c D cs A h0.se) (hz2 : hz.nx ≤ h0.nx + mc ∧ hz.su ≤ h0.su + ms) (N : Nat) (t0 : Nat) (h : Hp) (y0 : Option Nat) (hJ : B_Jx4a65c_get_915e3_14 N t0 h y0 = some (hz, rz)) (hk0 : h.kd t0 = 2) {H : Heap} {locs : List Loc} {cells slots : Nat} (w : Wo D cs A s h0 h H locs cells slots) {ls : Array Slot} (hl : lv_has ls 2 [(0, .ref t0)]) : W p l e { frames := 2, cells := mc, slots := ms, locals := 60 } s m args below meth c H locs cells slots (MQ below (Zq D cs A hz rz) args s mc ms A) (F0 m 14 ls [va_rf y0]) := by
  obtain ⟨hx, hb, hml, hown, hts, -⟩ := id C
  unfold B_Jx4a65c_get_915e3_14 at hJ
  obtain ⟨rfl, rfl⟩ := rs2 hJ
  exact jr_aret (r := y0) C w (Or.inl ⟨_, rfl⟩) hz2 dJx4a65c_get_915e3_14
def B_Jx4a65c_get_915e3_8 (N : Nat) (t0 : Nat) (h : Hp) (x1 : Int32) (y0 : Int32) : Option (Hp × Option Nat) := (J_Jx4a65c_elementData_915e3 N t0 h x1).bind (fun z => B_Jx4a65c_get_915e3_14 N t0 z.1 z.2)
theorem mb_Jx4a65c_get_915e3_8 (N : Nat) (t0 : Nat) (h : Hp) (x1 : Int32) (y0 : Int32) (hJ : B_Jx4a65c_get_915e3_8 N t0 h x1 y0 = some (hz, rz)) : Mo h hz := by
  unfold B_Jx4a65c_get_915e3_8 at hJ
  obtain ⟨⟨h1, r2⟩, e3, hJ⟩ := ob_some hJ
  exact (mo_Jx4a65c_elementData_915e3 N t0 h x1 e3).tr (mb_Jx4a65c_get_915e3_14 N t0 _ _ hJ)
set_option maxRecDepth 100000 in
set_option maxHeartbeats 4000000 in
theorem sb_Jx4a65c_get_915e3_8 (C : Cx p s m args meth c cJx4a65c_get_915e3 2 (some (.object "java/lang/Object")) RJx4a65c D cs A h0.se) (hz2 : hz.nx ≤ h0.nx + mc ∧ hz.su ≤ h0.su + ms) (N : Nat) (t0 : Nat) (h : Hp) (x1 : Int32) (y0 : Int32) (hJ : B_Jx4a65c_get_915e3_8 N t0 h x1 y0 = some (hz, rz)) (hk0 : h.kd t0 = 2) {H : Heap} {locs : List Loc} {cells slots : Nat} (w : Wo D cs A s h0 h H locs cells slots) {ls : Array Slot} (hl : lv_has ls 2 [(0, .ref t0), (1, .int x1)]) : W p l e { frames := 2, cells := mc, slots := ms, locals := 60 } s m args below meth c H locs cells slots (MQ below (Zq D cs A hz rz) args s mc ms A) (F0 m 8 ls [.int y0]) := by
  obtain ⟨hx, hb, hml, hown, hts, -⟩ := id C
  unfold B_Jx4a65c_get_915e3_8 at hJ
  refine lv_pop hx hb dJx4a65c_get_915e3_8 rfl ?_
  refine lv_aload_n hx hb dJx4a65c_get_915e3_9 rfl (lv_at hl 0 rfl) ?_
  refine lv_iload_n hx hb dJx4a65c_get_915e3_10 rfl (lv_at hl 1 rfl) ?_
  obtain ⟨⟨h1, r2⟩, e3, hJ⟩ := ob_some hJ
  refine jc_Vq (As := [.int x1]) C w (cc_Jx4a65c_elementData_915e3 N t0 h x1 hk0 e3) (mo_Jx4a65c_elementData_915e3 N t0 h x1 e3) (mb_Jx4a65c_get_915e3_14 N t0 _ _ hJ) hz2 hk0 (by decide) rfl (fs := fs2 h t0) rfl rfl ⟨tw_2_75, tw_2_72, tw_2_73, tw_2_74, tw_1_5⟩ cd_Jx4a65c_elementData_915e3 ⟨by decide, by decide⟩ hl.1 (by first | exact Nat.le_of_ble_eq_true rfl | simp [rf_cat, cat_i, cat_l, cat_r]) rfl dJx4a65c_get_915e3_11 (fun H locs w1 => ?_)
  have hk4 := kd_keep w (mo_Jx4a65c_elementData_915e3 N t0 h x1 e3) hk0 (by decide)
  have w := w1
  exact sb_Jx4a65c_get_915e3_14 C hz2 N t0 _ _ hJ hk4 w (lv_sub (l' := [(0, .ref t0)]) hl [0] rfl)
def B_Jx4a65c_get_915e3_0 (N : Nat) (t0 : Nat) (h : Hp) (x1 : Int32) : Option (Hp × Option Nat) := (J_J15_checkIndex_7cf53 N h x1 (h.fi 202 t0)).bind (fun z => B_Jx4a65c_get_915e3_8 N t0 z.1 x1 z.2)
theorem mb_Jx4a65c_get_915e3_0 (N : Nat) (t0 : Nat) (h : Hp) (x1 : Int32) (hJ : B_Jx4a65c_get_915e3_0 N t0 h x1 = some (hz, rz)) : Mo h hz := by
  unfold B_Jx4a65c_get_915e3_0 at hJ
  obtain ⟨⟨h5, r6⟩, e7, hJ⟩ := ob_some hJ
  exact (mo_J15_checkIndex_7cf53 N h x1 (h.fi 202 t0) e7).tr (mb_Jx4a65c_get_915e3_8 N t0 _ _ _ hJ)
set_option maxRecDepth 100000 in
set_option maxHeartbeats 4000000 in
theorem sb_Jx4a65c_get_915e3_0 (C : Cx p s m args meth c cJx4a65c_get_915e3 2 (some (.object "java/lang/Object")) RJx4a65c D cs A h0.se) (hz2 : hz.nx ≤ h0.nx + mc ∧ hz.su ≤ h0.su + ms) (N : Nat) (t0 : Nat) (h : Hp) (x1 : Int32) (hJ : B_Jx4a65c_get_915e3_0 N t0 h x1 = some (hz, rz)) (hk0 : h.kd t0 = 2) {H : Heap} {locs : List Loc} {cells slots : Nat} (w : Wo D cs A s h0 h H locs cells slots) {ls : Array Slot} (hl : lv_has ls 2 [(0, .ref t0), (1, .int x1)]) : W p l e { frames := 2, cells := mc, slots := ms, locals := 60 } s m args below meth c H locs cells slots (MQ below (Zq D cs A hz rz) args s mc ms A) (F0 m 0 ls []) := by
  obtain ⟨hx, hb, hml, hown, hts, -⟩ := id C
  unfold B_Jx4a65c_get_915e3_0 at hJ
  refine lv_iload_n hx hb dJx4a65c_get_915e3_0 rfl (lv_at hl 1 rfl) ?_
  refine lv_aload_n hx hb dJx4a65c_get_915e3_1 rfl (lv_at hl 0 rfl) ?_
  refine fg_202 C w hk0 tw_1_64 dJx4a65c_get_915e3_2 ?_
  obtain ⟨⟨h5, r6⟩, e7, hJ⟩ := ob_some hJ
  refine jc_Si (As := [.int x1, .int (h.fi 202 t0)]) C w (cc_J15_checkIndex_7cf53 N h x1 (h.fi 202 t0) e7) (mo_J15_checkIndex_7cf53 N h x1 (h.fi 202 t0) e7) (mb_Jx4a65c_get_915e3_8 N t0 _ _ _ hJ) hz2 ⟨tw_2_68, tw_2_66, tw_2_67, tw_1_11⟩ cd_J15_checkIndex_7cf53 ⟨by decide, by decide⟩ hl.1 (by first | exact Nat.le_of_ble_eq_true rfl | simp [rf_cat, cat_i, cat_l, cat_r]) rfl dJx4a65c_get_915e3_5 (fun H locs w1 => ?_)
  have hk8 := kd_keep w (mo_J15_checkIndex_7cf53 N h x1 (h.fi 202 t0) e7) hk0 (by decide)
  have w := w1
  exact sb_Jx4a65c_get_915e3_8 C hz2 N t0 _ _ _ hJ hk8 w hl
def J_Jx4a65c_get_915e3 (N : Nat) (t0 : Nat) (h : Hp) (x1 : Int32) : Option (Hp × Option Nat) := B_Jx4a65c_get_915e3_0 N t0 h x1
theorem mo_Jx4a65c_get_915e3 (N : Nat) (t0 : Nat) (h : Hp) (x1 : Int32) (hJ : J_Jx4a65c_get_915e3 N t0 h x1 = some (hz, rz)) : Mo h hz := mb_Jx4a65c_get_915e3_0 N t0 h x1 hJ
theorem cd_Jx4a65c_get_915e3 : Cd yJx4a65c_get_915e3 1 := ⟨by decide +kernel, by decide +kernel, by decide +kernel⟩
theorem cc_Jx4a65c_get_915e3 (N : Nat) (t0 : Nat) (h : Hp) (x1 : Int32) (hk0 : h.kd t0 = 2) (hJ : J_Jx4a65c_get_915e3 N t0 h x1 = some (hz, rz)) : Cq l yJx4a65c_get_915e3 cJx4a65c_get_915e3 2 (some (.object "java/lang/Object")) 2 60 D cs h hz [.ref t0, .int x1] rz := by
  intro mc ms g1 g2
  refine je_anyF (by decide) (by simp [lg_sl, rf_cat, cat_i, cat_l, cat_r]) ?_
  intro p e s m args below meth c C hin2 w ls hl
  have hl : lv_has ls 2 [(0, .ref t0), (1, .int x1)] := hl
  exact sb_Jx4a65c_get_915e3_0 C ⟨g1, g2⟩ N t0 h x1 hJ hk0 w hl
end G_Jx4a65c_get_915e3
section G_J8_newLength_cabcc
variable {p : Program} {l : Launch} {e : Env} {s : State} {m : MethodId} {args : Array Value} {below : List Frame} {meth : Method} {c : Code} {D : va_G} {cs : C4} {A : Nat → Prop} {h0 hz : Hp} {mc ms : Nat} {rz : Int32}
def B_J8_newLength_cabcc_21 (N : Nat) (h : Hp) (x0 : Int32) (x1 : Int32) : Option (Hp × Int32) := none
theorem mb_J8_newLength_cabcc_21 (N : Nat) (h : Hp) (x0 : Int32) (x1 : Int32) (hJ : B_J8_newLength_cabcc_21 N h x0 x1 = some (hz, rz)) : Mo h hz := by
  unfold B_J8_newLength_cabcc_21 at hJ
  cases hJ
set_option maxRecDepth 100000 in
set_option maxHeartbeats 4000000 in
theorem sb_J8_newLength_cabcc_21 (C : Cx p s m args meth c cJ8_newLength_cabcc 4 (some .int) RJ8 D cs A h0.se) (hz2 : hz.nx ≤ h0.nx + mc ∧ hz.su ≤ h0.su + ms) (N : Nat) (h : Hp) (x0 : Int32) (x1 : Int32) (hJ : B_J8_newLength_cabcc_21 N h x0 x1 = some (hz, rz)) {H : Heap} {locs : List Loc} {cells slots : Nat} (w : Wo D cs A s h0 h H locs cells slots) {ls : Array Slot} (hl : lv_has ls 4 [(0, .int x0), (1, .int x1)]) : W p l e { frames := 1, cells := mc, slots := ms, locals := 40 } s m args below meth c H locs cells slots (MQ below (Zi D cs A hz rz) args s mc ms A) (F0 m 21 ls []) := by
  obtain ⟨hx, hb, hml, hown, hts, -⟩ := id C
  unfold B_J8_newLength_cabcc_21 at hJ
  refine lv_iload_n hx hb dJ8_newLength_cabcc_21 rfl (lv_at hl 0 rfl) ?_
  refine lv_iload_n hx hb dJ8_newLength_cabcc_22 rfl (lv_at hl 1 rfl) ?_
  cases hJ
def B_J8_newLength_cabcc_6 (N : Nat) (h : Hp) (x0 : Int32) (x1 : Int32) (y0 : Int32) (y1 : Int32) : Option (Hp × Int32) := if (y0 + y1) ≤ (0 : Int32) then (B_J8_newLength_cabcc_21 N h x0 x1) else (if (2147483639 : Int32) < (y0 + y1) then (B_J8_newLength_cabcc_21 N h x0 x1) else (some (h, y0 + y1)))
theorem mb_J8_newLength_cabcc_6 (N : Nat) (h : Hp) (x0 : Int32) (x1 : Int32) (y0 : Int32) (y1 : Int32) (hJ : B_J8_newLength_cabcc_6 N h x0 x1 y0 y1 = some (hz, rz)) : Mo h hz := by
  unfold B_J8_newLength_cabcc_6 at hJ
  by_cases c1 : (y0 + y1) ≤ (0 : Int32)
  · have hJ := it_pos c1 hJ
    exact mb_J8_newLength_cabcc_21 N _ _ _ hJ
  · have hJ := it_neg c1 hJ
    by_cases c2 : (2147483639 : Int32) < (y0 + y1)
    · have hJ := it_pos c2 hJ
      exact mb_J8_newLength_cabcc_21 N _ _ _ hJ
    · have hJ := it_neg c2 hJ
      obtain ⟨rfl, -⟩ := rs2 hJ
      exact ⟨fun _ _ => rfl, Nat.le_refl _, Nat.le_refl _, rfl, fun _ _ => rfl⟩
set_option maxRecDepth 100000 in
set_option maxHeartbeats 4000000 in
theorem sb_J8_newLength_cabcc_6 (C : Cx p s m args meth c cJ8_newLength_cabcc 4 (some .int) RJ8 D cs A h0.se) (hz2 : hz.nx ≤ h0.nx + mc ∧ hz.su ≤ h0.su + ms) (N : Nat) (h : Hp) (x0 : Int32) (x1 : Int32) (y0 : Int32) (y1 : Int32) (hJ : B_J8_newLength_cabcc_6 N h x0 x1 y0 y1 = some (hz, rz)) {H : Heap} {locs : List Loc} {cells slots : Nat} (w : Wo D cs A s h0 h H locs cells slots) {ls : Array Slot} (hl : lv_has ls 4 [(0, .int x0), (1, .int x1)]) : W p l e { frames := 1, cells := mc, slots := ms, locals := 40 } s m args below meth c H locs cells slots (MQ below (Zi D cs A hz rz) args s mc ms A) (F0 m 6 ls [.int y1, .int y0]) := by
  obtain ⟨hx, hb, hml, hown, hts, -⟩ := id C
  unfold B_J8_newLength_cabcc_6 at hJ
  refine lv_iadd hx hb dJ8_newLength_cabcc_6 ?_
  refine lv_istore_n (i := 3) (lv' := [(3, .int (y0 + y1)), (0, .int x0), (1, .int x1)]) hx hb dJ8_newLength_cabcc_7 rfl hl (by decide) rfl (fun ls hl => ?_)
  refine lv_iconst (v := (0 : Int32)) hx hb dJ8_newLength_cabcc_8 (by decide) ?_
  refine lv_iload_n hx hb dJ8_newLength_cabcc_9 rfl (lv_at hl 0 rfl) ?_
  refine lv_icmp_ge (tgt := 21) hx hb dJ8_newLength_cabcc_10 (by decide) (fun c1 => ?_) (fun c1 => ?_)
  · have hJ := it_pos c1 hJ
    exact sb_J8_newLength_cabcc_21 C hz2 N _ _ _ hJ w (lv_sub (l' := [(0, .int x0), (1, .int x1)]) hl [1, 2] rfl)
  · have hJ := it_neg c1 hJ
    refine lv_iload_n hx hb dJ8_newLength_cabcc_13 rfl (lv_at hl 0 rfl) ?_
    refine lv_ldc (v := (2147483639 : Int32)) hx hb hown (hts _ tw_2_106) dJ8_newLength_cabcc_14 ?_
    refine lv_icmp_gt (tgt := 21) hx hb dJ8_newLength_cabcc_16 (by decide) (fun c2 => ?_) (fun c2 => ?_)
    · have hJ := it_pos c2 hJ
      exact sb_J8_newLength_cabcc_21 C hz2 N _ _ _ hJ w (lv_sub (l' := [(0, .int x0), (1, .int x1)]) hl [1, 2] rfl)
    · have hJ := it_neg c2 hJ
      refine lv_iload_n hx hb dJ8_newLength_cabcc_19 rfl (lv_at hl 0 rfl) ?_
      obtain ⟨rfl, rfl⟩ := rs2 hJ
      exact jr_iret C w hz2 dJ8_newLength_cabcc_20
def B_J8_newLength_cabcc_0 (N : Nat) (h : Hp) (x0 : Int32) (x1 : Int32) (x2 : Int32) : Option (Hp × Int32) := B_J8_newLength_cabcc_6 N h x0 x1 x0 (if x1 < x2 then x2 else x1)
theorem mb_J8_newLength_cabcc_0 (N : Nat) (h : Hp) (x0 : Int32) (x1 : Int32) (x2 : Int32) (hJ : B_J8_newLength_cabcc_0 N h x0 x1 x2 = some (hz, rz)) : Mo h hz := by
  unfold B_J8_newLength_cabcc_0 at hJ
  exact mb_J8_newLength_cabcc_6 N _ _ _ _ _ hJ
set_option maxRecDepth 100000 in
set_option maxHeartbeats 4000000 in
theorem sb_J8_newLength_cabcc_0 (C : Cx p s m args meth c cJ8_newLength_cabcc 4 (some .int) RJ8 D cs A h0.se) (hz2 : hz.nx ≤ h0.nx + mc ∧ hz.su ≤ h0.su + ms) (N : Nat) (h : Hp) (x0 : Int32) (x1 : Int32) (x2 : Int32) (hJ : B_J8_newLength_cabcc_0 N h x0 x1 x2 = some (hz, rz)) {H : Heap} {locs : List Loc} {cells slots : Nat} (w : Wo D cs A s h0 h H locs cells slots) {ls : Array Slot} (hl : lv_has ls 4 [(0, .int x0), (1, .int x1), (2, .int x2)]) : W p l e { frames := 1, cells := mc, slots := ms, locals := 40 } s m args below meth c H locs cells slots (MQ below (Zi D cs A hz rz) args s mc ms A) (F0 m 0 ls []) := by
  obtain ⟨hx, hb, hml, hown, hts, -⟩ := id C
  unfold B_J8_newLength_cabcc_0 at hJ
  refine lv_iload_n hx hb dJ8_newLength_cabcc_0 rfl (lv_at hl 0 rfl) ?_
  refine lv_iload_n hx hb dJ8_newLength_cabcc_1 rfl (lv_at hl 1 rfl) ?_
  refine lv_iload_n hx hb dJ8_newLength_cabcc_2 rfl (lv_at hl 2 rfl) ?_
  refine va_mmax hx hb (hml.trans hl.1.symm) hown (hts _ tw_2_103) (hts _ tw_2_104) (hts _ tw_1_14) (hts _ tw_max) (Nat.le_of_ble_eq_true rfl) (by first | exact Nat.le_of_ble_eq_true rfl | simp [rf_cat, cat_i, cat_l, cat_r]) (rm_now w (mb_J8_newLength_cabcc_6 N _ _ _ _ _ hJ) hz2).1 (rm_now w (mb_J8_newLength_cabcc_6 N _ _ _ _ _ hJ) hz2).2 dJ8_newLength_cabcc_3 ?_
  exact sb_J8_newLength_cabcc_6 C hz2 N _ _ _ _ _ hJ w (lv_sub (l' := [(0, .int x0), (1, .int x1)]) hl [0, 1] rfl)
def J_J8_newLength_cabcc (N : Nat) (h : Hp) (x0 : Int32) (x1 : Int32) (x2 : Int32) : Option (Hp × Int32) := B_J8_newLength_cabcc_0 N h x0 x1 x2
theorem mo_J8_newLength_cabcc (N : Nat) (h : Hp) (x0 : Int32) (x1 : Int32) (x2 : Int32) (hJ : J_J8_newLength_cabcc N h x0 x1 x2 = some (hz, rz)) : Mo h hz := mb_J8_newLength_cabcc_0 N h x0 x1 x2 hJ
theorem cd_J8_newLength_cabcc : Cd yJ8_newLength_cabcc 3 := ⟨by decide +kernel, by decide +kernel, by decide +kernel⟩
theorem cc_J8_newLength_cabcc (N : Nat) (h : Hp) (x0 : Int32) (x1 : Int32) (x2 : Int32) (hJ : J_J8_newLength_cabcc N h x0 x1 x2 = some (hz, rz)) : Ci l yJ8_newLength_cabcc cJ8_newLength_cabcc 4 (some .int) 1 40 D cs h hz [.int x0, .int x1, .int x2] rz := by
  intro mc ms g1 g2
  refine je_anyF (by decide) (by simp [lg_sl, rf_cat, cat_i, cat_l, cat_r]) ?_
  intro p e s m args below meth c C hin2 w ls hl
  have hl : lv_has ls 4 [(0, .int x0), (1, .int x1), (2, .int x2)] := hl
  exact sb_J8_newLength_cabcc_0 C ⟨g1, g2⟩ N h x0 x1 x2 hJ w hl
end G_J8_newLength_cabcc
section G_J7_copyOf_6403c
variable {p : Program} {l : Launch} {e : Env} {s : State} {m : MethodId} {args : Array Value} {below : List Frame} {meth : Method} {c : Code} {D : va_G} {cs : C4} {A : Nat → Prop} {h0 hz : Hp} {mc ms : Nat} {rz : Option Nat}
def B_J7_copyOf_6403c_35 (N : Nat) (h : Hp) (x3 : Option Nat) (y0 : Option Nat) (y1 : Int32) (y2 : Option Nat) (y3 : Int32) (y4 : Int32) : Option (Hp × Option Nat) := dr h 23 y0 (fun a1 => dr h 23 y2 (fun a2 => ck (¬ y1 < 0 ∧ ¬ y3 < 0 ∧ ¬ y4 < 0 ∧ y1.toNatClampNeg + y4.toNatClampNeg ≤ h.al a1 ∧ y3.toNatClampNeg + y4.toNatClampNeg ≤ h.al a2) (ck (∀ i, i < y4.toNatClampNeg → okV h (h.ar a1 (y1.toNatClampNeg + i)) = true) (some (h.tar a2 (va_cpy (h.ar a1) (h.ar a2) y1.toNatClampNeg y3.toNatClampNeg y4.toNatClampNeg), x3)))))
theorem mb_J7_copyOf_6403c_35 (N : Nat) (h : Hp) (x3 : Option Nat) (y0 : Option Nat) (y1 : Int32) (y2 : Option Nat) (y3 : Int32) (y4 : Int32) (hJ : B_J7_copyOf_6403c_35 N h x3 y0 y1 y2 y3 y4 = some (hz, rz)) : Mo h hz := by
  unfold B_J7_copyOf_6403c_35 at hJ
  obtain ⟨a1, ea1, -, hJ⟩ := dr_some hJ
  obtain ⟨a2, ea2, -, hJ⟩ := dr_some hJ
  obtain ⟨-, hJ⟩ := ck_some hJ
  obtain ⟨-, hJ⟩ := ck_some hJ
  obtain ⟨rfl, -⟩ := rs2 hJ
  exact ⟨fun _ _ => rfl, Nat.le_refl _, Nat.le_refl _, rfl, fun _ _ => rfl⟩
set_option maxRecDepth 100000 in
set_option maxHeartbeats 4000000 in
theorem sb_J7_copyOf_6403c_35 (C : Cx p s m args meth c cJ7_copyOf_6403c 4 (some (.array (.object "java/lang/Object"))) RJ7 D cs A h0.se) (hz2 : hz.nx ≤ h0.nx + mc ∧ hz.su ≤ h0.su + ms) (N : Nat) (h : Hp) (x3 : Option Nat) (y0 : Option Nat) (y1 : Int32) (y2 : Option Nat) (y3 : Int32) (y4 : Int32) (hJ : B_J7_copyOf_6403c_35 N h x3 y0 y1 y2 y3 y4 = some (hz, rz)) {H : Heap} {locs : List Loc} {cells slots : Nat} (w : Wo D cs A s h0 h H locs cells slots) {ls : Array Slot} (hl : lv_has ls 4 [(3, va_rf x3)]) : W p l e { frames := 1, cells := mc, slots := ms, locals := 60 } s m args below meth c H locs cells slots (MQ below (Zq D cs A hz rz) args s mc ms A) (F0 m 35 ls [.int y4, .int y3, va_rf y2, .int y1, va_rf y0]) := by
  obtain ⟨hx, hb, hml, hown, hts, -⟩ := id C
  unfold B_J7_copyOf_6403c_35 at hJ
  obtain ⟨a1, ea1, hka1, hJ⟩ := dr_some hJ
  rw [ea1]
  obtain ⟨a2, ea2, hka2, hJ⟩ := dr_some hJ
  rw [ea2]
  obtain ⟨hc3, hJ⟩ := ck_some hJ
  obtain ⟨he4, hJ⟩ := ck_some hJ
  refine jr_cpr C w hl.1 tw_2_145 hka1 hka2 hc3 he4 (Nat.le_of_ble_eq_true rfl) (by first | exact Nat.le_of_ble_eq_true rfl | (simp [rf_cat, cat_i, cat_l, cat_r]; done) | (simp [rf_cat, cat_i, cat_l, cat_r]; decide)) dJ7_copyOf_6403c_35 (fun H locs w => ?_)
  refine jv_aload_n hx hb dJ7_copyOf_6403c_38 rfl (lv_at hl 0 rfl) ?_
  obtain ⟨rfl, rfl⟩ := rs2 hJ
  exact jr_aret (r := x3) C w (Or.inr ⟨_, rfl⟩) hz2 dJ7_copyOf_6403c_39
def B_J7_copyOf_6403c_10 (N : Nat) (h : Hp) (x0 : Option Nat) (x1 : Int32) (y0 : Option Nat) : Option (Hp × Option Nat) := alO h x0 (fun n6 => B_J7_copyOf_6403c_35 N h y0 x0 (0 : Int32) y0 (0 : Int32) (if x1 < n6 then x1 else n6))
theorem mb_J7_copyOf_6403c_10 (N : Nat) (h : Hp) (x0 : Option Nat) (x1 : Int32) (y0 : Option Nat) (hJ : B_J7_copyOf_6403c_10 N h x0 x1 y0 = some (hz, rz)) : Mo h hz := by
  unfold B_J7_copyOf_6403c_10 at hJ
  obtain ⟨_, n6, _, _, hJ⟩ := alO_some hJ
  exact mb_J7_copyOf_6403c_35 N _ _ _ _ _ _ _ hJ
set_option maxRecDepth 100000 in
set_option maxHeartbeats 4000000 in
theorem sb_J7_copyOf_6403c_10 (C : Cx p s m args meth c cJ7_copyOf_6403c 4 (some (.array (.object "java/lang/Object"))) RJ7 D cs A h0.se) (hz2 : hz.nx ≤ h0.nx + mc ∧ hz.su ≤ h0.su + ms) (N : Nat) (h : Hp) (x0 : Option Nat) (x1 : Int32) (y0 : Option Nat) (hJ : B_J7_copyOf_6403c_10 N h x0 x1 y0 = some (hz, rz)) {H : Heap} {locs : List Loc} {cells slots : Nat} (w : Wo D cs A s h0 h H locs cells slots) {ls : Array Slot} (hl : lv_has ls 4 [(0, va_rf x0), (1, .int x1)]) : W p l e { frames := 1, cells := mc, slots := ms, locals := 60 } s m args below meth c H locs cells slots (MQ below (Zq D cs A hz rz) args s mc ms A) (F0 m 10 ls [va_rf y0]) := by
  obtain ⟨hx, hb, hml, hown, hts, -⟩ := id C
  unfold B_J7_copyOf_6403c_10 at hJ
  refine lv_goto (tgt := 24) hx hb dJ7_copyOf_6403c_10 (by decide) ?_
  refine jv_astore_n (i := 3) (lv' := [(3, va_rf y0), (0, va_rf x0), (1, .int x1)]) hx hb dJ7_copyOf_6403c_24 rfl hl (by decide) rfl (fun ls hl => ?_)
  refine jv_aload_n hx hb dJ7_copyOf_6403c_25 rfl (lv_at hl 1 rfl) ?_
  refine lv_iconst (v := (0 : Int32)) hx hb dJ7_copyOf_6403c_26 (by decide) ?_
  refine jv_aload_n hx hb dJ7_copyOf_6403c_27 rfl (lv_at hl 0 rfl) ?_
  refine lv_iconst (v := (0 : Int32)) hx hb dJ7_copyOf_6403c_28 (by decide) ?_
  refine jv_aload_n hx hb dJ7_copyOf_6403c_29 rfl (lv_at hl 1 rfl) ?_
  obtain ⟨a5, n6, ea5, hqa5, hJ⟩ := alO_some hJ
  rw [ea5]
  refine jr_alO C w hqa5 dJ7_copyOf_6403c_30 ?_
  try rw [← ea5]
  refine lv_iload_n hx hb dJ7_copyOf_6403c_31 rfl (lv_at hl 2 rfl) ?_
  refine va_mmin hx hb (hml.trans hl.1.symm) hown (hts _ tw_2_142) (hts _ tw_2_143) (hts _ tw_1_14) (hts _ tw_min) (Nat.le_of_ble_eq_true rfl) (by first | exact Nat.le_of_ble_eq_true rfl | simp [rf_cat, cat_i, cat_l, cat_r]) (rm_now w (mb_J7_copyOf_6403c_35 N _ _ _ _ _ _ _ hJ) hz2).1 (rm_now w (mb_J7_copyOf_6403c_35 N _ _ _ _ _ _ _ hJ) hz2).2 dJ7_copyOf_6403c_32 ?_
  exact sb_J7_copyOf_6403c_35 C hz2 N _ _ _ _ _ _ _ hJ w (lv_sub (l' := [(3, va_rf y0)]) hl [0] rfl)
def B_J7_copyOf_6403c_0 (N : Nat) (h : Hp) (x0 : Option Nat) (x1 : Int32) (x2 : Option Nat) : Option (Hp × Option Nat) := if x2 = (some h.se.2) then (ck (¬ x1 < 0 ∧ x1.toNatClampNeg ≤ 67108864) (B_J7_copyOf_6403c_10 N (h.new 23 x1.toNatClampNeg x1.toNatClampNeg) x0 x1 (some h.nx))) else (none)
theorem mb_J7_copyOf_6403c_0 (N : Nat) (h : Hp) (x0 : Option Nat) (x1 : Int32) (x2 : Option Nat) (hJ : B_J7_copyOf_6403c_0 N h x0 x1 x2 = some (hz, rz)) : Mo h hz := by
  unfold B_J7_copyOf_6403c_0 at hJ
  by_cases c7 : x2 = (some h.se.2)
  · have hJ := it_pos c7 hJ
    obtain ⟨-, hJ⟩ := ck_some hJ
    exact (Mo.new h _ _ _).tr (mb_J7_copyOf_6403c_10 N _ _ _ _ hJ)
  · have hJ := it_neg c7 hJ
    cases hJ
set_option maxRecDepth 100000 in
set_option maxHeartbeats 4000000 in
theorem sb_J7_copyOf_6403c_0 (C : Cx p s m args meth c cJ7_copyOf_6403c 4 (some (.array (.object "java/lang/Object"))) RJ7 D cs A h0.se) (hz2 : hz.nx ≤ h0.nx + mc ∧ hz.su ≤ h0.su + ms) (N : Nat) (h : Hp) (x0 : Option Nat) (x1 : Int32) (x2 : Option Nat) (hJ : B_J7_copyOf_6403c_0 N h x0 x1 x2 = some (hz, rz)) {H : Heap} {locs : List Loc} {cells slots : Nat} (w : Wo D cs A s h0 h H locs cells slots) {ls : Array Slot} (hl : lv_has ls 4 [(0, va_rf x0), (1, .int x1), (2, va_rf x2)]) : W p l e { frames := 1, cells := mc, slots := ms, locals := 60 } s m args below meth c H locs cells slots (MQ below (Zq D cs A hz rz) args s mc ms A) (F0 m 0 ls []) := by
  obtain ⟨hx, hb, hml, hown, hts, -⟩ := id C
  unfold B_J7_copyOf_6403c_0 at hJ
  refine jv_aload_n hx hb dJ7_copyOf_6403c_0 rfl (lv_at hl 2 rfl) ?_
  refine jr_ldcM C w tw_2_139 dJ7_copyOf_6403c_1 ?_
  refine lv_acmp_ne (rx := x2) (ry := (some h.se.2)) (tgt := 13) hx hb dJ7_copyOf_6403c_3 (by decide) (fun c7 => ?_) (fun c7 => ?_)
  · have hJ := it_neg c7 hJ
    refine jv_aload_n hx hb dJ7_copyOf_6403c_13 rfl (lv_at hl 2 rfl) ?_
    cases hJ
  · have hJ := it_pos c7 hJ
    refine lv_iload_n hx hb dJ7_copyOf_6403c_6 rfl (lv_at hl 1 rfl) ?_
    obtain ⟨hn8, hJ⟩ := ck_some hJ
    refine fa_23 C w hn8 (mb_J7_copyOf_6403c_10 N _ _ _ _ hJ) hz2 tw_2_141 dJ7_copyOf_6403c_7 (fun H w => ?_)
    exact sb_J7_copyOf_6403c_10 C hz2 N _ _ _ _ hJ w (lv_sub (l' := [(0, va_rf x0), (1, .int x1)]) hl [0, 1] rfl)
def J_J7_copyOf_6403c (N : Nat) (h : Hp) (x0 : Option Nat) (x1 : Int32) (x2 : Option Nat) : Option (Hp × Option Nat) := B_J7_copyOf_6403c_0 N h x0 x1 x2
theorem mo_J7_copyOf_6403c (N : Nat) (h : Hp) (x0 : Option Nat) (x1 : Int32) (x2 : Option Nat) (hJ : J_J7_copyOf_6403c N h x0 x1 x2 = some (hz, rz)) : Mo h hz := mb_J7_copyOf_6403c_0 N h x0 x1 x2 hJ
theorem cd_J7_copyOf_6403c : Cd yJ7_copyOf_6403c 3 := ⟨by decide +kernel, by decide +kernel, by decide +kernel⟩
theorem cc_J7_copyOf_6403c (N : Nat) (h : Hp) (x0 : Option Nat) (x1 : Int32) (x2 : Option Nat) (hJ : J_J7_copyOf_6403c N h x0 x1 x2 = some (hz, rz)) : Cq l yJ7_copyOf_6403c cJ7_copyOf_6403c 4 (some (.array (.object "java/lang/Object"))) 1 60 D cs h hz [va_rf x0, .int x1, va_rf x2] rz := by
  intro mc ms g1 g2
  refine je_anyF (by decide) (by simp [lg_sl, rf_cat, cat_i, cat_l, cat_r]) ?_
  intro p e s m args below meth c C hin2 w ls hl
  have hl : lv_has ls 4 [(0, va_rf x0), (1, .int x1), (2, va_rf x2)] := by simpa [lv_args, rf_cat, cat_i, cat_l, cat_r] using hl
  exact sb_J7_copyOf_6403c_0 C ⟨g1, g2⟩ N h x0 x1 x2 hJ w hl
end G_J7_copyOf_6403c
section G_J7_copyOf_1904c
variable {p : Program} {l : Launch} {e : Env} {s : State} {m : MethodId} {args : Array Value} {below : List Frame} {meth : Method} {c : Code} {D : va_G} {cs : C4} {A : Nat → Prop} {h0 hz : Hp} {mc ms : Nat} {rz : Option Nat}
def B_J7_copyOf_1904c_9 (N : Nat) (h : Hp) (y0 : Option Nat) : Option (Hp × Option Nat) := some (h, y0)
theorem mb_J7_copyOf_1904c_9 (N : Nat) (h : Hp) (y0 : Option Nat) (hJ : B_J7_copyOf_1904c_9 N h y0 = some (hz, rz)) : Mo h hz := by
  unfold B_J7_copyOf_1904c_9 at hJ
  obtain ⟨rfl, -⟩ := rs2 hJ
  exact ⟨fun _ _ => rfl, Nat.le_refl _, Nat.le_refl _, rfl, fun _ _ => rfl⟩
set_option maxRecDepth 100000 in
set_option maxHeartbeats 4000000 in
theorem sb_J7_copyOf_1904c_9 (C : Cx p s m args meth c cJ7_copyOf_1904c 2 (some (.array (.object "java/lang/Object"))) RJ7 D cs A h0.se) (hz2 : hz.nx ≤ h0.nx + mc ∧ hz.su ≤ h0.su + ms) (N : Nat) (h : Hp) (y0 : Option Nat) (hJ : B_J7_copyOf_1904c_9 N h y0 = some (hz, rz)) {H : Heap} {locs : List Loc} {cells slots : Nat} (w : Wo D cs A s h0 h H locs cells slots) {ls : Array Slot} (hl : lv_has ls 2 []) : W p l e { frames := 2, cells := mc, slots := ms, locals := 90 } s m args below meth c H locs cells slots (MQ below (Zq D cs A hz rz) args s mc ms A) (F0 m 9 ls [va_rf y0]) := by
  obtain ⟨hx, hb, hml, hown, hts, -⟩ := id C
  unfold B_J7_copyOf_1904c_9 at hJ
  obtain ⟨rfl, rfl⟩ := rs2 hJ
  exact jr_aret (r := y0) C w (Or.inr ⟨_, rfl⟩) hz2 dJ7_copyOf_1904c_9
def B_J7_copyOf_1904c_0 (N : Nat) (h : Hp) (x0 : Option Nat) (x1 : Int32) : Option (Hp × Option Nat) := dr h 23 x0 (fun a1 => (J_J7_copyOf_6403c N h (some a1) x1 (some h.se.2)).bind (fun z => B_J7_copyOf_1904c_9 N z.1 z.2))
theorem mb_J7_copyOf_1904c_0 (N : Nat) (h : Hp) (x0 : Option Nat) (x1 : Int32) (hJ : B_J7_copyOf_1904c_0 N h x0 x1 = some (hz, rz)) : Mo h hz := by
  unfold B_J7_copyOf_1904c_0 at hJ
  obtain ⟨a1, ea1, -, hJ⟩ := dr_some hJ
  obtain ⟨⟨h2, r3⟩, e4, hJ⟩ := ob_some hJ
  exact (mo_J7_copyOf_6403c N h (some a1) x1 (some h.se.2) e4).tr (mb_J7_copyOf_1904c_9 N _ _ hJ)
set_option maxRecDepth 100000 in
set_option maxHeartbeats 4000000 in
theorem sb_J7_copyOf_1904c_0 (C : Cx p s m args meth c cJ7_copyOf_1904c 2 (some (.array (.object "java/lang/Object"))) RJ7 D cs A h0.se) (hz2 : hz.nx ≤ h0.nx + mc ∧ hz.su ≤ h0.su + ms) (N : Nat) (h : Hp) (x0 : Option Nat) (x1 : Int32) (hJ : B_J7_copyOf_1904c_0 N h x0 x1 = some (hz, rz)) {H : Heap} {locs : List Loc} {cells slots : Nat} (w : Wo D cs A s h0 h H locs cells slots) {ls : Array Slot} (hl : lv_has ls 2 [(0, va_rf x0), (1, .int x1)]) : W p l e { frames := 2, cells := mc, slots := ms, locals := 90 } s m args below meth c H locs cells slots (MQ below (Zq D cs A hz rz) args s mc ms A) (F0 m 0 ls []) := by
  obtain ⟨hx, hb, hml, hown, hts, -⟩ := id C
  unfold B_J7_copyOf_1904c_0 at hJ
  refine jv_aload_n hx hb dJ7_copyOf_1904c_0 rfl (lv_at hl 0 rfl) ?_
  refine lv_iload_n hx hb dJ7_copyOf_1904c_1 rfl (lv_at hl 1 rfl) ?_
  refine jv_aload_n hx hb dJ7_copyOf_1904c_2 rfl (lv_at hl 0 rfl) ?_
  obtain ⟨a1, ea1, hka1, hJ⟩ := dr_some hJ
  rw [ea1] at hl
  rw [ea1]
  refine jr_getC C w tw_2_113 hka1 hl.1 (Nat.le_of_ble_eq_true rfl) (by first | exact Nat.le_of_ble_eq_true rfl | (simp [rf_cat, cat_i, cat_l, cat_r]; done) | (simp [rf_cat, cat_i, cat_l, cat_r]; decide)) dJ7_copyOf_1904c_3 ?_
  obtain ⟨⟨h2, r3⟩, e4, hJ⟩ := ob_some hJ
  refine jc_Sq (As := [.ref a1, .int x1, .ref h.se.2]) C w (cc_J7_copyOf_6403c N h (some a1) x1 (some h.se.2) e4) (mo_J7_copyOf_6403c N h (some a1) x1 (some h.se.2) e4) (mb_J7_copyOf_1904c_9 N _ _ hJ) hz2 ⟨tw_2_138, tw_2_136, tw_2_137, tw_1_15⟩ cd_J7_copyOf_6403c ⟨by decide, by decide⟩ hl.1 (by first | exact Nat.le_of_ble_eq_true rfl | simp [rf_cat, cat_i, cat_l, cat_r]) rfl dJ7_copyOf_1904c_6 (fun H locs w1 => ?_)
  have w := w1
  exact sb_J7_copyOf_1904c_9 C hz2 N _ _ hJ w (lv_sub (l' := []) hl [] rfl)
def J_J7_copyOf_1904c (N : Nat) (h : Hp) (x0 : Option Nat) (x1 : Int32) : Option (Hp × Option Nat) := B_J7_copyOf_1904c_0 N h x0 x1
theorem mo_J7_copyOf_1904c (N : Nat) (h : Hp) (x0 : Option Nat) (x1 : Int32) (hJ : J_J7_copyOf_1904c N h x0 x1 = some (hz, rz)) : Mo h hz := mb_J7_copyOf_1904c_0 N h x0 x1 hJ
theorem cd_J7_copyOf_1904c : Cd yJ7_copyOf_1904c 2 := ⟨by decide +kernel, by decide +kernel, by decide +kernel⟩
theorem cc_J7_copyOf_1904c (N : Nat) (h : Hp) (x0 : Option Nat) (x1 : Int32) (hJ : J_J7_copyOf_1904c N h x0 x1 = some (hz, rz)) : Cq l yJ7_copyOf_1904c cJ7_copyOf_1904c 2 (some (.array (.object "java/lang/Object"))) 2 90 D cs h hz [va_rf x0, .int x1] rz := by
  intro mc ms g1 g2
  refine je_anyF (by decide) (by simp [lg_sl, rf_cat, cat_i, cat_l, cat_r]) ?_
  intro p e s m args below meth c C hin2 w ls hl
  have hl : lv_has ls 2 [(0, va_rf x0), (1, .int x1)] := by simpa [lv_args, rf_cat, cat_i, cat_l, cat_r] using hl
  exact sb_J7_copyOf_1904c_0 C ⟨g1, g2⟩ N h x0 x1 hJ w hl
end G_J7_copyOf_1904c
section G_Jx4a65c_grow_92f84
variable {p : Program} {l : Launch} {e : Env} {s : State} {m : MethodId} {args : Array Value} {below : List Frame} {meth : Method} {c : Code} {D : va_G} {cs : C4} {A : Nat → Prop} {h0 hz : Hp} {mc ms : Nat} {rz : Option Nat}
def B_Jx4a65c_grow_92f84_40 (N : Nat) (t0 : Nat) (h : Hp) (y0 : Option Nat) (y1 : Option Nat) : Option (Hp × Option Nat) := dr h 2 y0 (fun a1 => some (h.sfr 201 a1 y1, y1))
theorem mb_Jx4a65c_grow_92f84_40 (N : Nat) (t0 : Nat) (h : Hp) (y0 : Option Nat) (y1 : Option Nat) (hJ : B_Jx4a65c_grow_92f84_40 N t0 h y0 y1 = some (hz, rz)) : Mo h hz := by
  unfold B_Jx4a65c_grow_92f84_40 at hJ
  obtain ⟨a1, ea1, -, hJ⟩ := dr_some hJ
  obtain ⟨rfl, -⟩ := rs2 hJ
  exact ⟨fun _ _ => rfl, Nat.le_refl _, Nat.le_refl _, rfl, fun _ _ => rfl⟩
set_option maxRecDepth 100000 in
set_option maxHeartbeats 4000000 in
theorem sb_Jx4a65c_grow_92f84_40 (C : Cx p s m args meth c cJx4a65c_grow_92f84 4 (some (.array (.object "java/lang/Object"))) RJx4a65c D cs A h0.se) (hz2 : hz.nx ≤ h0.nx + mc ∧ hz.su ≤ h0.su + ms) (N : Nat) (t0 : Nat) (h : Hp) (y0 : Option Nat) (y1 : Option Nat) (hJ : B_Jx4a65c_grow_92f84_40 N t0 h y0 y1 = some (hz, rz)) (hk0 : h.kd t0 = 2) {H : Heap} {locs : List Loc} {cells slots : Nat} (w : Wo D cs A s h0 h H locs cells slots) {ls : Array Slot} (hl : lv_has ls 4 [(0, .ref t0)]) : W p l e { frames := 3, cells := mc, slots := ms, locals := 120 } s m args below meth c H locs cells slots (MQ below (Zq D cs A hz rz) args s mc ms A) (F0 m 40 ls [va_rf y1, va_rf y0]) := by
  obtain ⟨hx, hb, hml, hown, hts, -⟩ := id C
  unfold B_Jx4a65c_grow_92f84_40 at hJ
  refine lv_dup_x1 hx hb dJx4a65c_grow_92f84_40 (rf_cat _) (rf_cat _) ?_
  obtain ⟨a1, ea1, hka1, hJ⟩ := dr_some hJ
  rw [ea1]
  refine fp_201 (x := y1) C w hka1 tw_1_63 dJx4a65c_grow_92f84_41 (fun H locs w => ?_)
  obtain ⟨rfl, rfl⟩ := rs2 hJ
  exact jr_aret (r := y1) C w (Or.inr ⟨_, rfl⟩) hz2 dJx4a65c_grow_92f84_44
def B_Jx4a65c_grow_92f84_30 (N : Nat) (t0 : Nat) (h : Hp) (y0 : Int32) : Option (Hp × Option Nat) := (J_J7_copyOf_1904c N h (h.fr 201 t0) y0).bind (fun z => B_Jx4a65c_grow_92f84_40 N t0 z.1 (some t0) z.2)
theorem mb_Jx4a65c_grow_92f84_30 (N : Nat) (t0 : Nat) (h : Hp) (y0 : Int32) (hJ : B_Jx4a65c_grow_92f84_30 N t0 h y0 = some (hz, rz)) : Mo h hz := by
  unfold B_Jx4a65c_grow_92f84_30 at hJ
  obtain ⟨⟨h2, r3⟩, e4, hJ⟩ := ob_some hJ
  exact (mo_J7_copyOf_1904c N h (h.fr 201 t0) y0 e4).tr (mb_Jx4a65c_grow_92f84_40 N t0 _ _ _ hJ)
set_option maxRecDepth 100000 in
set_option maxHeartbeats 4000000 in
theorem sb_Jx4a65c_grow_92f84_30 (C : Cx p s m args meth c cJx4a65c_grow_92f84 4 (some (.array (.object "java/lang/Object"))) RJx4a65c D cs A h0.se) (hz2 : hz.nx ≤ h0.nx + mc ∧ hz.su ≤ h0.su + ms) (N : Nat) (t0 : Nat) (h : Hp) (y0 : Int32) (hJ : B_Jx4a65c_grow_92f84_30 N t0 h y0 = some (hz, rz)) (hk0 : h.kd t0 = 2) {H : Heap} {locs : List Loc} {cells slots : Nat} (w : Wo D cs A s h0 h H locs cells slots) {ls : Array Slot} (hl : lv_has ls 4 [(0, .ref t0)]) : W p l e { frames := 3, cells := mc, slots := ms, locals := 120 } s m args below meth c H locs cells slots (MQ below (Zq D cs A hz rz) args s mc ms A) (F0 m 30 ls [.int y0]) := by
  obtain ⟨hx, hb, hml, hown, hts, -⟩ := id C
  unfold B_Jx4a65c_grow_92f84_30 at hJ
  refine lv_istore_n (i := 3) (lv' := [(3, .int y0), (0, .ref t0)]) hx hb dJx4a65c_grow_92f84_30 rfl hl (by decide) rfl (fun ls hl => ?_)
  refine lv_aload_n hx hb dJx4a65c_grow_92f84_31 rfl (lv_at hl 1 rfl) ?_
  refine lv_aload_n hx hb dJx4a65c_grow_92f84_32 rfl (lv_at hl 1 rfl) ?_
  refine fg_201 C w hk0 tw_1_63 dJx4a65c_grow_92f84_33 ?_
  refine lv_iload_n hx hb dJx4a65c_grow_92f84_36 rfl (lv_at hl 0 rfl) ?_
  obtain ⟨⟨h2, r3⟩, e4, hJ⟩ := ob_some hJ
  refine jc_Sq (As := [va_rf (h.fr 201 t0), .int y0]) C w (cc_J7_copyOf_1904c N h (h.fr 201 t0) y0 e4) (mo_J7_copyOf_1904c N h (h.fr 201 t0) y0 e4) (mb_Jx4a65c_grow_92f84_40 N t0 _ _ _ hJ) hz2 ⟨tw_2_112, tw_2_110, tw_2_111, tw_1_15⟩ cd_J7_copyOf_1904c ⟨by decide, by decide⟩ hl.1 (by first | exact Nat.le_of_ble_eq_true rfl | simp [rf_cat, cat_i, cat_l, cat_r]) rfl dJx4a65c_grow_92f84_37 (fun H locs w1 => ?_)
  have hk5 := kd_keep w (mo_J7_copyOf_1904c N h (h.fr 201 t0) y0 e4) hk0 (by decide)
  have w := w1
  exact sb_Jx4a65c_grow_92f84_40 C hz2 N t0 _ _ _ hJ hk5 w (lv_sub (l' := [(0, .ref t0)]) hl [1] rfl)
def B_Jx4a65c_grow_92f84_20 (N : Nat) (t0 : Nat) (h : Hp) (x1 : Int32) (x2 : Int32) : Option (Hp × Option Nat) := (J_J8_newLength_cabcc N h x2 (x1 - x2) (x2 >>> ((1 : Int32) &&& 31))).bind (fun z => B_Jx4a65c_grow_92f84_30 N t0 z.1 z.2)
theorem mb_Jx4a65c_grow_92f84_20 (N : Nat) (t0 : Nat) (h : Hp) (x1 : Int32) (x2 : Int32) (hJ : B_Jx4a65c_grow_92f84_20 N t0 h x1 x2 = some (hz, rz)) : Mo h hz := by
  unfold B_Jx4a65c_grow_92f84_20 at hJ
  obtain ⟨⟨h6, r7⟩, e8, hJ⟩ := ob_some hJ
  exact (mo_J8_newLength_cabcc N h x2 (x1 - x2) (x2 >>> ((1 : Int32) &&& 31)) e8).tr (mb_Jx4a65c_grow_92f84_30 N t0 _ _ hJ)
set_option maxRecDepth 100000 in
set_option maxHeartbeats 4000000 in
theorem sb_Jx4a65c_grow_92f84_20 (C : Cx p s m args meth c cJx4a65c_grow_92f84 4 (some (.array (.object "java/lang/Object"))) RJx4a65c D cs A h0.se) (hz2 : hz.nx ≤ h0.nx + mc ∧ hz.su ≤ h0.su + ms) (N : Nat) (t0 : Nat) (h : Hp) (x1 : Int32) (x2 : Int32) (hJ : B_Jx4a65c_grow_92f84_20 N t0 h x1 x2 = some (hz, rz)) (hk0 : h.kd t0 = 2) {H : Heap} {locs : List Loc} {cells slots : Nat} (w : Wo D cs A s h0 h H locs cells slots) {ls : Array Slot} (hl : lv_has ls 4 [(0, .ref t0), (1, .int x1), (2, .int x2)]) : W p l e { frames := 3, cells := mc, slots := ms, locals := 120 } s m args below meth c H locs cells slots (MQ below (Zq D cs A hz rz) args s mc ms A) (F0 m 20 ls []) := by
  obtain ⟨hx, hb, hml, hown, hts, -⟩ := id C
  unfold B_Jx4a65c_grow_92f84_20 at hJ
  refine lv_iload_n hx hb dJx4a65c_grow_92f84_20 rfl (lv_at hl 2 rfl) ?_
  refine lv_iload_n hx hb dJx4a65c_grow_92f84_21 rfl (lv_at hl 1 rfl) ?_
  refine lv_iload_n hx hb dJx4a65c_grow_92f84_22 rfl (lv_at hl 2 rfl) ?_
  refine lv_isub hx hb dJx4a65c_grow_92f84_23 ?_
  refine lv_iload_n hx hb dJx4a65c_grow_92f84_24 rfl (lv_at hl 2 rfl) ?_
  refine lv_iconst (v := (1 : Int32)) hx hb dJx4a65c_grow_92f84_25 (by decide) ?_
  refine lv_ishr hx hb dJx4a65c_grow_92f84_26 ?_
  obtain ⟨⟨h6, r7⟩, e8, hJ⟩ := ob_some hJ
  refine jc_Si (As := [.int x2, .int (x1 - x2), .int (x2 >>> ((1 : Int32) &&& 31))]) C w (cc_J8_newLength_cabcc N h x2 (x1 - x2) (x2 >>> ((1 : Int32) &&& 31)) e8) (mo_J8_newLength_cabcc N h x2 (x1 - x2) (x2 >>> ((1 : Int32) &&& 31)) e8) (mb_Jx4a65c_grow_92f84_30 N t0 _ _ hJ) hz2 ⟨tw_2_102, tw_2_100, tw_2_101, tw_1_13⟩ cd_J8_newLength_cabcc ⟨by decide, by decide⟩ hl.1 (by first | exact Nat.le_of_ble_eq_true rfl | simp [rf_cat, cat_i, cat_l, cat_r]) rfl dJx4a65c_grow_92f84_27 (fun H locs w1 => ?_)
  have hk9 := kd_keep w (mo_J8_newLength_cabcc N h x2 (x1 - x2) (x2 >>> ((1 : Int32) &&& 31)) e8) hk0 (by decide)
  have w := w1
  exact sb_Jx4a65c_grow_92f84_30 C hz2 N t0 _ _ hJ hk9 w (lv_sub (l' := [(0, .ref t0)]) hl [0] rfl)
def B_Jx4a65c_grow_92f84_55 (N : Nat) (t0 : Nat) (h : Hp) (y0 : Option Nat) (y1 : Option Nat) : Option (Hp × Option Nat) := dr h 2 y0 (fun a10 => some (h.sfr 201 a10 y1, y1))
theorem mb_Jx4a65c_grow_92f84_55 (N : Nat) (t0 : Nat) (h : Hp) (y0 : Option Nat) (y1 : Option Nat) (hJ : B_Jx4a65c_grow_92f84_55 N t0 h y0 y1 = some (hz, rz)) : Mo h hz := by
  unfold B_Jx4a65c_grow_92f84_55 at hJ
  obtain ⟨a10, ea10, -, hJ⟩ := dr_some hJ
  obtain ⟨rfl, -⟩ := rs2 hJ
  exact ⟨fun _ _ => rfl, Nat.le_refl _, Nat.le_refl _, rfl, fun _ _ => rfl⟩
set_option maxRecDepth 100000 in
set_option maxHeartbeats 4000000 in
theorem sb_Jx4a65c_grow_92f84_55 (C : Cx p s m args meth c cJx4a65c_grow_92f84 4 (some (.array (.object "java/lang/Object"))) RJx4a65c D cs A h0.se) (hz2 : hz.nx ≤ h0.nx + mc ∧ hz.su ≤ h0.su + ms) (N : Nat) (t0 : Nat) (h : Hp) (y0 : Option Nat) (y1 : Option Nat) (hJ : B_Jx4a65c_grow_92f84_55 N t0 h y0 y1 = some (hz, rz)) (hk0 : h.kd t0 = 2) {H : Heap} {locs : List Loc} {cells slots : Nat} (w : Wo D cs A s h0 h H locs cells slots) {ls : Array Slot} (hl : lv_has ls 4 [(0, .ref t0)]) : W p l e { frames := 3, cells := mc, slots := ms, locals := 120 } s m args below meth c H locs cells slots (MQ below (Zq D cs A hz rz) args s mc ms A) (F0 m 55 ls [va_rf y1, va_rf y0]) := by
  obtain ⟨hx, hb, hml, hown, hts, -⟩ := id C
  unfold B_Jx4a65c_grow_92f84_55 at hJ
  refine lv_dup_x1 hx hb dJx4a65c_grow_92f84_55 (rf_cat _) (rf_cat _) ?_
  obtain ⟨a10, ea10, hka10, hJ⟩ := dr_some hJ
  rw [ea10]
  refine fp_201 (x := y1) C w hka10 tw_1_63 dJx4a65c_grow_92f84_56 (fun H locs w => ?_)
  obtain ⟨rfl, rfl⟩ := rs2 hJ
  exact jr_aret (r := y1) C w (Or.inr ⟨_, rfl⟩) hz2 dJx4a65c_grow_92f84_59
def B_Jx4a65c_grow_92f84_52 (N : Nat) (t0 : Nat) (h : Hp) (y0 : Option Nat) (y1 : Int32) : Option (Hp × Option Nat) := ck (¬ y1 < 0 ∧ y1.toNatClampNeg ≤ 67108864) (B_Jx4a65c_grow_92f84_55 N t0 (h.new 23 y1.toNatClampNeg y1.toNatClampNeg) y0 (some h.nx))
theorem mb_Jx4a65c_grow_92f84_52 (N : Nat) (t0 : Nat) (h : Hp) (y0 : Option Nat) (y1 : Int32) (hJ : B_Jx4a65c_grow_92f84_52 N t0 h y0 y1 = some (hz, rz)) : Mo h hz := by
  unfold B_Jx4a65c_grow_92f84_52 at hJ
  obtain ⟨-, hJ⟩ := ck_some hJ
  exact (Mo.new h _ _ _).tr (mb_Jx4a65c_grow_92f84_55 N t0 _ _ _ hJ)
set_option maxRecDepth 100000 in
set_option maxHeartbeats 4000000 in
theorem sb_Jx4a65c_grow_92f84_52 (C : Cx p s m args meth c cJx4a65c_grow_92f84 4 (some (.array (.object "java/lang/Object"))) RJx4a65c D cs A h0.se) (hz2 : hz.nx ≤ h0.nx + mc ∧ hz.su ≤ h0.su + ms) (N : Nat) (t0 : Nat) (h : Hp) (y0 : Option Nat) (y1 : Int32) (hJ : B_Jx4a65c_grow_92f84_52 N t0 h y0 y1 = some (hz, rz)) (hk0 : h.kd t0 = 2) {H : Heap} {locs : List Loc} {cells slots : Nat} (w : Wo D cs A s h0 h H locs cells slots) {ls : Array Slot} (hl : lv_has ls 4 [(0, .ref t0)]) : W p l e { frames := 3, cells := mc, slots := ms, locals := 120 } s m args below meth c H locs cells slots (MQ below (Zq D cs A hz rz) args s mc ms A) (F0 m 52 ls [.int y1, va_rf y0]) := by
  obtain ⟨hx, hb, hml, hown, hts, -⟩ := id C
  unfold B_Jx4a65c_grow_92f84_52 at hJ
  obtain ⟨hn11, hJ⟩ := ck_some hJ
  have w0 := w
  refine fa_23 C w hn11 (mb_Jx4a65c_grow_92f84_55 N t0 _ _ _ hJ) hz2 tw_2_149 dJx4a65c_grow_92f84_52 (fun H w => ?_)
  have hk12 := kd_new (k := 23) (n := y1.toNatClampNeg) (sl := y1.toNatClampNeg) w0 hk0 (by decide)
  exact sb_Jx4a65c_grow_92f84_55 C hz2 N t0 _ _ _ hJ hk12 w hl
def B_Jx4a65c_grow_92f84_0 (N : Nat) (t0 : Nat) (h : Hp) (x1 : Int32) : Option (Hp × Option Nat) := alO h (h.fr 201 t0) (fun n14 => if 0 < n14 then (B_Jx4a65c_grow_92f84_20 N t0 h x1 n14) else (if (h.fr 201 t0) = (some h.se.1) then (B_Jx4a65c_grow_92f84_52 N t0 h (some t0) (if (10 : Int32) < x1 then x1 else (10 : Int32))) else (B_Jx4a65c_grow_92f84_20 N t0 h x1 n14)))
theorem mb_Jx4a65c_grow_92f84_0 (N : Nat) (t0 : Nat) (h : Hp) (x1 : Int32) (hJ : B_Jx4a65c_grow_92f84_0 N t0 h x1 = some (hz, rz)) : Mo h hz := by
  unfold B_Jx4a65c_grow_92f84_0 at hJ
  obtain ⟨_, n14, _, _, hJ⟩ := alO_some hJ
  by_cases c15 : 0 < n14
  · have hJ := it_pos c15 hJ
    exact mb_Jx4a65c_grow_92f84_20 N t0 _ _ _ hJ
  · have hJ := it_neg c15 hJ
    by_cases c16 : (h.fr 201 t0) = (some h.se.1)
    · have hJ := it_pos c16 hJ
      exact mb_Jx4a65c_grow_92f84_52 N t0 _ _ _ hJ
    · have hJ := it_neg c16 hJ
      exact mb_Jx4a65c_grow_92f84_20 N t0 _ _ _ hJ
set_option maxRecDepth 100000 in
set_option maxHeartbeats 4000000 in
theorem sb_Jx4a65c_grow_92f84_0 (C : Cx p s m args meth c cJx4a65c_grow_92f84 4 (some (.array (.object "java/lang/Object"))) RJx4a65c D cs A h0.se) (hz2 : hz.nx ≤ h0.nx + mc ∧ hz.su ≤ h0.su + ms) (N : Nat) (t0 : Nat) (h : Hp) (x1 : Int32) (hJ : B_Jx4a65c_grow_92f84_0 N t0 h x1 = some (hz, rz)) (hk0 : h.kd t0 = 2) {H : Heap} {locs : List Loc} {cells slots : Nat} (w : Wo D cs A s h0 h H locs cells slots) {ls : Array Slot} (hl : lv_has ls 4 [(0, .ref t0), (1, .int x1)]) : W p l e { frames := 3, cells := mc, slots := ms, locals := 120 } s m args below meth c H locs cells slots (MQ below (Zq D cs A hz rz) args s mc ms A) (F0 m 0 ls []) := by
  obtain ⟨hx, hb, hml, hown, hts, -⟩ := id C
  unfold B_Jx4a65c_grow_92f84_0 at hJ
  refine lv_aload_n hx hb dJx4a65c_grow_92f84_0 rfl (lv_at hl 0 rfl) ?_
  refine fg_201 C w hk0 tw_1_63 dJx4a65c_grow_92f84_1 ?_
  obtain ⟨a13, n14, ea13, hqa13, hJ⟩ := alO_some hJ
  rw [ea13]
  refine jr_alO C w hqa13 dJx4a65c_grow_92f84_4 ?_
  refine lv_istore_n (i := 2) (lv' := [(2, .int n14), (0, .ref t0), (1, .int x1)]) hx hb dJx4a65c_grow_92f84_5 rfl hl (by decide) rfl (fun ls hl => ?_)
  refine lv_iload_n hx hb dJx4a65c_grow_92f84_6 rfl (lv_at hl 0 rfl) ?_
  refine lv_if_gt (tgt := 20) hx hb dJx4a65c_grow_92f84_7 (by decide) (fun c15 => ?_) (fun c15 => ?_)
  · have hJ := it_pos c15 hJ
    exact sb_Jx4a65c_grow_92f84_20 C hz2 N t0 _ _ _ hJ hk0 w (lv_sub (l' := [(0, .ref t0), (1, .int x1), (2, .int n14)]) hl [1, 2, 0] rfl)
  · have hJ := it_neg c15 hJ
    refine lv_aload_n hx hb dJx4a65c_grow_92f84_10 rfl (lv_at hl 1 rfl) ?_
    refine fg_201 C w hk0 tw_1_63 dJx4a65c_grow_92f84_11 ?_
    refine jr_gets C w tw_1_61 dJx4a65c_grow_92f84_14 ?_
    refine lv_acmp_eq (rx := (h.fr 201 t0)) (ry := (some h.se.1)) (tgt := 45) hx hb dJx4a65c_grow_92f84_17 (by decide) (fun c16 => ?_) (fun c16 => ?_)
    · have hJ := it_pos c16 hJ
      refine lv_aload_n hx hb dJx4a65c_grow_92f84_45 rfl (lv_at hl 1 rfl) ?_
      refine lv_bipush (v := (10 : Int32)) hx hb dJx4a65c_grow_92f84_46 (by decide) ?_
      refine lv_iload_n hx hb dJx4a65c_grow_92f84_48 rfl (lv_at hl 2 rfl) ?_
      refine va_mmax hx hb (hml.trans hl.1.symm) hown (hts _ tw_2_148) (hts _ tw_2_104) (hts _ tw_1_14) (hts _ tw_max) (Nat.le_of_ble_eq_true rfl) (by first | exact Nat.le_of_ble_eq_true rfl | simp [rf_cat, cat_i, cat_l, cat_r]) (rm_now w (mb_Jx4a65c_grow_92f84_52 N t0 _ _ _ hJ) hz2).1 (rm_now w (mb_Jx4a65c_grow_92f84_52 N t0 _ _ _ hJ) hz2).2 dJx4a65c_grow_92f84_49 ?_
      exact sb_Jx4a65c_grow_92f84_52 C hz2 N t0 _ _ _ hJ hk0 w (lv_sub (l' := [(0, .ref t0)]) hl [1] rfl)
    · have hJ := it_neg c16 hJ
      exact sb_Jx4a65c_grow_92f84_20 C hz2 N t0 _ _ _ hJ hk0 w (lv_sub (l' := [(0, .ref t0), (1, .int x1), (2, .int n14)]) hl [1, 2, 0] rfl)
def J_Jx4a65c_grow_92f84 (N : Nat) (t0 : Nat) (h : Hp) (x1 : Int32) : Option (Hp × Option Nat) := B_Jx4a65c_grow_92f84_0 N t0 h x1
theorem mo_Jx4a65c_grow_92f84 (N : Nat) (t0 : Nat) (h : Hp) (x1 : Int32) (hJ : J_Jx4a65c_grow_92f84 N t0 h x1 = some (hz, rz)) : Mo h hz := mb_Jx4a65c_grow_92f84_0 N t0 h x1 hJ
theorem cd_Jx4a65c_grow_92f84 : Cd yJx4a65c_grow_92f84 1 := ⟨by decide +kernel, by decide +kernel, by decide +kernel⟩
theorem cc_Jx4a65c_grow_92f84 (N : Nat) (t0 : Nat) (h : Hp) (x1 : Int32) (hk0 : h.kd t0 = 2) (hJ : J_Jx4a65c_grow_92f84 N t0 h x1 = some (hz, rz)) : Cq l yJx4a65c_grow_92f84 cJx4a65c_grow_92f84 4 (some (.array (.object "java/lang/Object"))) 3 120 D cs h hz [.ref t0, .int x1] rz := by
  intro mc ms g1 g2
  refine je_anyF (by decide) (by simp [lg_sl, rf_cat, cat_i, cat_l, cat_r]) ?_
  intro p e s m args below meth c C hin2 w ls hl
  have hl : lv_has ls 4 [(0, .ref t0), (1, .int x1)] := hl
  exact sb_Jx4a65c_grow_92f84_0 C ⟨g1, g2⟩ N t0 h x1 hJ hk0 w hl
end G_Jx4a65c_grow_92f84
section G_Jx4a65c_grow_d5877
variable {p : Program} {l : Launch} {e : Env} {s : State} {m : MethodId} {args : Array Value} {below : List Frame} {meth : Method} {c : Code} {D : va_G} {cs : C4} {A : Nat → Prop} {h0 hz : Hp} {mc ms : Nat} {rz : Option Nat}
def B_Jx4a65c_grow_d5877_10 (N : Nat) (t0 : Nat) (h : Hp) (y0 : Option Nat) : Option (Hp × Option Nat) := some (h, y0)
theorem mb_Jx4a65c_grow_d5877_10 (N : Nat) (t0 : Nat) (h : Hp) (y0 : Option Nat) (hJ : B_Jx4a65c_grow_d5877_10 N t0 h y0 = some (hz, rz)) : Mo h hz := by
  unfold B_Jx4a65c_grow_d5877_10 at hJ
  obtain ⟨rfl, -⟩ := rs2 hJ
  exact ⟨fun _ _ => rfl, Nat.le_refl _, Nat.le_refl _, rfl, fun _ _ => rfl⟩
set_option maxRecDepth 100000 in
set_option maxHeartbeats 4000000 in
theorem sb_Jx4a65c_grow_d5877_10 (C : Cx p s m args meth c cJx4a65c_grow_d5877 1 (some (.array (.object "java/lang/Object"))) RJx4a65c D cs A h0.se) (hz2 : hz.nx ≤ h0.nx + mc ∧ hz.su ≤ h0.su + ms) (N : Nat) (t0 : Nat) (h : Hp) (y0 : Option Nat) (hJ : B_Jx4a65c_grow_d5877_10 N t0 h y0 = some (hz, rz)) (hk0 : h.kd t0 = 2) {H : Heap} {locs : List Loc} {cells slots : Nat} (w : Wo D cs A s h0 h H locs cells slots) {ls : Array Slot} (hl : lv_has ls 1 [(0, .ref t0)]) : W p l e { frames := 4, cells := mc, slots := ms, locals := 150 } s m args below meth c H locs cells slots (MQ below (Zq D cs A hz rz) args s mc ms A) (F0 m 10 ls [va_rf y0]) := by
  obtain ⟨hx, hb, hml, hown, hts, -⟩ := id C
  unfold B_Jx4a65c_grow_d5877_10 at hJ
  obtain ⟨rfl, rfl⟩ := rs2 hJ
  exact jr_aret (r := y0) C w (Or.inr ⟨_, rfl⟩) hz2 dJx4a65c_grow_d5877_10
def B_Jx4a65c_grow_d5877_0 (N : Nat) (t0 : Nat) (h : Hp) : Option (Hp × Option Nat) := (J_Jx4a65c_grow_92f84 N t0 h ((h.fi 202 t0) + (1 : Int32))).bind (fun z => B_Jx4a65c_grow_d5877_10 N t0 z.1 z.2)
theorem mb_Jx4a65c_grow_d5877_0 (N : Nat) (t0 : Nat) (h : Hp) (hJ : B_Jx4a65c_grow_d5877_0 N t0 h = some (hz, rz)) : Mo h hz := by
  unfold B_Jx4a65c_grow_d5877_0 at hJ
  obtain ⟨⟨h1, r2⟩, e3, hJ⟩ := ob_some hJ
  exact (mo_Jx4a65c_grow_92f84 N t0 h ((h.fi 202 t0) + (1 : Int32)) e3).tr (mb_Jx4a65c_grow_d5877_10 N t0 _ _ hJ)
set_option maxRecDepth 100000 in
set_option maxHeartbeats 4000000 in
theorem sb_Jx4a65c_grow_d5877_0 (C : Cx p s m args meth c cJx4a65c_grow_d5877 1 (some (.array (.object "java/lang/Object"))) RJx4a65c D cs A h0.se) (hz2 : hz.nx ≤ h0.nx + mc ∧ hz.su ≤ h0.su + ms) (N : Nat) (t0 : Nat) (h : Hp) (hJ : B_Jx4a65c_grow_d5877_0 N t0 h = some (hz, rz)) (hk0 : h.kd t0 = 2) {H : Heap} {locs : List Loc} {cells slots : Nat} (w : Wo D cs A s h0 h H locs cells slots) {ls : Array Slot} (hl : lv_has ls 1 [(0, .ref t0)]) : W p l e { frames := 4, cells := mc, slots := ms, locals := 150 } s m args below meth c H locs cells slots (MQ below (Zq D cs A hz rz) args s mc ms A) (F0 m 0 ls []) := by
  obtain ⟨hx, hb, hml, hown, hts, -⟩ := id C
  unfold B_Jx4a65c_grow_d5877_0 at hJ
  refine lv_aload_n hx hb dJx4a65c_grow_d5877_0 rfl (lv_at hl 0 rfl) ?_
  refine lv_aload_n hx hb dJx4a65c_grow_d5877_1 rfl (lv_at hl 0 rfl) ?_
  refine fg_202 C w hk0 tw_1_64 dJx4a65c_grow_d5877_2 ?_
  refine lv_iconst (v := (1 : Int32)) hx hb dJx4a65c_grow_d5877_5 (by decide) ?_
  refine lv_iadd hx hb dJx4a65c_grow_d5877_6 ?_
  obtain ⟨⟨h1, r2⟩, e3, hJ⟩ := ob_some hJ
  refine jc_Vq (As := [.int ((h.fi 202 t0) + (1 : Int32))]) C w (cc_Jx4a65c_grow_92f84 N t0 h ((h.fi 202 t0) + (1 : Int32)) hk0 e3) (mo_Jx4a65c_grow_92f84 N t0 h ((h.fi 202 t0) + (1 : Int32)) e3) (mb_Jx4a65c_grow_d5877_10 N t0 _ _ hJ) hz2 hk0 (by decide) rfl (fs := fs2 h t0) rfl rfl ⟨tw_2_99, tw_2_96, tw_2_98, ts_4, tw_1_5⟩ cd_Jx4a65c_grow_92f84 ⟨by decide, by decide⟩ hl.1 (by first | exact Nat.le_of_ble_eq_true rfl | simp [rf_cat, cat_i, cat_l, cat_r]) rfl dJx4a65c_grow_d5877_7 (fun H locs w1 => ?_)
  have hk4 := kd_keep w (mo_Jx4a65c_grow_92f84 N t0 h ((h.fi 202 t0) + (1 : Int32)) e3) hk0 (by decide)
  have w := w1
  exact sb_Jx4a65c_grow_d5877_10 C hz2 N t0 _ _ hJ hk4 w hl
def J_Jx4a65c_grow_d5877 (N : Nat) (t0 : Nat) (h : Hp) : Option (Hp × Option Nat) := B_Jx4a65c_grow_d5877_0 N t0 h
theorem mo_Jx4a65c_grow_d5877 (N : Nat) (t0 : Nat) (h : Hp) (hJ : J_Jx4a65c_grow_d5877 N t0 h = some (hz, rz)) : Mo h hz := mb_Jx4a65c_grow_d5877_0 N t0 h hJ
theorem cd_Jx4a65c_grow_d5877 : Cd yJx4a65c_grow_d5877 0 := ⟨by decide +kernel, by decide +kernel, by decide +kernel⟩
theorem cc_Jx4a65c_grow_d5877 (N : Nat) (t0 : Nat) (h : Hp) (hk0 : h.kd t0 = 2) (hJ : J_Jx4a65c_grow_d5877 N t0 h = some (hz, rz)) : Cq l yJx4a65c_grow_d5877 cJx4a65c_grow_d5877 1 (some (.array (.object "java/lang/Object"))) 4 150 D cs h hz [.ref t0] rz := by
  intro mc ms g1 g2
  refine je_anyF (by decide) (by simp [lg_sl, rf_cat, cat_i, cat_l, cat_r]) ?_
  intro p e s m args below meth c C hin2 w ls hl
  have hl : lv_has ls 1 [(0, .ref t0)] := hl
  exact sb_Jx4a65c_grow_d5877_0 C ⟨g1, g2⟩ N t0 h hJ hk0 w hl
end G_Jx4a65c_grow_d5877
section G_Jx4a65c_add_72be8
variable {p : Program} {l : Launch} {e : Env} {s : State} {m : MethodId} {args : Array Value} {below : List Frame} {meth : Method} {c : Code} {D : va_G} {cs : C4} {A : Nat → Prop} {h0 hz : Hp} {mc ms : Nat}
def B_Jx4a65c_add_72be8_11 (N : Nat) (t0 : Nat) (h : Hp) (x1 : Option Nat) (x2 : Option Nat) (x3 : Int32) : Option (Hp × Unit) := dr h 23 x2 (fun a1 => ck (¬ (x3 < 0 ∨ h.al a1 ≤ x3.toNatClampNeg)) (ck (okV h x1 = true) (some ((h.sar a1 x3.toNatClampNeg x1).sfi 202 t0 (x3 + (1 : Int32)), ()))))
theorem mb_Jx4a65c_add_72be8_11 (N : Nat) (t0 : Nat) (h : Hp) (x1 : Option Nat) (x2 : Option Nat) (x3 : Int32) (hJ : B_Jx4a65c_add_72be8_11 N t0 h x1 x2 x3 = some (hz, ())) : Mo h hz := by
  unfold B_Jx4a65c_add_72be8_11 at hJ
  obtain ⟨a1, ea1, -, hJ⟩ := dr_some hJ
  obtain ⟨-, hJ⟩ := ck_some hJ
  obtain ⟨-, hJ⟩ := ck_some hJ
  obtain ⟨rfl, -⟩ := rs2 hJ
  exact ⟨fun _ _ => rfl, Nat.le_refl _, Nat.le_refl _, rfl, fun _ _ => rfl⟩
set_option maxRecDepth 100000 in
set_option maxHeartbeats 4000000 in
theorem sb_Jx4a65c_add_72be8_11 (C : Cx p s m args meth c cJx4a65c_add_72be8 4 none RJx4a65c D cs A h0.se) (hz2 : hz.nx ≤ h0.nx + mc ∧ hz.su ≤ h0.su + ms) (N : Nat) (t0 : Nat) (h : Hp) (x1 : Option Nat) (x2 : Option Nat) (x3 : Int32) (hJ : B_Jx4a65c_add_72be8_11 N t0 h x1 x2 x3 = some (hz, ())) (hk0 : h.kd t0 = 2) {H : Heap} {locs : List Loc} {cells slots : Nat} (w : Wo D cs A s h0 h H locs cells slots) {ls : Array Slot} (hl : lv_has ls 4 [(0, .ref t0), (1, va_rf x1), (2, va_rf x2), (3, .int x3)]) : W p l e { frames := 5, cells := mc, slots := ms, locals := 170 } s m args below meth c H locs cells slots (MQ below (Zv D cs A hz) args s mc ms A) (F0 m 11 ls []) := by
  obtain ⟨hx, hb, hml, hown, hts, -⟩ := id C
  unfold B_Jx4a65c_add_72be8_11 at hJ
  refine jv_aload_n hx hb dJx4a65c_add_72be8_11 rfl (lv_at hl 2 rfl) ?_
  refine lv_iload_n hx hb dJx4a65c_add_72be8_12 rfl (lv_at hl 3 rfl) ?_
  refine jv_aload_n hx hb dJx4a65c_add_72be8_13 rfl (lv_at hl 1 rfl) ?_
  obtain ⟨a1, ea1, hka1, hJ⟩ := dr_some hJ
  rw [ea1] at hl
  rw [ea1]
  obtain ⟨hi2, hJ⟩ := ck_some hJ
  obtain ⟨hv3, hJ⟩ := ck_some hJ
  refine jr_aastV (x := x1) C w hka1 hi2 hv3 dJx4a65c_add_72be8_14 (fun H locs w => ?_)
  refine lv_aload_n hx hb dJx4a65c_add_72be8_15 rfl (lv_at hl 0 rfl) ?_
  refine lv_iload_n hx hb dJx4a65c_add_72be8_16 rfl (lv_at hl 3 rfl) ?_
  refine lv_iconst (v := (1 : Int32)) hx hb dJx4a65c_add_72be8_17 (by decide) ?_
  refine lv_iadd hx hb dJx4a65c_add_72be8_18 ?_
  refine fp_202 (x := x3 + (1 : Int32)) C w hk0 tw_1_64 dJx4a65c_add_72be8_19 (fun H locs w => ?_)
  obtain ⟨rfl, -⟩ := rs2 hJ
  exact jr_vret C w hz2 dJx4a65c_add_72be8_22
def B_Jx4a65c_add_72be8_10 (N : Nat) (t0 : Nat) (h : Hp) (x1 : Option Nat) (x3 : Int32) (y0 : Option Nat) : Option (Hp × Unit) := B_Jx4a65c_add_72be8_11 N t0 h x1 y0 x3
theorem mb_Jx4a65c_add_72be8_10 (N : Nat) (t0 : Nat) (h : Hp) (x1 : Option Nat) (x3 : Int32) (y0 : Option Nat) (hJ : B_Jx4a65c_add_72be8_10 N t0 h x1 x3 y0 = some (hz, ())) : Mo h hz := by
  unfold B_Jx4a65c_add_72be8_10 at hJ
  exact mb_Jx4a65c_add_72be8_11 N t0 _ _ _ _ hJ
set_option maxRecDepth 100000 in
set_option maxHeartbeats 4000000 in
theorem sb_Jx4a65c_add_72be8_10 (C : Cx p s m args meth c cJx4a65c_add_72be8 4 none RJx4a65c D cs A h0.se) (hz2 : hz.nx ≤ h0.nx + mc ∧ hz.su ≤ h0.su + ms) (N : Nat) (t0 : Nat) (h : Hp) (x1 : Option Nat) (x3 : Int32) (y0 : Option Nat) (hJ : B_Jx4a65c_add_72be8_10 N t0 h x1 x3 y0 = some (hz, ())) (hk0 : h.kd t0 = 2) {H : Heap} {locs : List Loc} {cells slots : Nat} (w : Wo D cs A s h0 h H locs cells slots) {ls : Array Slot} (hl : lv_has ls 4 [(0, .ref t0), (1, va_rf x1), (3, .int x3)]) : W p l e { frames := 5, cells := mc, slots := ms, locals := 170 } s m args below meth c H locs cells slots (MQ below (Zv D cs A hz) args s mc ms A) (F0 m 10 ls [va_rf y0]) := by
  obtain ⟨hx, hb, hml, hown, hts, -⟩ := id C
  unfold B_Jx4a65c_add_72be8_10 at hJ
  refine jv_astore_n (i := 2) (lv' := [(2, va_rf y0), (0, .ref t0), (1, va_rf x1), (3, .int x3)]) hx hb dJx4a65c_add_72be8_10 rfl hl (by decide) (by simp [List.filter, rf_cat, cat_i, cat_l, cat_r]) (fun ls hl => ?_)
  exact sb_Jx4a65c_add_72be8_11 C hz2 N t0 _ _ _ _ hJ hk0 w (lv_sub (l' := [(0, .ref t0), (1, va_rf x1), (2, va_rf y0), (3, .int x3)]) hl [1, 2, 0, 3] rfl)
def B_Jx4a65c_add_72be8_0 (N : Nat) (t0 : Nat) (h : Hp) (x1 : Option Nat) (x2 : Option Nat) (x3 : Int32) : Option (Hp × Unit) := alO h x2 (fun n5 => if x3 = n5 then ((J_Jx4a65c_grow_d5877 N t0 h).bind (fun z => B_Jx4a65c_add_72be8_10 N t0 z.1 x1 x3 z.2)) else (B_Jx4a65c_add_72be8_11 N t0 h x1 x2 x3))
theorem mb_Jx4a65c_add_72be8_0 (N : Nat) (t0 : Nat) (h : Hp) (x1 : Option Nat) (x2 : Option Nat) (x3 : Int32) (hJ : B_Jx4a65c_add_72be8_0 N t0 h x1 x2 x3 = some (hz, ())) : Mo h hz := by
  unfold B_Jx4a65c_add_72be8_0 at hJ
  obtain ⟨_, n5, _, _, hJ⟩ := alO_some hJ
  by_cases c6 : x3 = n5
  · have hJ := it_pos c6 hJ
    obtain ⟨⟨h7, r8⟩, e9, hJ⟩ := ob_some hJ
    exact (mo_Jx4a65c_grow_d5877 N t0 h e9).tr (mb_Jx4a65c_add_72be8_10 N t0 _ _ _ _ hJ)
  · have hJ := it_neg c6 hJ
    exact mb_Jx4a65c_add_72be8_11 N t0 _ _ _ _ hJ
set_option maxRecDepth 100000 in
set_option maxHeartbeats 4000000 in
theorem sb_Jx4a65c_add_72be8_0 (C : Cx p s m args meth c cJx4a65c_add_72be8 4 none RJx4a65c D cs A h0.se) (hz2 : hz.nx ≤ h0.nx + mc ∧ hz.su ≤ h0.su + ms) (N : Nat) (t0 : Nat) (h : Hp) (x1 : Option Nat) (x2 : Option Nat) (x3 : Int32) (hJ : B_Jx4a65c_add_72be8_0 N t0 h x1 x2 x3 = some (hz, ())) (hk0 : h.kd t0 = 2) {H : Heap} {locs : List Loc} {cells slots : Nat} (w : Wo D cs A s h0 h H locs cells slots) {ls : Array Slot} (hl : lv_has ls 4 [(0, .ref t0), (1, va_rf x1), (2, va_rf x2), (3, .int x3)]) : W p l e { frames := 5, cells := mc, slots := ms, locals := 170 } s m args below meth c H locs cells slots (MQ below (Zv D cs A hz) args s mc ms A) (F0 m 0 ls []) := by
  obtain ⟨hx, hb, hml, hown, hts, -⟩ := id C
  unfold B_Jx4a65c_add_72be8_0 at hJ
  refine lv_iload_n hx hb dJx4a65c_add_72be8_0 rfl (lv_at hl 3 rfl) ?_
  refine jv_aload_n hx hb dJx4a65c_add_72be8_1 rfl (lv_at hl 2 rfl) ?_
  obtain ⟨a4, n5, ea4, hqa4, hJ⟩ := alO_some hJ
  rw [ea4]
  refine jr_alO C w hqa4 dJx4a65c_add_72be8_2 ?_
  try rw [← ea4]
  refine lv_icmp_ne (tgt := 11) hx hb dJx4a65c_add_72be8_3 (by decide) (fun c6 => ?_) (fun c6 => ?_)
  · have hJ := it_neg c6 hJ
    exact sb_Jx4a65c_add_72be8_11 C hz2 N t0 _ _ _ _ hJ hk0 w hl
  · have hJ := it_pos c6 hJ
    refine lv_aload_n hx hb dJx4a65c_add_72be8_6 rfl (lv_at hl 0 rfl) ?_
    obtain ⟨⟨h7, r8⟩, e9, hJ⟩ := ob_some hJ
    refine jc_Vq (As := []) C w (cc_Jx4a65c_grow_d5877 N t0 h hk0 e9) (mo_Jx4a65c_grow_d5877 N t0 h e9) (mb_Jx4a65c_add_72be8_10 N t0 _ _ _ _ hJ) hz2 hk0 (by decide) rfl (fs := fs2 h t0) rfl rfl ⟨tw_2_95, tw_2_92, tw_2_94, ts_3, tw_1_5⟩ cd_Jx4a65c_grow_d5877 ⟨by decide, by decide⟩ hl.1 (by first | exact Nat.le_of_ble_eq_true rfl | simp [rf_cat, cat_i, cat_l, cat_r]) rfl dJx4a65c_add_72be8_7 (fun H locs w1 => ?_)
    have hk10 := kd_keep w (mo_Jx4a65c_grow_d5877 N t0 h e9) hk0 (by decide)
    have w := w1
    exact sb_Jx4a65c_add_72be8_10 C hz2 N t0 _ _ _ _ hJ hk10 w (lv_sub (l' := [(0, .ref t0), (1, va_rf x1), (3, .int x3)]) hl [0, 1, 3] rfl)
def J_Jx4a65c_add_72be8 (N : Nat) (t0 : Nat) (h : Hp) (x1 : Option Nat) (x2 : Option Nat) (x3 : Int32) : Option (Hp × Unit) := B_Jx4a65c_add_72be8_0 N t0 h x1 x2 x3
theorem mo_Jx4a65c_add_72be8 (N : Nat) (t0 : Nat) (h : Hp) (x1 : Option Nat) (x2 : Option Nat) (x3 : Int32) (hJ : J_Jx4a65c_add_72be8 N t0 h x1 x2 x3 = some (hz, ())) : Mo h hz := mb_Jx4a65c_add_72be8_0 N t0 h x1 x2 x3 hJ
theorem cd_Jx4a65c_add_72be8 : Cd yJx4a65c_add_72be8 3 := ⟨by decide +kernel, by decide +kernel, by decide +kernel⟩
theorem cc_Jx4a65c_add_72be8 (N : Nat) (t0 : Nat) (h : Hp) (x1 : Option Nat) (x2 : Option Nat) (x3 : Int32) (hk0 : h.kd t0 = 2) (hJ : J_Jx4a65c_add_72be8 N t0 h x1 x2 x3 = some (hz, ())) : Cv l yJx4a65c_add_72be8 cJx4a65c_add_72be8 4 none 5 170 D cs h hz [.ref t0, va_rf x1, va_rf x2, .int x3] := by
  intro mc ms g1 g2
  refine je_anyF (by decide) (by simp [lg_sl, rf_cat, cat_i, cat_l, cat_r]) ?_
  intro p e s m args below meth c C hin2 w ls hl
  have hl : lv_has ls 4 [(0, .ref t0), (1, va_rf x1), (2, va_rf x2), (3, .int x3)] := by simpa [lv_args, rf_cat, cat_i, cat_l, cat_r] using hl
  exact sb_Jx4a65c_add_72be8_0 C ⟨g1, g2⟩ N t0 h x1 x2 x3 hJ hk0 w hl
end G_Jx4a65c_add_72be8
section G_Jx4a65c_add_9ea2d
variable {p : Program} {l : Launch} {e : Env} {s : State} {m : MethodId} {args : Array Value} {below : List Frame} {meth : Method} {c : Code} {D : va_G} {cs : C4} {A : Nat → Prop} {h0 hz : Hp} {mc ms : Nat} {rz : Int32}
def B_Jx4a65c_add_9ea2d_23 (N : Nat) (t0 : Nat) (h : Hp) : Option (Hp × Int32) := some (h, (1 : Int32))
theorem mb_Jx4a65c_add_9ea2d_23 (N : Nat) (t0 : Nat) (h : Hp) (hJ : B_Jx4a65c_add_9ea2d_23 N t0 h = some (hz, rz)) : Mo h hz := by
  unfold B_Jx4a65c_add_9ea2d_23 at hJ
  obtain ⟨rfl, -⟩ := rs2 hJ
  exact ⟨fun _ _ => rfl, Nat.le_refl _, Nat.le_refl _, rfl, fun _ _ => rfl⟩
set_option maxRecDepth 100000 in
set_option maxHeartbeats 4000000 in
theorem sb_Jx4a65c_add_9ea2d_23 (C : Cx p s m args meth c cJx4a65c_add_9ea2d 2 (some .boolean) RJx4a65c D cs A h0.se) (hz2 : hz.nx ≤ h0.nx + mc ∧ hz.su ≤ h0.su + ms) (N : Nat) (t0 : Nat) (h : Hp) (hJ : B_Jx4a65c_add_9ea2d_23 N t0 h = some (hz, rz)) (hk0 : h.kd t0 = 2) {H : Heap} {locs : List Loc} {cells slots : Nat} (w : Wo D cs A s h0 h H locs cells slots) {ls : Array Slot} (hl : lv_has ls 2 [(0, .ref t0)]) : W p l e { frames := 6, cells := mc, slots := ms, locals := 200 } s m args below meth c H locs cells slots (MQ below (Zi D cs A hz rz) args s mc ms A) (F0 m 23 ls []) := by
  obtain ⟨hx, hb, hml, hown, hts, -⟩ := id C
  unfold B_Jx4a65c_add_9ea2d_23 at hJ
  refine lv_iconst (v := (1 : Int32)) hx hb dJx4a65c_add_9ea2d_23 (by decide) ?_
  obtain ⟨rfl, rfl⟩ := rs2 hJ
  exact jr_zret C w (Or.inr rfl) hz2 dJx4a65c_add_9ea2d_24
def B_Jx4a65c_add_9ea2d_0 (N : Nat) (t0 : Nat) (h : Hp) (x1 : Option Nat) : Option (Hp × Int32) := (J_Jx4a65c_add_72be8 N t0 (h.sfi 200 t0 ((h.fi 200 t0) + (1 : Int32))) x1 ((h.sfi 200 t0 ((h.fi 200 t0) + (1 : Int32))).fr 201 t0) ((h.sfi 200 t0 ((h.fi 200 t0) + (1 : Int32))).fi 202 t0)).bind (fun z => B_Jx4a65c_add_9ea2d_23 N t0 z.1)
theorem mb_Jx4a65c_add_9ea2d_0 (N : Nat) (t0 : Nat) (h : Hp) (x1 : Option Nat) (hJ : B_Jx4a65c_add_9ea2d_0 N t0 h x1 = some (hz, rz)) : Mo h hz := by
  unfold B_Jx4a65c_add_9ea2d_0 at hJ
  obtain ⟨⟨h1, r2⟩, e3, hJ⟩ := ob_some hJ
  exact (Mo.tr (show Mo h (h.sfi 200 t0 ((h.fi 200 t0) + (1 : Int32))) from ⟨fun _ _ => rfl, Nat.le_refl _, Nat.le_refl _, rfl, fun _ _ => rfl⟩) ((mo_Jx4a65c_add_72be8 N t0 (h.sfi 200 t0 ((h.fi 200 t0) + (1 : Int32))) x1 ((h.sfi 200 t0 ((h.fi 200 t0) + (1 : Int32))).fr 201 t0) ((h.sfi 200 t0 ((h.fi 200 t0) + (1 : Int32))).fi 202 t0) e3).tr (mb_Jx4a65c_add_9ea2d_23 N t0 _ hJ)))
set_option maxRecDepth 100000 in
set_option maxHeartbeats 4000000 in
theorem sb_Jx4a65c_add_9ea2d_0 (C : Cx p s m args meth c cJx4a65c_add_9ea2d 2 (some .boolean) RJx4a65c D cs A h0.se) (hz2 : hz.nx ≤ h0.nx + mc ∧ hz.su ≤ h0.su + ms) (N : Nat) (t0 : Nat) (h : Hp) (x1 : Option Nat) (hJ : B_Jx4a65c_add_9ea2d_0 N t0 h x1 = some (hz, rz)) (hk0 : h.kd t0 = 2) {H : Heap} {locs : List Loc} {cells slots : Nat} (w : Wo D cs A s h0 h H locs cells slots) {ls : Array Slot} (hl : lv_has ls 2 [(0, .ref t0), (1, va_rf x1)]) : W p l e { frames := 6, cells := mc, slots := ms, locals := 200 } s m args below meth c H locs cells slots (MQ below (Zi D cs A hz rz) args s mc ms A) (F0 m 0 ls []) := by
  obtain ⟨hx, hb, hml, hown, hts, -⟩ := id C
  unfold B_Jx4a65c_add_9ea2d_0 at hJ
  refine lv_aload_n hx hb dJx4a65c_add_9ea2d_0 rfl (lv_at hl 0 rfl) ?_
  refine lv_dup hx hb dJx4a65c_add_9ea2d_1 rfl ?_
  refine fg_200A C w hk0 tw_1_66 dJx4a65c_add_9ea2d_2 ?_
  refine lv_iconst (v := (1 : Int32)) hx hb dJx4a65c_add_9ea2d_5 (by decide) ?_
  refine lv_iadd hx hb dJx4a65c_add_9ea2d_6 ?_
  refine fp_200A (x := (h.fi 200 t0) + (1 : Int32)) C w hk0 tw_1_66 dJx4a65c_add_9ea2d_7 (fun H locs w => ?_)
  refine lv_aload_n hx hb dJx4a65c_add_9ea2d_10 rfl (lv_at hl 0 rfl) ?_
  refine jv_aload_n hx hb dJx4a65c_add_9ea2d_11 rfl (lv_at hl 1 rfl) ?_
  refine lv_aload_n hx hb dJx4a65c_add_9ea2d_12 rfl (lv_at hl 0 rfl) ?_
  refine fg_201 C w hk0 tw_1_63 dJx4a65c_add_9ea2d_13 ?_
  refine lv_aload_n hx hb dJx4a65c_add_9ea2d_16 rfl (lv_at hl 0 rfl) ?_
  refine fg_202 C w hk0 tw_1_64 dJx4a65c_add_9ea2d_17 ?_
  obtain ⟨⟨h1, r2⟩, e3, hJ⟩ := ob_some hJ
  refine jc_Vv (As := [va_rf x1, va_rf ((h.sfi 200 t0 ((h.fi 200 t0) + (1 : Int32))).fr 201 t0), .int ((h.sfi 200 t0 ((h.fi 200 t0) + (1 : Int32))).fi 202 t0)]) C w (cc_Jx4a65c_add_72be8 N t0 (h.sfi 200 t0 ((h.fi 200 t0) + (1 : Int32))) x1 ((h.sfi 200 t0 ((h.fi 200 t0) + (1 : Int32))).fr 201 t0) ((h.sfi 200 t0 ((h.fi 200 t0) + (1 : Int32))).fi 202 t0) hk0 e3) (mo_Jx4a65c_add_72be8 N t0 (h.sfi 200 t0 ((h.fi 200 t0) + (1 : Int32))) x1 ((h.sfi 200 t0 ((h.fi 200 t0) + (1 : Int32))).fr 201 t0) ((h.sfi 200 t0 ((h.fi 200 t0) + (1 : Int32))).fi 202 t0) e3) (mb_Jx4a65c_add_9ea2d_23 N t0 _ hJ) hz2 hk0 (by decide) rfl (fs := fs2 (h.sfi 200 t0 ((h.fi 200 t0) + (1 : Int32))) t0) rfl rfl ⟨tw_2_91, tw_2_88, tw_2_90, ts_2, tw_1_5⟩ cd_Jx4a65c_add_72be8 ⟨by decide, by decide⟩ hl.1 (by first | exact Nat.le_of_ble_eq_true rfl | simp [rf_cat, cat_i, cat_l, cat_r]) rfl dJx4a65c_add_9ea2d_20 (fun H locs w1 => ?_)
  have hk4 := kd_keep w (mo_Jx4a65c_add_72be8 N t0 (h.sfi 200 t0 ((h.fi 200 t0) + (1 : Int32))) x1 ((h.sfi 200 t0 ((h.fi 200 t0) + (1 : Int32))).fr 201 t0) ((h.sfi 200 t0 ((h.fi 200 t0) + (1 : Int32))).fi 202 t0) e3) hk0 (by decide)
  have w := w1
  exact sb_Jx4a65c_add_9ea2d_23 C hz2 N t0 _ hJ hk4 w (lv_sub (l' := [(0, .ref t0)]) hl [0] rfl)
def J_Jx4a65c_add_9ea2d (N : Nat) (t0 : Nat) (h : Hp) (x1 : Option Nat) : Option (Hp × Int32) := B_Jx4a65c_add_9ea2d_0 N t0 h x1
theorem mo_Jx4a65c_add_9ea2d (N : Nat) (t0 : Nat) (h : Hp) (x1 : Option Nat) (hJ : J_Jx4a65c_add_9ea2d N t0 h x1 = some (hz, rz)) : Mo h hz := mb_Jx4a65c_add_9ea2d_0 N t0 h x1 hJ
theorem cd_Jx4a65c_add_9ea2d : Cd yJx4a65c_add_9ea2d 1 := ⟨by decide +kernel, by decide +kernel, by decide +kernel⟩
theorem cc_Jx4a65c_add_9ea2d (N : Nat) (t0 : Nat) (h : Hp) (x1 : Option Nat) (hk0 : h.kd t0 = 2) (hJ : J_Jx4a65c_add_9ea2d N t0 h x1 = some (hz, rz)) : Ci l yJx4a65c_add_9ea2d cJx4a65c_add_9ea2d 2 (some .boolean) 6 200 D cs h hz [.ref t0, va_rf x1] rz := by
  intro mc ms g1 g2
  refine je_anyF (by decide) (by simp [lg_sl, rf_cat, cat_i, cat_l, cat_r]) ?_
  intro p e s m args below meth c C hin2 w ls hl
  have hl : lv_has ls 2 [(0, .ref t0), (1, va_rf x1)] := by simpa [lv_args, rf_cat, cat_i, cat_l, cat_r] using hl
  exact sb_Jx4a65c_add_9ea2d_0 C ⟨g1, g2⟩ N t0 h x1 hJ hk0 w hl
end G_Jx4a65c_add_9ea2d
section G_Jx4a65c_rangeCheckForAdd_d00df
variable {p : Program} {l : Launch} {e : Env} {s : State} {m : MethodId} {args : Array Value} {below : List Frame} {meth : Method} {c : Code} {D : va_G} {cs : C4} {A : Nat → Prop} {h0 hz : Hp} {mc ms : Nat}
def B_Jx4a65c_rangeCheckForAdd_d00df_12 (N : Nat) (t0 : Nat) (h : Hp) : Option (Hp × Unit) := none
theorem mb_Jx4a65c_rangeCheckForAdd_d00df_12 (N : Nat) (t0 : Nat) (h : Hp) (hJ : B_Jx4a65c_rangeCheckForAdd_d00df_12 N t0 h = some (hz, ())) : Mo h hz := by
  unfold B_Jx4a65c_rangeCheckForAdd_d00df_12 at hJ
  cases hJ
set_option maxRecDepth 100000 in
set_option maxHeartbeats 4000000 in
theorem sb_Jx4a65c_rangeCheckForAdd_d00df_12 (C : Cx p s m args meth c cJx4a65c_rangeCheckForAdd_d00df 2 none RJx4a65c D cs A h0.se) (hz2 : hz.nx ≤ h0.nx + mc ∧ hz.su ≤ h0.su + ms) (N : Nat) (t0 : Nat) (h : Hp) (hJ : B_Jx4a65c_rangeCheckForAdd_d00df_12 N t0 h = some (hz, ())) (hk0 : h.kd t0 = 2) {H : Heap} {locs : List Loc} {cells slots : Nat} (w : Wo D cs A s h0 h H locs cells slots) {ls : Array Slot} (hl : lv_has ls 2 [(0, .ref t0)]) : W p l e { frames := 0, cells := mc, slots := ms, locals := 0 } s m args below meth c H locs cells slots (MQ below (Zv D cs A hz) args s mc ms A) (F0 m 12 ls []) := by
  obtain ⟨hx, hb, hml, hown, hts, -⟩ := id C
  unfold B_Jx4a65c_rangeCheckForAdd_d00df_12 at hJ
  cases hJ
def B_Jx4a65c_rangeCheckForAdd_d00df_0 (N : Nat) (t0 : Nat) (h : Hp) (x1 : Int32) : Option (Hp × Unit) := if (h.fi 202 t0) < x1 then (B_Jx4a65c_rangeCheckForAdd_d00df_12 N t0 h) else (if 0 ≤ x1 then (some (h, ())) else (B_Jx4a65c_rangeCheckForAdd_d00df_12 N t0 h))
theorem mb_Jx4a65c_rangeCheckForAdd_d00df_0 (N : Nat) (t0 : Nat) (h : Hp) (x1 : Int32) (hJ : B_Jx4a65c_rangeCheckForAdd_d00df_0 N t0 h x1 = some (hz, ())) : Mo h hz := by
  unfold B_Jx4a65c_rangeCheckForAdd_d00df_0 at hJ
  by_cases c1 : (h.fi 202 t0) < x1
  · have hJ := it_pos c1 hJ
    exact mb_Jx4a65c_rangeCheckForAdd_d00df_12 N t0 _ hJ
  · have hJ := it_neg c1 hJ
    by_cases c2 : 0 ≤ x1
    · have hJ := it_pos c2 hJ
      obtain ⟨rfl, -⟩ := rs2 hJ
      exact ⟨fun _ _ => rfl, Nat.le_refl _, Nat.le_refl _, rfl, fun _ _ => rfl⟩
    · have hJ := it_neg c2 hJ
      exact mb_Jx4a65c_rangeCheckForAdd_d00df_12 N t0 _ hJ
set_option maxRecDepth 100000 in
set_option maxHeartbeats 4000000 in
theorem sb_Jx4a65c_rangeCheckForAdd_d00df_0 (C : Cx p s m args meth c cJx4a65c_rangeCheckForAdd_d00df 2 none RJx4a65c D cs A h0.se) (hz2 : hz.nx ≤ h0.nx + mc ∧ hz.su ≤ h0.su + ms) (N : Nat) (t0 : Nat) (h : Hp) (x1 : Int32) (hJ : B_Jx4a65c_rangeCheckForAdd_d00df_0 N t0 h x1 = some (hz, ())) (hk0 : h.kd t0 = 2) {H : Heap} {locs : List Loc} {cells slots : Nat} (w : Wo D cs A s h0 h H locs cells slots) {ls : Array Slot} (hl : lv_has ls 2 [(0, .ref t0), (1, .int x1)]) : W p l e { frames := 0, cells := mc, slots := ms, locals := 0 } s m args below meth c H locs cells slots (MQ below (Zv D cs A hz) args s mc ms A) (F0 m 0 ls []) := by
  obtain ⟨hx, hb, hml, hown, hts, -⟩ := id C
  unfold B_Jx4a65c_rangeCheckForAdd_d00df_0 at hJ
  refine lv_iload_n hx hb dJx4a65c_rangeCheckForAdd_d00df_0 rfl (lv_at hl 1 rfl) ?_
  refine lv_aload_n hx hb dJx4a65c_rangeCheckForAdd_d00df_1 rfl (lv_at hl 0 rfl) ?_
  refine fg_202 C w hk0 tw_1_64 dJx4a65c_rangeCheckForAdd_d00df_2 ?_
  refine lv_icmp_gt (tgt := 12) hx hb dJx4a65c_rangeCheckForAdd_d00df_5 (by decide) (fun c1 => ?_) (fun c1 => ?_)
  · have hJ := it_pos c1 hJ
    exact sb_Jx4a65c_rangeCheckForAdd_d00df_12 C hz2 N t0 _ hJ hk0 w (lv_sub (l' := [(0, .ref t0)]) hl [0] rfl)
  · have hJ := it_neg c1 hJ
    refine lv_iload_n hx hb dJx4a65c_rangeCheckForAdd_d00df_8 rfl (lv_at hl 1 rfl) ?_
    refine lv_if_ge (tgt := 25) hx hb dJx4a65c_rangeCheckForAdd_d00df_9 (by decide) (fun c2 => ?_) (fun c2 => ?_)
    · have hJ := it_pos c2 hJ
      obtain ⟨rfl, -⟩ := rs2 hJ
      exact jr_vret C w hz2 dJx4a65c_rangeCheckForAdd_d00df_25
    · have hJ := it_neg c2 hJ
      exact sb_Jx4a65c_rangeCheckForAdd_d00df_12 C hz2 N t0 _ hJ hk0 w (lv_sub (l' := [(0, .ref t0)]) hl [0] rfl)
def J_Jx4a65c_rangeCheckForAdd_d00df (N : Nat) (t0 : Nat) (h : Hp) (x1 : Int32) : Option (Hp × Unit) := B_Jx4a65c_rangeCheckForAdd_d00df_0 N t0 h x1
theorem mo_Jx4a65c_rangeCheckForAdd_d00df (N : Nat) (t0 : Nat) (h : Hp) (x1 : Int32) (hJ : J_Jx4a65c_rangeCheckForAdd_d00df N t0 h x1 = some (hz, ())) : Mo h hz := mb_Jx4a65c_rangeCheckForAdd_d00df_0 N t0 h x1 hJ
theorem cd_Jx4a65c_rangeCheckForAdd_d00df : Cd yJx4a65c_rangeCheckForAdd_d00df 1 := ⟨by decide +kernel, by decide +kernel, by decide +kernel⟩
theorem cc_Jx4a65c_rangeCheckForAdd_d00df (N : Nat) (t0 : Nat) (h : Hp) (x1 : Int32) (hk0 : h.kd t0 = 2) (hJ : J_Jx4a65c_rangeCheckForAdd_d00df N t0 h x1 = some (hz, ())) : Cv l yJx4a65c_rangeCheckForAdd_d00df cJx4a65c_rangeCheckForAdd_d00df 2 none 0 0 D cs h hz [.ref t0, .int x1] := by
  intro mc ms g1 g2
  refine je_anyF (by decide) (by simp [lg_sl, rf_cat, cat_i, cat_l, cat_r]) ?_
  intro p e s m args below meth c C hin2 w ls hl
  have hl : lv_has ls 2 [(0, .ref t0), (1, .int x1)] := hl
  exact sb_Jx4a65c_rangeCheckForAdd_d00df_0 C ⟨g1, g2⟩ N t0 h x1 hJ hk0 w hl
end G_Jx4a65c_rangeCheckForAdd_d00df
section G_Jx4a65c_add_7a177
variable {p : Program} {l : Launch} {e : Env} {s : State} {m : MethodId} {args : Array Value} {below : List Frame} {meth : Method} {c : Code} {D : va_G} {cs : C4} {A : Nat → Prop} {h0 hz : Hp} {mc ms : Nat}
def B_Jx4a65c_add_7a177_38 (N : Nat) (t0 : Nat) (h : Hp) (x1 : Int32) (x2 : Option Nat) (x3 : Int32) (x4 : Option Nat) : Option (Hp × Unit) := dr h 23 x4 (fun a1 => ck (¬ x1 < 0 ∧ ¬ (x1 + (1 : Int32)) < 0 ∧ ¬ (x3 - x1) < 0 ∧ x1.toNatClampNeg + (x3 - x1).toNatClampNeg ≤ h.al a1 ∧ (x1 + (1 : Int32)).toNatClampNeg + (x3 - x1).toNatClampNeg ≤ h.al a1) (ck (∀ i, i < (x3 - x1).toNatClampNeg → okV h (h.ar a1 (x1.toNatClampNeg + i)) = true) (ck (¬ (x1 < 0 ∨ (h.tar a1 (va_cpy (h.ar a1) (h.ar a1) x1.toNatClampNeg (x1 + (1 : Int32)).toNatClampNeg (x3 - x1).toNatClampNeg)).al a1 ≤ x1.toNatClampNeg)) (ck (okV (h.tar a1 (va_cpy (h.ar a1) (h.ar a1) x1.toNatClampNeg (x1 + (1 : Int32)).toNatClampNeg (x3 - x1).toNatClampNeg)) x2 = true) (some (((h.tar a1 (va_cpy (h.ar a1) (h.ar a1) x1.toNatClampNeg (x1 + (1 : Int32)).toNatClampNeg (x3 - x1).toNatClampNeg)).sar a1 x1.toNatClampNeg x2).sfi 202 t0 (x3 + (1 : Int32)), ()))))))
theorem mb_Jx4a65c_add_7a177_38 (N : Nat) (t0 : Nat) (h : Hp) (x1 : Int32) (x2 : Option Nat) (x3 : Int32) (x4 : Option Nat) (hJ : B_Jx4a65c_add_7a177_38 N t0 h x1 x2 x3 x4 = some (hz, ())) : Mo h hz := by
  unfold B_Jx4a65c_add_7a177_38 at hJ
  obtain ⟨a1, ea1, -, hJ⟩ := dr_some hJ
  obtain ⟨-, hJ⟩ := ck_some hJ
  obtain ⟨-, hJ⟩ := ck_some hJ
  obtain ⟨-, hJ⟩ := ck_some hJ
  obtain ⟨-, hJ⟩ := ck_some hJ
  obtain ⟨rfl, -⟩ := rs2 hJ
  exact ⟨fun _ _ => rfl, Nat.le_refl _, Nat.le_refl _, rfl, fun _ _ => rfl⟩
set_option maxRecDepth 100000 in
set_option maxHeartbeats 4000000 in
theorem sb_Jx4a65c_add_7a177_38 (C : Cx p s m args meth c cJx4a65c_add_7a177 5 none RJx4a65c D cs A h0.se) (hz2 : hz.nx ≤ h0.nx + mc ∧ hz.su ≤ h0.su + ms) (N : Nat) (t0 : Nat) (h : Hp) (x1 : Int32) (x2 : Option Nat) (x3 : Int32) (x4 : Option Nat) (hJ : B_Jx4a65c_add_7a177_38 N t0 h x1 x2 x3 x4 = some (hz, ())) (hk0 : h.kd t0 = 2) {H : Heap} {locs : List Loc} {cells slots : Nat} (w : Wo D cs A s h0 h H locs cells slots) {ls : Array Slot} (hl : lv_has ls 5 [(0, .ref t0), (1, .int x1), (2, va_rf x2), (3, .int x3), (4, va_rf x4)]) : W p l e { frames := 5, cells := mc, slots := ms, locals := 170 } s m args below meth c H locs cells slots (MQ below (Zv D cs A hz) args s mc ms A) (F0 m 38 ls []) := by
  obtain ⟨hx, hb, hml, hown, hts, -⟩ := id C
  unfold B_Jx4a65c_add_7a177_38 at hJ
  refine jv_aload hx hb dJx4a65c_add_7a177_38 (lv_at hl 4 rfl) ?_
  refine lv_iload_n hx hb dJx4a65c_add_7a177_40 rfl (lv_at hl 1 rfl) ?_
  refine jv_aload hx hb dJx4a65c_add_7a177_41 (lv_at hl 4 rfl) ?_
  refine lv_iload_n hx hb dJx4a65c_add_7a177_43 rfl (lv_at hl 1 rfl) ?_
  refine lv_iconst (v := (1 : Int32)) hx hb dJx4a65c_add_7a177_44 (by decide) ?_
  refine lv_iadd hx hb dJx4a65c_add_7a177_45 ?_
  refine lv_iload_n hx hb dJx4a65c_add_7a177_46 rfl (lv_at hl 3 rfl) ?_
  refine lv_iload_n hx hb dJx4a65c_add_7a177_47 rfl (lv_at hl 1 rfl) ?_
  refine lv_isub hx hb dJx4a65c_add_7a177_48 ?_
  obtain ⟨a1, ea1, hka1, hJ⟩ := dr_some hJ
  rw [ea1] at hl
  rw [ea1]
  obtain ⟨hc2, hJ⟩ := ck_some hJ
  obtain ⟨he3, hJ⟩ := ck_some hJ
  refine jr_cpr C w hl.1 tw_5_7 hka1 hka1 hc2 he3 (Nat.le_of_ble_eq_true rfl) (by first | exact Nat.le_of_ble_eq_true rfl | (simp [rf_cat, cat_i, cat_l, cat_r]; done) | (simp [rf_cat, cat_i, cat_l, cat_r]; decide)) dJx4a65c_add_7a177_49 (fun H locs w => ?_)
  refine lv_aload hx hb dJx4a65c_add_7a177_52 (lv_at hl 4 rfl) ?_
  refine lv_iload_n hx hb dJx4a65c_add_7a177_54 rfl (lv_at hl 1 rfl) ?_
  refine jv_aload_n hx hb dJx4a65c_add_7a177_55 rfl (lv_at hl 2 rfl) ?_
  obtain ⟨hi4, hJ⟩ := ck_some hJ
  obtain ⟨hv5, hJ⟩ := ck_some hJ
  refine jr_aastV (x := x2) C w hka1 hi4 hv5 dJx4a65c_add_7a177_56 (fun H locs w => ?_)
  refine lv_aload_n hx hb dJx4a65c_add_7a177_57 rfl (lv_at hl 0 rfl) ?_
  refine lv_iload_n hx hb dJx4a65c_add_7a177_58 rfl (lv_at hl 3 rfl) ?_
  refine lv_iconst (v := (1 : Int32)) hx hb dJx4a65c_add_7a177_59 (by decide) ?_
  refine lv_iadd hx hb dJx4a65c_add_7a177_60 ?_
  refine fp_202 (x := x3 + (1 : Int32)) C w hk0 tw_1_64 dJx4a65c_add_7a177_61 (fun H locs w => ?_)
  obtain ⟨rfl, -⟩ := rs2 hJ
  exact jr_vret C w hz2 dJx4a65c_add_7a177_64
def B_Jx4a65c_add_7a177_36 (N : Nat) (t0 : Nat) (h : Hp) (x1 : Int32) (x2 : Option Nat) (x3 : Int32) (y0 : Option Nat) : Option (Hp × Unit) := B_Jx4a65c_add_7a177_38 N t0 h x1 x2 x3 y0
theorem mb_Jx4a65c_add_7a177_36 (N : Nat) (t0 : Nat) (h : Hp) (x1 : Int32) (x2 : Option Nat) (x3 : Int32) (y0 : Option Nat) (hJ : B_Jx4a65c_add_7a177_36 N t0 h x1 x2 x3 y0 = some (hz, ())) : Mo h hz := by
  unfold B_Jx4a65c_add_7a177_36 at hJ
  exact mb_Jx4a65c_add_7a177_38 N t0 _ _ _ _ _ hJ
set_option maxRecDepth 100000 in
set_option maxHeartbeats 4000000 in
theorem sb_Jx4a65c_add_7a177_36 (C : Cx p s m args meth c cJx4a65c_add_7a177 5 none RJx4a65c D cs A h0.se) (hz2 : hz.nx ≤ h0.nx + mc ∧ hz.su ≤ h0.su + ms) (N : Nat) (t0 : Nat) (h : Hp) (x1 : Int32) (x2 : Option Nat) (x3 : Int32) (y0 : Option Nat) (hJ : B_Jx4a65c_add_7a177_36 N t0 h x1 x2 x3 y0 = some (hz, ())) (hk0 : h.kd t0 = 2) {H : Heap} {locs : List Loc} {cells slots : Nat} (w : Wo D cs A s h0 h H locs cells slots) {ls : Array Slot} (hl : lv_has ls 5 [(0, .ref t0), (1, .int x1), (2, va_rf x2), (3, .int x3)]) : W p l e { frames := 5, cells := mc, slots := ms, locals := 170 } s m args below meth c H locs cells slots (MQ below (Zv D cs A hz) args s mc ms A) (F0 m 36 ls [va_rf y0]) := by
  obtain ⟨hx, hb, hml, hown, hts, -⟩ := id C
  unfold B_Jx4a65c_add_7a177_36 at hJ
  refine jv_astore (i := 4) (lv' := [(4, va_rf y0), (0, .ref t0), (1, .int x1), (2, va_rf x2), (3, .int x3)]) hx hb dJx4a65c_add_7a177_36 hl (by decide) rfl (fun ls hl => ?_)
  exact sb_Jx4a65c_add_7a177_38 C hz2 N t0 _ _ _ _ _ hJ hk0 w (lv_sub (l' := [(0, .ref t0), (1, .int x1), (2, va_rf x2), (3, .int x3), (4, va_rf y0)]) hl [1, 2, 3, 4, 0] rfl)
def B_Jx4a65c_add_7a177_5 (N : Nat) (t0 : Nat) (h : Hp) (x1 : Int32) (x2 : Option Nat) : Option (Hp × Unit) := alO (h.sfi 200 t0 ((h.fi 200 t0) + (1 : Int32))) ((h.sfi 200 t0 ((h.fi 200 t0) + (1 : Int32))).fr 201 t0) (fun n7 => if ((h.sfi 200 t0 ((h.fi 200 t0) + (1 : Int32))).fi 202 t0) = n7 then ((J_Jx4a65c_grow_d5877 N t0 (h.sfi 200 t0 ((h.fi 200 t0) + (1 : Int32)))).bind (fun z => B_Jx4a65c_add_7a177_36 N t0 z.1 x1 x2 ((h.sfi 200 t0 ((h.fi 200 t0) + (1 : Int32))).fi 202 t0) z.2)) else (B_Jx4a65c_add_7a177_38 N t0 (h.sfi 200 t0 ((h.fi 200 t0) + (1 : Int32))) x1 x2 ((h.sfi 200 t0 ((h.fi 200 t0) + (1 : Int32))).fi 202 t0) ((h.sfi 200 t0 ((h.fi 200 t0) + (1 : Int32))).fr 201 t0)))
theorem mb_Jx4a65c_add_7a177_5 (N : Nat) (t0 : Nat) (h : Hp) (x1 : Int32) (x2 : Option Nat) (hJ : B_Jx4a65c_add_7a177_5 N t0 h x1 x2 = some (hz, ())) : Mo h hz := by
  unfold B_Jx4a65c_add_7a177_5 at hJ
  obtain ⟨_, n7, _, _, hJ⟩ := alO_some hJ
  by_cases c8 : ((h.sfi 200 t0 ((h.fi 200 t0) + (1 : Int32))).fi 202 t0) = n7
  · have hJ := it_pos c8 hJ
    obtain ⟨⟨h9, r10⟩, e11, hJ⟩ := ob_some hJ
    exact (Mo.tr (show Mo h (h.sfi 200 t0 ((h.fi 200 t0) + (1 : Int32))) from ⟨fun _ _ => rfl, Nat.le_refl _, Nat.le_refl _, rfl, fun _ _ => rfl⟩) ((mo_Jx4a65c_grow_d5877 N t0 (h.sfi 200 t0 ((h.fi 200 t0) + (1 : Int32))) e11).tr (mb_Jx4a65c_add_7a177_36 N t0 _ _ _ _ _ hJ)))
  · have hJ := it_neg c8 hJ
    exact (Mo.tr (show Mo h (h.sfi 200 t0 ((h.fi 200 t0) + (1 : Int32))) from ⟨fun _ _ => rfl, Nat.le_refl _, Nat.le_refl _, rfl, fun _ _ => rfl⟩) (mb_Jx4a65c_add_7a177_38 N t0 _ _ _ _ _ hJ))
set_option maxRecDepth 100000 in
set_option maxHeartbeats 4000000 in
theorem sb_Jx4a65c_add_7a177_5 (C : Cx p s m args meth c cJx4a65c_add_7a177 5 none RJx4a65c D cs A h0.se) (hz2 : hz.nx ≤ h0.nx + mc ∧ hz.su ≤ h0.su + ms) (N : Nat) (t0 : Nat) (h : Hp) (x1 : Int32) (x2 : Option Nat) (hJ : B_Jx4a65c_add_7a177_5 N t0 h x1 x2 = some (hz, ())) (hk0 : h.kd t0 = 2) {H : Heap} {locs : List Loc} {cells slots : Nat} (w : Wo D cs A s h0 h H locs cells slots) {ls : Array Slot} (hl : lv_has ls 5 [(0, .ref t0), (1, .int x1), (2, va_rf x2)]) : W p l e { frames := 5, cells := mc, slots := ms, locals := 170 } s m args below meth c H locs cells slots (MQ below (Zv D cs A hz) args s mc ms A) (F0 m 5 ls []) := by
  obtain ⟨hx, hb, hml, hown, hts, -⟩ := id C
  unfold B_Jx4a65c_add_7a177_5 at hJ
  refine lv_aload_n hx hb dJx4a65c_add_7a177_5 rfl (lv_at hl 0 rfl) ?_
  refine lv_dup hx hb dJx4a65c_add_7a177_6 rfl ?_
  refine fg_200A C w hk0 tw_1_66 dJx4a65c_add_7a177_7 ?_
  refine lv_iconst (v := (1 : Int32)) hx hb dJx4a65c_add_7a177_10 (by decide) ?_
  refine lv_iadd hx hb dJx4a65c_add_7a177_11 ?_
  refine fp_200A (x := (h.fi 200 t0) + (1 : Int32)) C w hk0 tw_1_66 dJx4a65c_add_7a177_12 (fun H locs w => ?_)
  refine lv_aload_n hx hb dJx4a65c_add_7a177_15 rfl (lv_at hl 0 rfl) ?_
  refine fg_202 C w hk0 tw_1_64 dJx4a65c_add_7a177_16 ?_
  refine lv_dup hx hb dJx4a65c_add_7a177_19 rfl ?_
  refine lv_istore_n (i := 3) (lv' := [(3, .int ((h.sfi 200 t0 ((h.fi 200 t0) + (1 : Int32))).fi 202 t0)), (0, .ref t0), (1, .int x1), (2, va_rf x2)]) hx hb dJx4a65c_add_7a177_20 rfl hl (by decide) (by simp [List.filter, rf_cat, cat_i, cat_l, cat_r]) (fun ls hl => ?_)
  refine lv_aload_n hx hb dJx4a65c_add_7a177_21 rfl (lv_at hl 1 rfl) ?_
  refine fg_201 C w hk0 tw_1_63 dJx4a65c_add_7a177_22 ?_
  refine lv_dup hx hb dJx4a65c_add_7a177_25 (rf_cat _) ?_
  refine jv_astore (i := 4) (lv' := [(4, va_rf ((h.sfi 200 t0 ((h.fi 200 t0) + (1 : Int32))).fr 201 t0)), (3, .int ((h.sfi 200 t0 ((h.fi 200 t0) + (1 : Int32))).fi 202 t0)), (0, .ref t0), (1, .int x1), (2, va_rf x2)]) hx hb dJx4a65c_add_7a177_26 hl (by decide) rfl (fun ls hl => ?_)
  obtain ⟨a6, n7, ea6, hqa6, hJ⟩ := alO_some hJ
  rw [ea6]
  refine jr_alO C w hqa6 dJx4a65c_add_7a177_28 ?_
  try rw [← ea6]
  refine lv_icmp_ne (tgt := 38) hx hb dJx4a65c_add_7a177_29 (by decide) (fun c8 => ?_) (fun c8 => ?_)
  · have hJ := it_neg c8 hJ
    exact sb_Jx4a65c_add_7a177_38 C hz2 N t0 _ _ _ _ _ hJ hk0 w (lv_sub (l' := [(0, .ref t0), (1, .int x1), (2, va_rf x2), (3, .int ((h.sfi 200 t0 ((h.fi 200 t0) + (1 : Int32))).fi 202 t0)), (4, va_rf ((h.sfi 200 t0 ((h.fi 200 t0) + (1 : Int32))).fr 201 t0))]) hl [2, 3, 4, 1, 0] rfl)
  · have hJ := it_pos c8 hJ
    refine lv_aload_n hx hb dJx4a65c_add_7a177_32 rfl (lv_at hl 2 rfl) ?_
    obtain ⟨⟨h9, r10⟩, e11, hJ⟩ := ob_some hJ
    refine jc_Vq (As := []) C w (cc_Jx4a65c_grow_d5877 N t0 (h.sfi 200 t0 ((h.fi 200 t0) + (1 : Int32))) hk0 e11) (mo_Jx4a65c_grow_d5877 N t0 (h.sfi 200 t0 ((h.fi 200 t0) + (1 : Int32))) e11) (mb_Jx4a65c_add_7a177_36 N t0 _ _ _ _ _ hJ) hz2 hk0 (by decide) rfl (fs := fs2 (h.sfi 200 t0 ((h.fi 200 t0) + (1 : Int32))) t0) rfl rfl ⟨tw_2_95, tw_2_92, tw_2_94, ts_3, tw_1_5⟩ cd_Jx4a65c_grow_d5877 ⟨by decide, by decide⟩ hl.1 (by first | exact Nat.le_of_ble_eq_true rfl | simp [rf_cat, cat_i, cat_l, cat_r]) rfl dJx4a65c_add_7a177_33 (fun H locs w1 => ?_)
    have hk12 := kd_keep w (mo_Jx4a65c_grow_d5877 N t0 (h.sfi 200 t0 ((h.fi 200 t0) + (1 : Int32))) e11) hk0 (by decide)
    have w := w1
    exact sb_Jx4a65c_add_7a177_36 C hz2 N t0 _ _ _ _ _ hJ hk12 w (lv_sub (l' := [(0, .ref t0), (1, .int x1), (2, va_rf x2), (3, .int ((h.sfi 200 t0 ((h.fi 200 t0) + (1 : Int32))).fi 202 t0))]) hl [2, 3, 4, 1] rfl)
def B_Jx4a65c_add_7a177_0 (N : Nat) (t0 : Nat) (h : Hp) (x1 : Int32) (x2 : Option Nat) : Option (Hp × Unit) := (J_Jx4a65c_rangeCheckForAdd_d00df N t0 h x1).bind (fun z => B_Jx4a65c_add_7a177_5 N t0 z.1 x1 x2)
theorem mb_Jx4a65c_add_7a177_0 (N : Nat) (t0 : Nat) (h : Hp) (x1 : Int32) (x2 : Option Nat) (hJ : B_Jx4a65c_add_7a177_0 N t0 h x1 x2 = some (hz, ())) : Mo h hz := by
  unfold B_Jx4a65c_add_7a177_0 at hJ
  obtain ⟨⟨h13, r14⟩, e15, hJ⟩ := ob_some hJ
  exact (mo_Jx4a65c_rangeCheckForAdd_d00df N t0 h x1 e15).tr (mb_Jx4a65c_add_7a177_5 N t0 _ _ _ hJ)
set_option maxRecDepth 100000 in
set_option maxHeartbeats 4000000 in
theorem sb_Jx4a65c_add_7a177_0 (C : Cx p s m args meth c cJx4a65c_add_7a177 5 none RJx4a65c D cs A h0.se) (hz2 : hz.nx ≤ h0.nx + mc ∧ hz.su ≤ h0.su + ms) (N : Nat) (t0 : Nat) (h : Hp) (x1 : Int32) (x2 : Option Nat) (hJ : B_Jx4a65c_add_7a177_0 N t0 h x1 x2 = some (hz, ())) (hk0 : h.kd t0 = 2) {H : Heap} {locs : List Loc} {cells slots : Nat} (w : Wo D cs A s h0 h H locs cells slots) {ls : Array Slot} (hl : lv_has ls 5 [(0, .ref t0), (1, .int x1), (2, va_rf x2)]) : W p l e { frames := 5, cells := mc, slots := ms, locals := 170 } s m args below meth c H locs cells slots (MQ below (Zv D cs A hz) args s mc ms A) (F0 m 0 ls []) := by
  obtain ⟨hx, hb, hml, hown, hts, -⟩ := id C
  unfold B_Jx4a65c_add_7a177_0 at hJ
  refine lv_aload_n hx hb dJx4a65c_add_7a177_0 rfl (lv_at hl 0 rfl) ?_
  refine lv_iload_n hx hb dJx4a65c_add_7a177_1 rfl (lv_at hl 1 rfl) ?_
  obtain ⟨⟨h13, r14⟩, e15, hJ⟩ := ob_some hJ
  refine jc_Vv (As := [.int x1]) C w (cc_Jx4a65c_rangeCheckForAdd_d00df N t0 h x1 hk0 e15) (mo_Jx4a65c_rangeCheckForAdd_d00df N t0 h x1 e15) (mb_Jx4a65c_add_7a177_5 N t0 _ _ _ hJ) hz2 hk0 (by decide) rfl (fs := fs2 h t0) rfl rfl ⟨tw_3_169, tw_3_166, tw_3_168, ts_13, tw_1_5⟩ cd_Jx4a65c_rangeCheckForAdd_d00df ⟨by decide, by decide⟩ hl.1 (by first | exact Nat.le_of_ble_eq_true rfl | simp [rf_cat, cat_i, cat_l, cat_r]) rfl dJx4a65c_add_7a177_2 (fun H locs w1 => ?_)
  have hk16 := kd_keep w (mo_Jx4a65c_rangeCheckForAdd_d00df N t0 h x1 e15) hk0 (by decide)
  have w := w1
  exact sb_Jx4a65c_add_7a177_5 C hz2 N t0 _ _ _ hJ hk16 w hl
def J_Jx4a65c_add_7a177 (N : Nat) (t0 : Nat) (h : Hp) (x1 : Int32) (x2 : Option Nat) : Option (Hp × Unit) := B_Jx4a65c_add_7a177_0 N t0 h x1 x2
theorem mo_Jx4a65c_add_7a177 (N : Nat) (t0 : Nat) (h : Hp) (x1 : Int32) (x2 : Option Nat) (hJ : J_Jx4a65c_add_7a177 N t0 h x1 x2 = some (hz, ())) : Mo h hz := mb_Jx4a65c_add_7a177_0 N t0 h x1 x2 hJ
theorem cd_Jx4a65c_add_7a177 : Cd yJx4a65c_add_7a177 2 := ⟨by decide +kernel, by decide +kernel, by decide +kernel⟩
theorem cc_Jx4a65c_add_7a177 (N : Nat) (t0 : Nat) (h : Hp) (x1 : Int32) (x2 : Option Nat) (hk0 : h.kd t0 = 2) (hJ : J_Jx4a65c_add_7a177 N t0 h x1 x2 = some (hz, ())) : Cv l yJx4a65c_add_7a177 cJx4a65c_add_7a177 5 none 5 170 D cs h hz [.ref t0, .int x1, va_rf x2] := by
  intro mc ms g1 g2
  refine je_anyF (by decide) (by simp [lg_sl, rf_cat, cat_i, cat_l, cat_r]) ?_
  intro p e s m args below meth c C hin2 w ls hl
  have hl : lv_has ls 5 [(0, .ref t0), (1, .int x1), (2, va_rf x2)] := by simpa [lv_args, rf_cat, cat_i, cat_l, cat_r] using hl
  exact sb_Jx4a65c_add_7a177_0 C ⟨g1, g2⟩ N t0 h x1 x2 hJ hk0 w hl
end G_Jx4a65c_add_7a177
section G_Jx4a65c_fastRemove_b59b0
variable {p : Program} {l : Launch} {e : Env} {s : State} {m : MethodId} {args : Array Value} {below : List Frame} {meth : Method} {c : Code} {D : va_G} {cs : C4} {A : Nat → Prop} {h0 hz : Hp} {mc ms : Nat}
def B_Jx4a65c_fastRemove_b59b0_34 (N : Nat) (t0 : Nat) (h : Hp) (x1 : Option Nat) (x3 : Int32) : Option (Hp × Unit) := dr (h.sfi 202 t0 x3) 23 x1 (fun a1 => ck (¬ (x3 < 0 ∨ (h.sfi 202 t0 x3).al a1 ≤ x3.toNatClampNeg)) (ck (okV (h.sfi 202 t0 x3) none = true) (some ((h.sfi 202 t0 x3).sar a1 x3.toNatClampNeg none, ()))))
theorem mb_Jx4a65c_fastRemove_b59b0_34 (N : Nat) (t0 : Nat) (h : Hp) (x1 : Option Nat) (x3 : Int32) (hJ : B_Jx4a65c_fastRemove_b59b0_34 N t0 h x1 x3 = some (hz, ())) : Mo h hz := by
  unfold B_Jx4a65c_fastRemove_b59b0_34 at hJ
  obtain ⟨a1, ea1, -, hJ⟩ := dr_some hJ
  obtain ⟨-, hJ⟩ := ck_some hJ
  obtain ⟨-, hJ⟩ := ck_some hJ
  obtain ⟨rfl, -⟩ := rs2 hJ
  exact ⟨fun _ _ => rfl, Nat.le_refl _, Nat.le_refl _, rfl, fun _ _ => rfl⟩
set_option maxRecDepth 100000 in
set_option maxHeartbeats 4000000 in
theorem sb_Jx4a65c_fastRemove_b59b0_34 (C : Cx p s m args meth c cJx4a65c_fastRemove_b59b0 4 none RJx4a65c D cs A h0.se) (hz2 : hz.nx ≤ h0.nx + mc ∧ hz.su ≤ h0.su + ms) (N : Nat) (t0 : Nat) (h : Hp) (x1 : Option Nat) (x3 : Int32) (hJ : B_Jx4a65c_fastRemove_b59b0_34 N t0 h x1 x3 = some (hz, ())) (hk0 : h.kd t0 = 2) {H : Heap} {locs : List Loc} {cells slots : Nat} (w : Wo D cs A s h0 h H locs cells slots) {ls : Array Slot} (hl : lv_has ls 4 [(0, .ref t0), (1, va_rf x1), (3, .int x3)]) : W p l e { frames := 1, cells := mc, slots := ms, locals := 60 } s m args below meth c H locs cells slots (MQ below (Zv D cs A hz) args s mc ms A) (F0 m 34 ls []) := by
  obtain ⟨hx, hb, hml, hown, hts, -⟩ := id C
  unfold B_Jx4a65c_fastRemove_b59b0_34 at hJ
  refine jv_aload_n hx hb dJx4a65c_fastRemove_b59b0_34 rfl (lv_at hl 1 rfl) ?_
  refine lv_aload_n hx hb dJx4a65c_fastRemove_b59b0_35 rfl (lv_at hl 0 rfl) ?_
  refine lv_iload_n hx hb dJx4a65c_fastRemove_b59b0_36 rfl (lv_at hl 2 rfl) ?_
  refine lv_dup_x1 hx hb dJx4a65c_fastRemove_b59b0_37 rfl rfl ?_
  refine fp_202 (x := x3) C w hk0 tw_1_64 dJx4a65c_fastRemove_b59b0_38 (fun H locs w => ?_)
  refine lv_null hx hb dJx4a65c_fastRemove_b59b0_41 ?_
  change W _ _ _ _ _ _ _ _ _ _ _ _ _ _ _ (F0 m 42 ls [va_rf none, .int x3, va_rf x1])
  obtain ⟨a1, ea1, hka1, hJ⟩ := dr_some hJ
  rw [ea1] at hl
  rw [ea1]
  obtain ⟨hi2, hJ⟩ := ck_some hJ
  obtain ⟨hv3, hJ⟩ := ck_some hJ
  refine jr_aastV (x := none) C w hka1 hi2 hv3 dJx4a65c_fastRemove_b59b0_42 (fun H locs w => ?_)
  obtain ⟨rfl, -⟩ := rs2 hJ
  exact jr_vret C w hz2 dJx4a65c_fastRemove_b59b0_43
def B_Jx4a65c_fastRemove_b59b0_0 (N : Nat) (t0 : Nat) (h : Hp) (x1 : Option Nat) (x2 : Int32) : Option (Hp × Unit) := if (((h.sfi 200 t0 ((h.fi 200 t0) + (1 : Int32))).fi 202 t0) - (1 : Int32)) ≤ x2 then (B_Jx4a65c_fastRemove_b59b0_34 N t0 (h.sfi 200 t0 ((h.fi 200 t0) + (1 : Int32))) x1 (((h.sfi 200 t0 ((h.fi 200 t0) + (1 : Int32))).fi 202 t0) - (1 : Int32))) else (dr (h.sfi 200 t0 ((h.fi 200 t0) + (1 : Int32))) 23 x1 (fun a5 => ck (¬ (x2 + (1 : Int32)) < 0 ∧ ¬ x2 < 0 ∧ ¬ ((((h.sfi 200 t0 ((h.fi 200 t0) + (1 : Int32))).fi 202 t0) - (1 : Int32)) - x2) < 0 ∧ (x2 + (1 : Int32)).toNatClampNeg + ((((h.sfi 200 t0 ((h.fi 200 t0) + (1 : Int32))).fi 202 t0) - (1 : Int32)) - x2).toNatClampNeg ≤ (h.sfi 200 t0 ((h.fi 200 t0) + (1 : Int32))).al a5 ∧ x2.toNatClampNeg + ((((h.sfi 200 t0 ((h.fi 200 t0) + (1 : Int32))).fi 202 t0) - (1 : Int32)) - x2).toNatClampNeg ≤ (h.sfi 200 t0 ((h.fi 200 t0) + (1 : Int32))).al a5) (ck (∀ i, i < ((((h.sfi 200 t0 ((h.fi 200 t0) + (1 : Int32))).fi 202 t0) - (1 : Int32)) - x2).toNatClampNeg → okV (h.sfi 200 t0 ((h.fi 200 t0) + (1 : Int32))) ((h.sfi 200 t0 ((h.fi 200 t0) + (1 : Int32))).ar a5 ((x2 + (1 : Int32)).toNatClampNeg + i)) = true) (B_Jx4a65c_fastRemove_b59b0_34 N t0 ((h.sfi 200 t0 ((h.fi 200 t0) + (1 : Int32))).tar a5 (va_cpy ((h.sfi 200 t0 ((h.fi 200 t0) + (1 : Int32))).ar a5) ((h.sfi 200 t0 ((h.fi 200 t0) + (1 : Int32))).ar a5) (x2 + (1 : Int32)).toNatClampNeg x2.toNatClampNeg ((((h.sfi 200 t0 ((h.fi 200 t0) + (1 : Int32))).fi 202 t0) - (1 : Int32)) - x2).toNatClampNeg)) (some a5) (((h.sfi 200 t0 ((h.fi 200 t0) + (1 : Int32))).fi 202 t0) - (1 : Int32))))))
theorem mb_Jx4a65c_fastRemove_b59b0_0 (N : Nat) (t0 : Nat) (h : Hp) (x1 : Option Nat) (x2 : Int32) (hJ : B_Jx4a65c_fastRemove_b59b0_0 N t0 h x1 x2 = some (hz, ())) : Mo h hz := by
  unfold B_Jx4a65c_fastRemove_b59b0_0 at hJ
  by_cases c4 : (((h.sfi 200 t0 ((h.fi 200 t0) + (1 : Int32))).fi 202 t0) - (1 : Int32)) ≤ x2
  · have hJ := it_pos c4 hJ
    exact (Mo.tr (show Mo h (h.sfi 200 t0 ((h.fi 200 t0) + (1 : Int32))) from ⟨fun _ _ => rfl, Nat.le_refl _, Nat.le_refl _, rfl, fun _ _ => rfl⟩) (mb_Jx4a65c_fastRemove_b59b0_34 N t0 _ _ _ hJ))
  · have hJ := it_neg c4 hJ
    obtain ⟨a5, ea5, -, hJ⟩ := dr_some hJ
    obtain ⟨-, hJ⟩ := ck_some hJ
    obtain ⟨-, hJ⟩ := ck_some hJ
    exact (Mo.tr (show Mo h ((h.sfi 200 t0 ((h.fi 200 t0) + (1 : Int32))).tar a5 (va_cpy ((h.sfi 200 t0 ((h.fi 200 t0) + (1 : Int32))).ar a5) ((h.sfi 200 t0 ((h.fi 200 t0) + (1 : Int32))).ar a5) (x2 + (1 : Int32)).toNatClampNeg x2.toNatClampNeg ((((h.sfi 200 t0 ((h.fi 200 t0) + (1 : Int32))).fi 202 t0) - (1 : Int32)) - x2).toNatClampNeg)) from ⟨fun _ _ => rfl, Nat.le_refl _, Nat.le_refl _, rfl, fun _ _ => rfl⟩) (mb_Jx4a65c_fastRemove_b59b0_34 N t0 _ _ _ hJ))
set_option maxRecDepth 100000 in
set_option maxHeartbeats 4000000 in
theorem sb_Jx4a65c_fastRemove_b59b0_0 (C : Cx p s m args meth c cJx4a65c_fastRemove_b59b0 4 none RJx4a65c D cs A h0.se) (hz2 : hz.nx ≤ h0.nx + mc ∧ hz.su ≤ h0.su + ms) (N : Nat) (t0 : Nat) (h : Hp) (x1 : Option Nat) (x2 : Int32) (hJ : B_Jx4a65c_fastRemove_b59b0_0 N t0 h x1 x2 = some (hz, ())) (hk0 : h.kd t0 = 2) {H : Heap} {locs : List Loc} {cells slots : Nat} (w : Wo D cs A s h0 h H locs cells slots) {ls : Array Slot} (hl : lv_has ls 4 [(0, .ref t0), (1, va_rf x1), (2, .int x2)]) : W p l e { frames := 1, cells := mc, slots := ms, locals := 60 } s m args below meth c H locs cells slots (MQ below (Zv D cs A hz) args s mc ms A) (F0 m 0 ls []) := by
  obtain ⟨hx, hb, hml, hown, hts, -⟩ := id C
  unfold B_Jx4a65c_fastRemove_b59b0_0 at hJ
  refine lv_aload_n hx hb dJx4a65c_fastRemove_b59b0_0 rfl (lv_at hl 0 rfl) ?_
  refine lv_dup hx hb dJx4a65c_fastRemove_b59b0_1 rfl ?_
  refine fg_200A C w hk0 tw_1_66 dJx4a65c_fastRemove_b59b0_2 ?_
  refine lv_iconst (v := (1 : Int32)) hx hb dJx4a65c_fastRemove_b59b0_5 (by decide) ?_
  refine lv_iadd hx hb dJx4a65c_fastRemove_b59b0_6 ?_
  refine fp_200A (x := (h.fi 200 t0) + (1 : Int32)) C w hk0 tw_1_66 dJx4a65c_fastRemove_b59b0_7 (fun H locs w => ?_)
  refine lv_aload_n hx hb dJx4a65c_fastRemove_b59b0_10 rfl (lv_at hl 0 rfl) ?_
  refine fg_202 C w hk0 tw_1_64 dJx4a65c_fastRemove_b59b0_11 ?_
  refine lv_iconst (v := (1 : Int32)) hx hb dJx4a65c_fastRemove_b59b0_14 (by decide) ?_
  refine lv_isub hx hb dJx4a65c_fastRemove_b59b0_15 ?_
  refine lv_dup hx hb dJx4a65c_fastRemove_b59b0_16 rfl ?_
  refine lv_istore_n (i := 3) (lv' := [(3, .int (((h.sfi 200 t0 ((h.fi 200 t0) + (1 : Int32))).fi 202 t0) - (1 : Int32))), (0, .ref t0), (1, va_rf x1), (2, .int x2)]) hx hb dJx4a65c_fastRemove_b59b0_17 rfl hl (by decide) rfl (fun ls hl => ?_)
  refine lv_iload_n hx hb dJx4a65c_fastRemove_b59b0_18 rfl (lv_at hl 3 rfl) ?_
  refine lv_icmp_le (tgt := 34) hx hb dJx4a65c_fastRemove_b59b0_19 (by decide) (fun c4 => ?_) (fun c4 => ?_)
  · have hJ := it_pos c4 hJ
    exact sb_Jx4a65c_fastRemove_b59b0_34 C hz2 N t0 _ _ _ hJ hk0 w (lv_sub (l' := [(0, .ref t0), (1, va_rf x1), (3, .int (((h.sfi 200 t0 ((h.fi 200 t0) + (1 : Int32))).fi 202 t0) - (1 : Int32)))]) hl [1, 2, 0] rfl)
  · have hJ := it_neg c4 hJ
    refine jv_aload_n hx hb dJx4a65c_fastRemove_b59b0_22 rfl (lv_at hl 2 rfl) ?_
    refine lv_iload_n hx hb dJx4a65c_fastRemove_b59b0_23 rfl (lv_at hl 3 rfl) ?_
    refine lv_iconst (v := (1 : Int32)) hx hb dJx4a65c_fastRemove_b59b0_24 (by decide) ?_
    refine lv_iadd hx hb dJx4a65c_fastRemove_b59b0_25 ?_
    refine jv_aload_n hx hb dJx4a65c_fastRemove_b59b0_26 rfl (lv_at hl 2 rfl) ?_
    refine lv_iload_n hx hb dJx4a65c_fastRemove_b59b0_27 rfl (lv_at hl 3 rfl) ?_
    refine lv_iload_n hx hb dJx4a65c_fastRemove_b59b0_28 rfl (lv_at hl 0 rfl) ?_
    refine lv_iload_n hx hb dJx4a65c_fastRemove_b59b0_29 rfl (lv_at hl 3 rfl) ?_
    refine lv_isub hx hb dJx4a65c_fastRemove_b59b0_30 ?_
    obtain ⟨a5, ea5, hka5, hJ⟩ := dr_some hJ
    rw [ea5] at hl
    rw [ea5]
    obtain ⟨hc6, hJ⟩ := ck_some hJ
    obtain ⟨he7, hJ⟩ := ck_some hJ
    refine jr_cpr C w hl.1 tw_5_7 hka5 hka5 hc6 he7 (Nat.le_of_ble_eq_true rfl) (by first | exact Nat.le_of_ble_eq_true rfl | (simp [rf_cat, cat_i, cat_l, cat_r]; done) | (simp [rf_cat, cat_i, cat_l, cat_r]; decide)) dJx4a65c_fastRemove_b59b0_31 (fun H locs w => ?_)
    exact sb_Jx4a65c_fastRemove_b59b0_34 C hz2 N t0 _ _ _ hJ hk0 w (lv_sub (l' := [(0, .ref t0), (1, .ref a5), (3, .int (((h.sfi 200 t0 ((h.fi 200 t0) + (1 : Int32))).fi 202 t0) - (1 : Int32)))]) hl [1, 2, 0] rfl)
def J_Jx4a65c_fastRemove_b59b0 (N : Nat) (t0 : Nat) (h : Hp) (x1 : Option Nat) (x2 : Int32) : Option (Hp × Unit) := B_Jx4a65c_fastRemove_b59b0_0 N t0 h x1 x2
theorem mo_Jx4a65c_fastRemove_b59b0 (N : Nat) (t0 : Nat) (h : Hp) (x1 : Option Nat) (x2 : Int32) (hJ : J_Jx4a65c_fastRemove_b59b0 N t0 h x1 x2 = some (hz, ())) : Mo h hz := mb_Jx4a65c_fastRemove_b59b0_0 N t0 h x1 x2 hJ
theorem cd_Jx4a65c_fastRemove_b59b0 : Cd yJx4a65c_fastRemove_b59b0 2 := ⟨by decide +kernel, by decide +kernel, by decide +kernel⟩
theorem cc_Jx4a65c_fastRemove_b59b0 (N : Nat) (t0 : Nat) (h : Hp) (x1 : Option Nat) (x2 : Int32) (hk0 : h.kd t0 = 2) (hJ : J_Jx4a65c_fastRemove_b59b0 N t0 h x1 x2 = some (hz, ())) : Cv l yJx4a65c_fastRemove_b59b0 cJx4a65c_fastRemove_b59b0 4 none 1 60 D cs h hz [.ref t0, va_rf x1, .int x2] := by
  intro mc ms g1 g2
  refine je_anyF (by decide) (by simp [lg_sl, rf_cat, cat_i, cat_l, cat_r]) ?_
  intro p e s m args below meth c C hin2 w ls hl
  have hl : lv_has ls 4 [(0, .ref t0), (1, va_rf x1), (2, .int x2)] := by simpa [lv_args, rf_cat, cat_i, cat_l, cat_r] using hl
  exact sb_Jx4a65c_fastRemove_b59b0_0 C ⟨g1, g2⟩ N t0 h x1 x2 hJ hk0 w hl
end G_Jx4a65c_fastRemove_b59b0
section G_Jx4a65c_remove_915e3
variable {p : Program} {l : Launch} {e : Env} {s : State} {m : MethodId} {args : Array Value} {below : List Frame} {meth : Method} {c : Code} {D : va_G} {cs : C4} {A : Nat → Prop} {h0 hz : Hp} {mc ms : Nat} {rz : Option Nat}
def B_Jx4a65c_remove_915e3_24 (N : Nat) (t0 : Nat) (h : Hp) (x3 : Option Nat) : Option (Hp × Option Nat) := some (h, x3)
theorem mb_Jx4a65c_remove_915e3_24 (N : Nat) (t0 : Nat) (h : Hp) (x3 : Option Nat) (hJ : B_Jx4a65c_remove_915e3_24 N t0 h x3 = some (hz, rz)) : Mo h hz := by
  unfold B_Jx4a65c_remove_915e3_24 at hJ
  obtain ⟨rfl, -⟩ := rs2 hJ
  exact ⟨fun _ _ => rfl, Nat.le_refl _, Nat.le_refl _, rfl, fun _ _ => rfl⟩
set_option maxRecDepth 100000 in
set_option maxHeartbeats 4000000 in
theorem sb_Jx4a65c_remove_915e3_24 (C : Cx p s m args meth c cJx4a65c_remove_915e3 4 (some (.object "java/lang/Object")) RJx4a65c D cs A h0.se) (hz2 : hz.nx ≤ h0.nx + mc ∧ hz.su ≤ h0.su + ms) (N : Nat) (t0 : Nat) (h : Hp) (x3 : Option Nat) (hJ : B_Jx4a65c_remove_915e3_24 N t0 h x3 = some (hz, rz)) (hk0 : h.kd t0 = 2) {H : Heap} {locs : List Loc} {cells slots : Nat} (w : Wo D cs A s h0 h H locs cells slots) {ls : Array Slot} (hl : lv_has ls 4 [(0, .ref t0), (3, va_rf x3)]) : W p l e { frames := 2, cells := mc, slots := ms, locals := 90 } s m args below meth c H locs cells slots (MQ below (Zq D cs A hz rz) args s mc ms A) (F0 m 24 ls []) := by
  obtain ⟨hx, hb, hml, hown, hts, -⟩ := id C
  unfold B_Jx4a65c_remove_915e3_24 at hJ
  refine jv_aload_n hx hb dJx4a65c_remove_915e3_24 rfl (lv_at hl 1 rfl) ?_
  obtain ⟨rfl, rfl⟩ := rs2 hJ
  exact jr_aret (r := x3) C w (Or.inl ⟨_, rfl⟩) hz2 dJx4a65c_remove_915e3_25
def B_Jx4a65c_remove_915e3_8 (N : Nat) (t0 : Nat) (h : Hp) (x1 : Int32) (y0 : Int32) : Option (Hp × Option Nat) := dr h 23 (h.fr 201 t0) (fun a1 => ck (¬ (x1 < 0 ∨ h.al a1 ≤ x1.toNatClampNeg)) ((J_Jx4a65c_fastRemove_b59b0 N t0 h (some a1) x1).bind (fun z => B_Jx4a65c_remove_915e3_24 N t0 z.1 (h.ar a1 x1.toNatClampNeg))))
theorem mb_Jx4a65c_remove_915e3_8 (N : Nat) (t0 : Nat) (h : Hp) (x1 : Int32) (y0 : Int32) (hJ : B_Jx4a65c_remove_915e3_8 N t0 h x1 y0 = some (hz, rz)) : Mo h hz := by
  unfold B_Jx4a65c_remove_915e3_8 at hJ
  obtain ⟨a1, ea1, -, hJ⟩ := dr_some hJ
  obtain ⟨-, hJ⟩ := ck_some hJ
  obtain ⟨⟨h3, r4⟩, e5, hJ⟩ := ob_some hJ
  exact (mo_Jx4a65c_fastRemove_b59b0 N t0 h (some a1) x1 e5).tr (mb_Jx4a65c_remove_915e3_24 N t0 _ _ hJ)
set_option maxRecDepth 100000 in
set_option maxHeartbeats 4000000 in
theorem sb_Jx4a65c_remove_915e3_8 (C : Cx p s m args meth c cJx4a65c_remove_915e3 4 (some (.object "java/lang/Object")) RJx4a65c D cs A h0.se) (hz2 : hz.nx ≤ h0.nx + mc ∧ hz.su ≤ h0.su + ms) (N : Nat) (t0 : Nat) (h : Hp) (x1 : Int32) (y0 : Int32) (hJ : B_Jx4a65c_remove_915e3_8 N t0 h x1 y0 = some (hz, rz)) (hk0 : h.kd t0 = 2) {H : Heap} {locs : List Loc} {cells slots : Nat} (w : Wo D cs A s h0 h H locs cells slots) {ls : Array Slot} (hl : lv_has ls 4 [(0, .ref t0), (1, .int x1)]) : W p l e { frames := 2, cells := mc, slots := ms, locals := 90 } s m args below meth c H locs cells slots (MQ below (Zq D cs A hz rz) args s mc ms A) (F0 m 8 ls [.int y0]) := by
  obtain ⟨hx, hb, hml, hown, hts, -⟩ := id C
  unfold B_Jx4a65c_remove_915e3_8 at hJ
  refine lv_pop hx hb dJx4a65c_remove_915e3_8 rfl ?_
  refine lv_aload_n hx hb dJx4a65c_remove_915e3_9 rfl (lv_at hl 0 rfl) ?_
  refine fg_201 C w hk0 tw_1_63 dJx4a65c_remove_915e3_10 ?_
  refine jv_astore_n (i := 2) (lv' := [(2, va_rf (h.fr 201 t0)), (0, .ref t0), (1, .int x1)]) hx hb dJx4a65c_remove_915e3_13 rfl hl (by decide) rfl (fun ls hl => ?_)
  refine jv_aload_n hx hb dJx4a65c_remove_915e3_14 rfl (lv_at hl 0 rfl) ?_
  refine lv_iload_n hx hb dJx4a65c_remove_915e3_15 rfl (lv_at hl 2 rfl) ?_
  obtain ⟨a1, ea1, hka1, hJ⟩ := dr_some hJ
  rw [ea1] at hl
  rw [ea1]
  obtain ⟨hi2, hJ⟩ := ck_some hJ
  refine jr_aald C w hka1 hi2 dJx4a65c_remove_915e3_16 ?_
  refine jv_astore_n (i := 3) (lv' := [(3, va_rf (h.ar a1 x1.toNatClampNeg)), (2, .ref a1), (0, .ref t0), (1, .int x1)]) hx hb dJx4a65c_remove_915e3_17 rfl hl (by decide) rfl (fun ls hl => ?_)
  refine lv_aload_n hx hb dJx4a65c_remove_915e3_18 rfl (lv_at hl 2 rfl) ?_
  refine lv_aload_n hx hb dJx4a65c_remove_915e3_19 rfl (lv_at hl 1 rfl) ?_
  refine lv_iload_n hx hb dJx4a65c_remove_915e3_20 rfl (lv_at hl 3 rfl) ?_
  obtain ⟨⟨h3, r4⟩, e5, hJ⟩ := ob_some hJ
  refine jc_Vv (As := [.ref a1, .int x1]) C w (cc_Jx4a65c_fastRemove_b59b0 N t0 h (some a1) x1 hk0 e5) (mo_Jx4a65c_fastRemove_b59b0 N t0 h (some a1) x1 e5) (mb_Jx4a65c_remove_915e3_24 N t0 _ _ hJ) hz2 hk0 (by decide) rfl (fs := fs2 h t0) rfl rfl ⟨tw_5_72, tw_5_69, tw_5_71, ts_16, tw_1_5⟩ cd_Jx4a65c_fastRemove_b59b0 ⟨by decide, by decide⟩ hl.1 (by first | exact Nat.le_of_ble_eq_true rfl | simp [rf_cat, cat_i, cat_l, cat_r]) rfl dJx4a65c_remove_915e3_21 (fun H locs w1 => ?_)
  have hk6 := kd_keep w (mo_Jx4a65c_fastRemove_b59b0 N t0 h (some a1) x1 e5) hk0 (by decide)
  have w := w1
  exact sb_Jx4a65c_remove_915e3_24 C hz2 N t0 _ _ hJ hk6 w (lv_sub (l' := [(0, .ref t0), (3, va_rf (h.ar a1 x1.toNatClampNeg))]) hl [2, 0] rfl)
def B_Jx4a65c_remove_915e3_0 (N : Nat) (t0 : Nat) (h : Hp) (x1 : Int32) : Option (Hp × Option Nat) := (J_J15_checkIndex_7cf53 N h x1 (h.fi 202 t0)).bind (fun z => B_Jx4a65c_remove_915e3_8 N t0 z.1 x1 z.2)
theorem mb_Jx4a65c_remove_915e3_0 (N : Nat) (t0 : Nat) (h : Hp) (x1 : Int32) (hJ : B_Jx4a65c_remove_915e3_0 N t0 h x1 = some (hz, rz)) : Mo h hz := by
  unfold B_Jx4a65c_remove_915e3_0 at hJ
  obtain ⟨⟨h7, r8⟩, e9, hJ⟩ := ob_some hJ
  exact (mo_J15_checkIndex_7cf53 N h x1 (h.fi 202 t0) e9).tr (mb_Jx4a65c_remove_915e3_8 N t0 _ _ _ hJ)
set_option maxRecDepth 100000 in
set_option maxHeartbeats 4000000 in
theorem sb_Jx4a65c_remove_915e3_0 (C : Cx p s m args meth c cJx4a65c_remove_915e3 4 (some (.object "java/lang/Object")) RJx4a65c D cs A h0.se) (hz2 : hz.nx ≤ h0.nx + mc ∧ hz.su ≤ h0.su + ms) (N : Nat) (t0 : Nat) (h : Hp) (x1 : Int32) (hJ : B_Jx4a65c_remove_915e3_0 N t0 h x1 = some (hz, rz)) (hk0 : h.kd t0 = 2) {H : Heap} {locs : List Loc} {cells slots : Nat} (w : Wo D cs A s h0 h H locs cells slots) {ls : Array Slot} (hl : lv_has ls 4 [(0, .ref t0), (1, .int x1)]) : W p l e { frames := 2, cells := mc, slots := ms, locals := 90 } s m args below meth c H locs cells slots (MQ below (Zq D cs A hz rz) args s mc ms A) (F0 m 0 ls []) := by
  obtain ⟨hx, hb, hml, hown, hts, -⟩ := id C
  unfold B_Jx4a65c_remove_915e3_0 at hJ
  refine lv_iload_n hx hb dJx4a65c_remove_915e3_0 rfl (lv_at hl 1 rfl) ?_
  refine lv_aload_n hx hb dJx4a65c_remove_915e3_1 rfl (lv_at hl 0 rfl) ?_
  refine fg_202 C w hk0 tw_1_64 dJx4a65c_remove_915e3_2 ?_
  obtain ⟨⟨h7, r8⟩, e9, hJ⟩ := ob_some hJ
  refine jc_Si (As := [.int x1, .int (h.fi 202 t0)]) C w (cc_J15_checkIndex_7cf53 N h x1 (h.fi 202 t0) e9) (mo_J15_checkIndex_7cf53 N h x1 (h.fi 202 t0) e9) (mb_Jx4a65c_remove_915e3_8 N t0 _ _ _ hJ) hz2 ⟨tw_2_68, tw_2_66, tw_2_67, tw_1_11⟩ cd_J15_checkIndex_7cf53 ⟨by decide, by decide⟩ hl.1 (by first | exact Nat.le_of_ble_eq_true rfl | simp [rf_cat, cat_i, cat_l, cat_r]) rfl dJx4a65c_remove_915e3_5 (fun H locs w1 => ?_)
  have hk10 := kd_keep w (mo_J15_checkIndex_7cf53 N h x1 (h.fi 202 t0) e9) hk0 (by decide)
  have w := w1
  exact sb_Jx4a65c_remove_915e3_8 C hz2 N t0 _ _ _ hJ hk10 w hl
def J_Jx4a65c_remove_915e3 (N : Nat) (t0 : Nat) (h : Hp) (x1 : Int32) : Option (Hp × Option Nat) := B_Jx4a65c_remove_915e3_0 N t0 h x1
theorem mo_Jx4a65c_remove_915e3 (N : Nat) (t0 : Nat) (h : Hp) (x1 : Int32) (hJ : J_Jx4a65c_remove_915e3 N t0 h x1 = some (hz, rz)) : Mo h hz := mb_Jx4a65c_remove_915e3_0 N t0 h x1 hJ
theorem cd_Jx4a65c_remove_915e3 : Cd yJx4a65c_remove_915e3 1 := ⟨by decide +kernel, by decide +kernel, by decide +kernel⟩
theorem cc_Jx4a65c_remove_915e3 (N : Nat) (t0 : Nat) (h : Hp) (x1 : Int32) (hk0 : h.kd t0 = 2) (hJ : J_Jx4a65c_remove_915e3 N t0 h x1 = some (hz, rz)) : Cq l yJx4a65c_remove_915e3 cJx4a65c_remove_915e3 4 (some (.object "java/lang/Object")) 2 90 D cs h hz [.ref t0, .int x1] rz := by
  intro mc ms g1 g2
  refine je_anyF (by decide) (by simp [lg_sl, rf_cat, cat_i, cat_l, cat_r]) ?_
  intro p e s m args below meth c C hin2 w ls hl
  have hl : lv_has ls 4 [(0, .ref t0), (1, .int x1)] := hl
  exact sb_Jx4a65c_remove_915e3_0 C ⟨g1, g2⟩ N t0 h x1 hJ hk0 w hl
end G_Jx4a65c_remove_915e3
section G_Jx4a65c_clear_da8c8
variable {p : Program} {l : Launch} {e : Env} {s : State} {m : MethodId} {args : Array Value} {below : List Frame} {meth : Method} {c : Code} {D : va_G} {cs : C4} {A : Nat → Prop} {h0 hz : Hp} {mc ms : Nat}
def B_Jx4a65c_clear_da8c8_27 (N : Nat) (k27 : Hp → (Option Nat) → Int32 → Int32 → Option (Hp × Unit)) (t0 : Nat) (h : Hp) (x1 : Option Nat) (x2 : Int32) (x3 : Int32) : Option (Hp × Unit) := if x2 ≤ x3 then (some (h, ())) else (dr h 23 x1 (fun a2 => ck (¬ (x3 < 0 ∨ h.al a2 ≤ x3.toNatClampNeg)) (ck (okV h none = true) (k27 (h.sar a2 x3.toNatClampNeg none) (some a2) x2 (x3 + (1 : Int32))))))
theorem mb_Jx4a65c_clear_da8c8_27 (N : Nat) (k27 : Hp → (Option Nat) → Int32 → Int32 → Option (Hp × Unit)) (t0 : Nat) (h : Hp) (x1 : Option Nat) (x2 : Int32) (x3 : Int32) (m27 : ∀ (h : Hp) (x1 : Option Nat) (x2 : Int32) (x3 : Int32), k27 h x1 x2 x3 = some (hz, ()) → Mo h hz) (hJ : B_Jx4a65c_clear_da8c8_27 N k27 t0 h x1 x2 x3 = some (hz, ())) : Mo h hz := by
  unfold B_Jx4a65c_clear_da8c8_27 at hJ
  by_cases c1 : x2 ≤ x3
  · have hJ := it_pos c1 hJ
    obtain ⟨rfl, -⟩ := rs2 hJ
    exact ⟨fun _ _ => rfl, Nat.le_refl _, Nat.le_refl _, rfl, fun _ _ => rfl⟩
  · have hJ := it_neg c1 hJ
    obtain ⟨a2, ea2, -, hJ⟩ := dr_some hJ
    obtain ⟨-, hJ⟩ := ck_some hJ
    obtain ⟨-, hJ⟩ := ck_some hJ
    exact (Mo.tr (show Mo h (h.sar a2 x3.toNatClampNeg none) from ⟨fun _ _ => rfl, Nat.le_refl _, Nat.le_refl _, rfl, fun _ _ => rfl⟩) (m27 _ _ _ _ hJ))
set_option maxRecDepth 100000 in
set_option maxHeartbeats 4000000 in
theorem sb_Jx4a65c_clear_da8c8_27 (C : Cx p s m args meth c cJx4a65c_clear_da8c8 4 none RJx4a65c D cs A h0.se) (hz2 : hz.nx ≤ h0.nx + mc ∧ hz.su ≤ h0.su + ms) (N : Nat) (k27 : Hp → (Option Nat) → Int32 → Int32 → Option (Hp × Unit)) (t0 : Nat) (m27 : ∀ (h : Hp) (x1 : Option Nat) (x2 : Int32) (x3 : Int32), k27 h x1 x2 x3 = some (hz, ()) → Mo h hz) (i27 : ∀ (h : Hp) (x1 : Option Nat) (x2 : Int32) (x3 : Int32) (H : Heap) (locs : List Loc) (cells slots : Nat) (ls : Array Slot), k27 h x1 x2 x3 = some (hz, ()) → h.kd t0 = 2 → Wo D cs A s h0 h H locs cells slots → lv_has ls 4 [(0, .ref t0), (1, va_rf x1), (2, .int x2), (3, .int x3)] → W p l e { frames := 0, cells := mc, slots := ms, locals := 0 } s m args below meth c H locs cells slots (MQ below (Zv D cs A hz) args s mc ms A) (F0 m 27 ls [])) (h : Hp) (x1 : Option Nat) (x2 : Int32) (x3 : Int32) (hJ : B_Jx4a65c_clear_da8c8_27 N k27 t0 h x1 x2 x3 = some (hz, ())) (hk0 : h.kd t0 = 2) {H : Heap} {locs : List Loc} {cells slots : Nat} (w : Wo D cs A s h0 h H locs cells slots) {ls : Array Slot} (hl : lv_has ls 4 [(0, .ref t0), (1, va_rf x1), (2, .int x2), (3, .int x3)]) : W p l e { frames := 0, cells := mc, slots := ms, locals := 0 } s m args below meth c H locs cells slots (MQ below (Zv D cs A hz) args s mc ms A) (F0 m 27 ls []) := by
  obtain ⟨hx, hb, hml, hown, hts, -⟩ := id C
  unfold B_Jx4a65c_clear_da8c8_27 at hJ
  refine lv_iload_n hx hb dJx4a65c_clear_da8c8_27 rfl (lv_at hl 3 rfl) ?_
  refine lv_iload_n hx hb dJx4a65c_clear_da8c8_28 rfl (lv_at hl 2 rfl) ?_
  refine lv_icmp_ge (tgt := 42) hx hb dJx4a65c_clear_da8c8_29 (by decide) (fun c1 => ?_) (fun c1 => ?_)
  · have hJ := it_pos c1 hJ
    obtain ⟨rfl, -⟩ := rs2 hJ
    exact jr_vret C w hz2 dJx4a65c_clear_da8c8_42
  · have hJ := it_neg c1 hJ
    refine jv_aload_n hx hb dJx4a65c_clear_da8c8_32 rfl (lv_at hl 1 rfl) ?_
    refine lv_iload_n hx hb dJx4a65c_clear_da8c8_33 rfl (lv_at hl 3 rfl) ?_
    refine lv_null hx hb dJx4a65c_clear_da8c8_34 ?_
    change W _ _ _ _ _ _ _ _ _ _ _ _ _ _ _ (F0 m 35 ls [va_rf none, .int x3, va_rf x1])
    obtain ⟨a2, ea2, hka2, hJ⟩ := dr_some hJ
    rw [ea2] at hl
    rw [ea2]
    obtain ⟨hi3, hJ⟩ := ck_some hJ
    obtain ⟨hv4, hJ⟩ := ck_some hJ
    refine jr_aastV (x := none) C w hka2 hi3 hv4 dJx4a65c_clear_da8c8_35 (fun H locs w => ?_)
    refine lv_iinc (v := x3 + (1 : Int32)) (lv' := [(3, .int (x3 + (1 : Int32))), (0, .ref t0), (1, .ref a2), (2, .int x2)]) hx hb dJx4a65c_clear_da8c8_36 hl (k := 3) rfl rfl (by decide) rfl (fun ls hl => ?_)
    refine lv_goto (tgt := 27) hx hb dJx4a65c_clear_da8c8_39 (by decide) ?_
    exact i27 _ _ _ _ _ _ _ _ _ hJ hk0 w (lv_sub (l' := [(0, .ref t0), (1, .ref a2), (2, .int x2), (3, .int (x3 + (1 : Int32)))]) hl [1, 2, 3, 0] rfl)
def L_Jx4a65c_clear_da8c8_27 (N : Nat) (t0 : Nat) : Nat → Hp → (Option Nat) → Int32 → Int32 → Option (Hp × Unit)
  | 0 => fun _ _ _ _ => none
  | n + 1 => fun h x1 x2 x3 => B_Jx4a65c_clear_da8c8_27 N (L_Jx4a65c_clear_da8c8_27 N t0 n) t0 h x1 x2 x3
theorem ml_Jx4a65c_clear_da8c8_27 (N : Nat) (t0 : Nat) : ∀ (n : Nat) (h : Hp) (x1 : Option Nat) (x2 : Int32) (x3 : Int32), L_Jx4a65c_clear_da8c8_27 N t0 n h x1 x2 x3 = some (hz, ()) → Mo h hz := by
  intro n
  induction n with
  | zero => intro h x1 x2 x3 hJ; cases hJ
  | succ n ih => intro h x1 x2 x3 hJ; exact mb_Jx4a65c_clear_da8c8_27 N (L_Jx4a65c_clear_da8c8_27 N t0 n) t0 h x1 x2 x3 ih hJ
theorem sl_Jx4a65c_clear_da8c8_27 (C : Cx p s m args meth c cJx4a65c_clear_da8c8 4 none RJx4a65c D cs A h0.se) (hz2 : hz.nx ≤ h0.nx + mc ∧ hz.su ≤ h0.su + ms) (N : Nat) (t0 : Nat) : ∀ n : Nat, ∀ (h : Hp) (x1 : Option Nat) (x2 : Int32) (x3 : Int32) (H : Heap) (locs : List Loc) (cells slots : Nat) (ls : Array Slot), L_Jx4a65c_clear_da8c8_27 N t0 n h x1 x2 x3 = some (hz, ()) → h.kd t0 = 2 → Wo D cs A s h0 h H locs cells slots → lv_has ls 4 [(0, .ref t0), (1, va_rf x1), (2, .int x2), (3, .int x3)] → W p l e { frames := 0, cells := mc, slots := ms, locals := 0 } s m args below meth c H locs cells slots (MQ below (Zv D cs A hz) args s mc ms A) (F0 m 27 ls []) := by
  intro n
  induction n with
  | zero => intro h x1 x2 x3 H locs cells slots ls hJ; cases hJ
  | succ n ih =>
    intro h x1 x2 x3 H locs cells slots ls hJ hk0 w hl
    exact sb_Jx4a65c_clear_da8c8_27 C hz2 N (L_Jx4a65c_clear_da8c8_27 N t0 n) t0 (ml_Jx4a65c_clear_da8c8_27 N t0 n) ih h x1 x2 x3 hJ hk0 w hl
def B_Jx4a65c_clear_da8c8_0 (N : Nat) (t0 : Nat) (h : Hp) : Option (Hp × Unit) := L_Jx4a65c_clear_da8c8_27 N t0 N ((h.sfi 200 t0 ((h.fi 200 t0) + (1 : Int32))).sfi 202 t0 (0 : Int32)) ((h.sfi 200 t0 ((h.fi 200 t0) + (1 : Int32))).fr 201 t0) ((h.sfi 200 t0 ((h.fi 200 t0) + (1 : Int32))).fi 202 t0) (0 : Int32)
theorem mb_Jx4a65c_clear_da8c8_0 (N : Nat) (t0 : Nat) (h : Hp) (hJ : B_Jx4a65c_clear_da8c8_0 N t0 h = some (hz, ())) : Mo h hz := by
  unfold B_Jx4a65c_clear_da8c8_0 at hJ
  exact (Mo.tr (show Mo h ((h.sfi 200 t0 ((h.fi 200 t0) + (1 : Int32))).sfi 202 t0 (0 : Int32)) from ⟨fun _ _ => rfl, Nat.le_refl _, Nat.le_refl _, rfl, fun _ _ => rfl⟩) (ml_Jx4a65c_clear_da8c8_27 N t0 N _ _ _ _ hJ))
set_option maxRecDepth 100000 in
set_option maxHeartbeats 4000000 in
theorem sb_Jx4a65c_clear_da8c8_0 (C : Cx p s m args meth c cJx4a65c_clear_da8c8 4 none RJx4a65c D cs A h0.se) (hz2 : hz.nx ≤ h0.nx + mc ∧ hz.su ≤ h0.su + ms) (N : Nat) (t0 : Nat) (h : Hp) (hJ : B_Jx4a65c_clear_da8c8_0 N t0 h = some (hz, ())) (hk0 : h.kd t0 = 2) {H : Heap} {locs : List Loc} {cells slots : Nat} (w : Wo D cs A s h0 h H locs cells slots) {ls : Array Slot} (hl : lv_has ls 4 [(0, .ref t0)]) : W p l e { frames := 0, cells := mc, slots := ms, locals := 0 } s m args below meth c H locs cells slots (MQ below (Zv D cs A hz) args s mc ms A) (F0 m 0 ls []) := by
  obtain ⟨hx, hb, hml, hown, hts, -⟩ := id C
  unfold B_Jx4a65c_clear_da8c8_0 at hJ
  refine lv_aload_n hx hb dJx4a65c_clear_da8c8_0 rfl (lv_at hl 0 rfl) ?_
  refine lv_dup hx hb dJx4a65c_clear_da8c8_1 rfl ?_
  refine fg_200A C w hk0 tw_1_66 dJx4a65c_clear_da8c8_2 ?_
  refine lv_iconst (v := (1 : Int32)) hx hb dJx4a65c_clear_da8c8_5 (by decide) ?_
  refine lv_iadd hx hb dJx4a65c_clear_da8c8_6 ?_
  refine fp_200A (x := (h.fi 200 t0) + (1 : Int32)) C w hk0 tw_1_66 dJx4a65c_clear_da8c8_7 (fun H locs w => ?_)
  refine lv_aload_n hx hb dJx4a65c_clear_da8c8_10 rfl (lv_at hl 0 rfl) ?_
  refine fg_201 C w hk0 tw_1_63 dJx4a65c_clear_da8c8_11 ?_
  refine jv_astore_n (i := 1) (lv' := [(1, va_rf ((h.sfi 200 t0 ((h.fi 200 t0) + (1 : Int32))).fr 201 t0)), (0, .ref t0)]) hx hb dJx4a65c_clear_da8c8_14 rfl hl (by decide) rfl (fun ls hl => ?_)
  refine lv_aload_n hx hb dJx4a65c_clear_da8c8_15 rfl (lv_at hl 1 rfl) ?_
  refine fg_202 C w hk0 tw_1_64 dJx4a65c_clear_da8c8_16 ?_
  refine lv_istore_n (i := 2) (lv' := [(2, .int ((h.sfi 200 t0 ((h.fi 200 t0) + (1 : Int32))).fi 202 t0)), (1, va_rf ((h.sfi 200 t0 ((h.fi 200 t0) + (1 : Int32))).fr 201 t0)), (0, .ref t0)]) hx hb dJx4a65c_clear_da8c8_19 rfl hl (by decide) (by simp [List.filter, rf_cat, cat_i, cat_l, cat_r]) (fun ls hl => ?_)
  refine lv_aload_n hx hb dJx4a65c_clear_da8c8_20 rfl (lv_at hl 2 rfl) ?_
  refine lv_iconst (v := (0 : Int32)) hx hb dJx4a65c_clear_da8c8_21 (by decide) ?_
  refine lv_dup_x1 hx hb dJx4a65c_clear_da8c8_22 rfl rfl ?_
  refine fp_202 (x := (0 : Int32)) C w hk0 tw_1_64 dJx4a65c_clear_da8c8_23 (fun H locs w => ?_)
  refine lv_istore_n (i := 3) (lv' := [(3, .int (0 : Int32)), (2, .int ((h.sfi 200 t0 ((h.fi 200 t0) + (1 : Int32))).fi 202 t0)), (1, va_rf ((h.sfi 200 t0 ((h.fi 200 t0) + (1 : Int32))).fr 201 t0)), (0, .ref t0)]) hx hb dJx4a65c_clear_da8c8_26 rfl hl (by decide) rfl (fun ls hl => ?_)
  exact sl_Jx4a65c_clear_da8c8_27 C hz2 N t0 N _ _ _ _ _ _ _ _ _ hJ hk0 w (lv_sub (l' := [(0, .ref t0), (1, va_rf ((h.sfi 200 t0 ((h.fi 200 t0) + (1 : Int32))).fr 201 t0)), (2, .int ((h.sfi 200 t0 ((h.fi 200 t0) + (1 : Int32))).fi 202 t0)), (3, .int (0 : Int32))]) hl [3, 2, 1, 0] rfl)
def J_Jx4a65c_clear_da8c8 (N : Nat) (t0 : Nat) (h : Hp) : Option (Hp × Unit) := B_Jx4a65c_clear_da8c8_0 N t0 h
theorem mo_Jx4a65c_clear_da8c8 (N : Nat) (t0 : Nat) (h : Hp) (hJ : J_Jx4a65c_clear_da8c8 N t0 h = some (hz, ())) : Mo h hz := mb_Jx4a65c_clear_da8c8_0 N t0 h hJ
theorem cd_Jx4a65c_clear_da8c8 : Cd yJx4a65c_clear_da8c8 0 := ⟨by decide +kernel, by decide +kernel, by decide +kernel⟩
theorem cc_Jx4a65c_clear_da8c8 (N : Nat) (t0 : Nat) (h : Hp) (hk0 : h.kd t0 = 2) (hJ : J_Jx4a65c_clear_da8c8 N t0 h = some (hz, ())) : Cv l yJx4a65c_clear_da8c8 cJx4a65c_clear_da8c8 4 none 0 0 D cs h hz [.ref t0] := by
  intro mc ms g1 g2
  refine je_anyF (by decide) (by simp [lg_sl, rf_cat, cat_i, cat_l, cat_r]) ?_
  intro p e s m args below meth c C hin2 w ls hl
  have hl : lv_has ls 4 [(0, .ref t0)] := hl
  exact sb_Jx4a65c_clear_da8c8_0 C ⟨g1, g2⟩ N t0 h hJ hk0 w hl
end G_Jx4a65c_clear_da8c8
section G_J7_copyOf_59c91
variable {p : Program} {l : Launch} {e : Env} {s : State} {m : MethodId} {args : Array Value} {below : List Frame} {meth : Method} {c : Code} {D : va_G} {cs : C4} {A : Nat → Prop} {h0 hz : Hp} {mc ms : Nat} {rz : Option Nat}
def B_J7_copyOf_59c91_28 (N : Nat) (h : Hp) (x2 : Option Nat) (y0 : Option Nat) (y1 : Int32) (y2 : Option Nat) (y3 : Int32) (y4 : Int32) : Option (Hp × Option Nat) := dr h 20 y0 (fun a1 => dr h 20 y2 (fun a2 => ck (¬ y1 < 0 ∧ ¬ y3 < 0 ∧ ¬ y4 < 0 ∧ y1.toNatClampNeg + y4.toNatClampNeg ≤ h.al a1 ∧ y3.toNatClampNeg + y4.toNatClampNeg ≤ h.al a2) (some (h.tai a2 (va_cpy (h.ai a1) (h.ai a2) y1.toNatClampNeg y3.toNatClampNeg y4.toNatClampNeg), x2))))
theorem mb_J7_copyOf_59c91_28 (N : Nat) (h : Hp) (x2 : Option Nat) (y0 : Option Nat) (y1 : Int32) (y2 : Option Nat) (y3 : Int32) (y4 : Int32) (hJ : B_J7_copyOf_59c91_28 N h x2 y0 y1 y2 y3 y4 = some (hz, rz)) : Mo h hz := by
  unfold B_J7_copyOf_59c91_28 at hJ
  obtain ⟨a1, ea1, -, hJ⟩ := dr_some hJ
  obtain ⟨a2, ea2, -, hJ⟩ := dr_some hJ
  obtain ⟨-, hJ⟩ := ck_some hJ
  obtain ⟨rfl, -⟩ := rs2 hJ
  exact ⟨fun _ _ => rfl, Nat.le_refl _, Nat.le_refl _, rfl, fun _ _ => rfl⟩
set_option maxRecDepth 100000 in
set_option maxHeartbeats 4000000 in
theorem sb_J7_copyOf_59c91_28 (C : Cx p s m args meth c cJ7_copyOf_59c91 3 (some (.array .int)) RJ7 D cs A h0.se) (hz2 : hz.nx ≤ h0.nx + mc ∧ hz.su ≤ h0.su + ms) (N : Nat) (h : Hp) (x2 : Option Nat) (y0 : Option Nat) (y1 : Int32) (y2 : Option Nat) (y3 : Int32) (y4 : Int32) (hJ : B_J7_copyOf_59c91_28 N h x2 y0 y1 y2 y3 y4 = some (hz, rz)) {H : Heap} {locs : List Loc} {cells slots : Nat} (w : Wo D cs A s h0 h H locs cells slots) {ls : Array Slot} (hl : lv_has ls 3 [(2, va_rf x2)]) : W p l e { frames := 1, cells := mc, slots := ms, locals := 60 } s m args below meth c H locs cells slots (MQ below (Zq D cs A hz rz) args s mc ms A) (F0 m 28 ls [.int y4, .int y3, va_rf y2, .int y1, va_rf y0]) := by
  obtain ⟨hx, hb, hml, hown, hts, -⟩ := id C
  unfold B_J7_copyOf_59c91_28 at hJ
  obtain ⟨a1, ea1, hka1, hJ⟩ := dr_some hJ
  rw [ea1]
  obtain ⟨a2, ea2, hka2, hJ⟩ := dr_some hJ
  rw [ea2]
  obtain ⟨hc3, hJ⟩ := ck_some hJ
  refine jr_cpi C w hl.1 tw_2_145 hka1 hka2 hc3 (Nat.le_of_ble_eq_true rfl) (by first | exact Nat.le_of_ble_eq_true rfl | (simp [rf_cat, cat_i, cat_l, cat_r]; done) | (simp [rf_cat, cat_i, cat_l, cat_r]; decide)) dJ7_copyOf_59c91_28 (fun H locs w => ?_)
  refine jv_aload_n hx hb dJ7_copyOf_59c91_31 rfl (lv_at hl 0 rfl) ?_
  obtain ⟨rfl, rfl⟩ := rs2 hJ
  exact jr_aret (r := x2) C w (Or.inr ⟨_, rfl⟩) hz2 dJ7_copyOf_59c91_32
def B_J7_copyOf_59c91_17 (N : Nat) (h : Hp) (x0 : Option Nat) (x1 : Int32) (y0 : Option Nat) : Option (Hp × Option Nat) := dr h 20 x0 (fun a4 => B_J7_copyOf_59c91_28 N h y0 (some a4) (0 : Int32) y0 (0 : Int32) (if x1 < (nI (h.al a4)) then x1 else (nI (h.al a4))))
theorem mb_J7_copyOf_59c91_17 (N : Nat) (h : Hp) (x0 : Option Nat) (x1 : Int32) (y0 : Option Nat) (hJ : B_J7_copyOf_59c91_17 N h x0 x1 y0 = some (hz, rz)) : Mo h hz := by
  unfold B_J7_copyOf_59c91_17 at hJ
  obtain ⟨a4, ea4, -, hJ⟩ := dr_some hJ
  exact mb_J7_copyOf_59c91_28 N _ _ _ _ _ _ _ hJ
set_option maxRecDepth 100000 in
set_option maxHeartbeats 4000000 in
theorem sb_J7_copyOf_59c91_17 (C : Cx p s m args meth c cJ7_copyOf_59c91 3 (some (.array .int)) RJ7 D cs A h0.se) (hz2 : hz.nx ≤ h0.nx + mc ∧ hz.su ≤ h0.su + ms) (N : Nat) (h : Hp) (x0 : Option Nat) (x1 : Int32) (y0 : Option Nat) (hJ : B_J7_copyOf_59c91_17 N h x0 x1 y0 = some (hz, rz)) {H : Heap} {locs : List Loc} {cells slots : Nat} (w : Wo D cs A s h0 h H locs cells slots) {ls : Array Slot} (hl : lv_has ls 3 [(0, va_rf x0), (1, .int x1)]) : W p l e { frames := 1, cells := mc, slots := ms, locals := 60 } s m args below meth c H locs cells slots (MQ below (Zq D cs A hz rz) args s mc ms A) (F0 m 17 ls [va_rf y0]) := by
  obtain ⟨hx, hb, hml, hown, hts, -⟩ := id C
  unfold B_J7_copyOf_59c91_17 at hJ
  refine jv_astore_n (i := 2) (lv' := [(2, va_rf y0), (0, va_rf x0), (1, .int x1)]) hx hb dJ7_copyOf_59c91_17 rfl hl (by decide) rfl (fun ls hl => ?_)
  refine jv_aload_n hx hb dJ7_copyOf_59c91_18 rfl (lv_at hl 1 rfl) ?_
  refine lv_iconst (v := (0 : Int32)) hx hb dJ7_copyOf_59c91_19 (by decide) ?_
  refine jv_aload_n hx hb dJ7_copyOf_59c91_20 rfl (lv_at hl 0 rfl) ?_
  refine lv_iconst (v := (0 : Int32)) hx hb dJ7_copyOf_59c91_21 (by decide) ?_
  refine jv_aload_n hx hb dJ7_copyOf_59c91_22 rfl (lv_at hl 1 rfl) ?_
  obtain ⟨a4, ea4, hka4, hJ⟩ := dr_some hJ
  rw [ea4] at hl
  rw [ea4]
  refine jr_alen C w hka4 (by decide) dJ7_copyOf_59c91_23 ?_
  refine lv_iload_n hx hb dJ7_copyOf_59c91_24 rfl (lv_at hl 2 rfl) ?_
  refine va_mmin hx hb (hml.trans hl.1.symm) hown (hts _ tw_2_142) (hts _ tw_2_143) (hts _ tw_1_14) (hts _ tw_min) (Nat.le_of_ble_eq_true rfl) (by first | exact Nat.le_of_ble_eq_true rfl | simp [rf_cat, cat_i, cat_l, cat_r]) (rm_now w (mb_J7_copyOf_59c91_28 N _ _ _ _ _ _ _ hJ) hz2).1 (rm_now w (mb_J7_copyOf_59c91_28 N _ _ _ _ _ _ _ hJ) hz2).2 dJ7_copyOf_59c91_25 ?_
  exact sb_J7_copyOf_59c91_28 C hz2 N _ _ _ _ _ _ _ hJ w (lv_sub (l' := [(2, va_rf y0)]) hl [0] rfl)
def B_J7_copyOf_59c91_0 (N : Nat) (h : Hp) (x0 : Option Nat) (x1 : Int32) : Option (Hp × Option Nat) := dr h 20 x0 (fun a5 => if x1 = (nI (h.al a5)) then (none) else (ck (¬ x1 < 0 ∧ x1.toNatClampNeg ≤ 67108864) (B_J7_copyOf_59c91_17 N (h.new 20 x1.toNatClampNeg x1.toNatClampNeg) (some a5) x1 (some h.nx))))
theorem mb_J7_copyOf_59c91_0 (N : Nat) (h : Hp) (x0 : Option Nat) (x1 : Int32) (hJ : B_J7_copyOf_59c91_0 N h x0 x1 = some (hz, rz)) : Mo h hz := by
  unfold B_J7_copyOf_59c91_0 at hJ
  obtain ⟨a5, ea5, -, hJ⟩ := dr_some hJ
  by_cases c6 : x1 = (nI (h.al a5))
  · have hJ := it_pos c6 hJ
    cases hJ
  · have hJ := it_neg c6 hJ
    obtain ⟨-, hJ⟩ := ck_some hJ
    exact (Mo.new h _ _ _).tr (mb_J7_copyOf_59c91_17 N _ _ _ _ hJ)
set_option maxRecDepth 100000 in
set_option maxHeartbeats 4000000 in
theorem sb_J7_copyOf_59c91_0 (C : Cx p s m args meth c cJ7_copyOf_59c91 3 (some (.array .int)) RJ7 D cs A h0.se) (hz2 : hz.nx ≤ h0.nx + mc ∧ hz.su ≤ h0.su + ms) (N : Nat) (h : Hp) (x0 : Option Nat) (x1 : Int32) (hJ : B_J7_copyOf_59c91_0 N h x0 x1 = some (hz, rz)) {H : Heap} {locs : List Loc} {cells slots : Nat} (w : Wo D cs A s h0 h H locs cells slots) {ls : Array Slot} (hl : lv_has ls 3 [(0, va_rf x0), (1, .int x1)]) : W p l e { frames := 1, cells := mc, slots := ms, locals := 60 } s m args below meth c H locs cells slots (MQ below (Zq D cs A hz rz) args s mc ms A) (F0 m 0 ls []) := by
  obtain ⟨hx, hb, hml, hown, hts, -⟩ := id C
  unfold B_J7_copyOf_59c91_0 at hJ
  refine lv_iload_n hx hb dJ7_copyOf_59c91_0 rfl (lv_at hl 1 rfl) ?_
  refine jv_aload_n hx hb dJ7_copyOf_59c91_1 rfl (lv_at hl 0 rfl) ?_
  obtain ⟨a5, ea5, hka5, hJ⟩ := dr_some hJ
  rw [ea5] at hl
  rw [ea5]
  refine jr_alen C w hka5 (by decide) dJ7_copyOf_59c91_2 ?_
  refine lv_icmp_ne (tgt := 14) hx hb dJ7_copyOf_59c91_3 (by decide) (fun c6 => ?_) (fun c6 => ?_)
  · have hJ := it_neg c6 hJ
    refine lv_iload_n hx hb dJ7_copyOf_59c91_14 rfl (lv_at hl 1 rfl) ?_
    obtain ⟨hn7, hJ⟩ := ck_some hJ
    refine fa_20 C w hn7 (mb_J7_copyOf_59c91_17 N _ _ _ _ hJ) hz2 dJ7_copyOf_59c91_15 (fun H w => ?_)
    exact sb_J7_copyOf_59c91_17 C hz2 N _ _ _ _ hJ w hl
  · have hJ := it_pos c6 hJ
    refine lv_aload_n hx hb dJ7_copyOf_59c91_6 rfl (lv_at hl 0 rfl) ?_
    cases hJ
def J_J7_copyOf_59c91 (N : Nat) (h : Hp) (x0 : Option Nat) (x1 : Int32) : Option (Hp × Option Nat) := B_J7_copyOf_59c91_0 N h x0 x1
theorem mo_J7_copyOf_59c91 (N : Nat) (h : Hp) (x0 : Option Nat) (x1 : Int32) (hJ : J_J7_copyOf_59c91 N h x0 x1 = some (hz, rz)) : Mo h hz := mb_J7_copyOf_59c91_0 N h x0 x1 hJ
theorem cd_J7_copyOf_59c91 : Cd yJ7_copyOf_59c91 2 := ⟨by decide +kernel, by decide +kernel, by decide +kernel⟩
theorem cc_J7_copyOf_59c91 (N : Nat) (h : Hp) (x0 : Option Nat) (x1 : Int32) (hJ : J_J7_copyOf_59c91 N h x0 x1 = some (hz, rz)) : Cq l yJ7_copyOf_59c91 cJ7_copyOf_59c91 3 (some (.array .int)) 1 60 D cs h hz [va_rf x0, .int x1] rz := by
  intro mc ms g1 g2
  refine je_anyF (by decide) (by simp [lg_sl, rf_cat, cat_i, cat_l, cat_r]) ?_
  intro p e s m args below meth c C hin2 w ls hl
  have hl : lv_has ls 3 [(0, va_rf x0), (1, .int x1)] := by simpa [lv_args, rf_cat, cat_i, cat_l, cat_r] using hl
  exact sb_J7_copyOf_59c91_0 C ⟨g1, g2⟩ N h x0 x1 hJ w hl
end G_J7_copyOf_59c91
