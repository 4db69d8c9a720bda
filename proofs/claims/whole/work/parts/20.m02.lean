section G_X10_abort
variable {p : Program} {l : Launch} {e : Env} {s : State} {m : MethodId} {args : Array Value} {below : List Frame} {meth : Method} {c : Code} {D : va_G} {cs : C4} {A : Nat → Prop} {h0 hz : Hp} {mc ms : Nat}
def B_X10_abort_25 (N : Nat) (t0 : Nat) (h : Hp) : Option (Hp × Unit) := some (h, ())
theorem mb_X10_abort_25 (N : Nat) (t0 : Nat) (h : Hp) (hJ : B_X10_abort_25 N t0 h = some (hz, ())) : Mo h hz := by
  unfold B_X10_abort_25 at hJ
  obtain ⟨rfl, -⟩ := rs2 hJ
  exact ⟨fun _ _ => rfl, Nat.le_refl _, Nat.le_refl _, rfl, fun _ _ => rfl⟩
set_option maxRecDepth 100000 in
set_option maxHeartbeats 4000000 in
theorem sb_X10_abort_25 (C : Cx p s m args meth c cX10_abort 2 none RX10 D cs A h0.se) (hz2 : hz.nx ≤ h0.nx + mc ∧ hz.su ≤ h0.su + ms) (N : Nat) (t0 : Nat) (h : Hp) (hJ : B_X10_abort_25 N t0 h = some (hz, ())) (hk0 : h.kd t0 = 13) {H : Heap} {locs : List Loc} {cells slots : Nat} (w : Wo D cs A s h0 h H locs cells slots) {ls : Array Slot} (hl : lv_has ls 2 [(0, .ref t0)]) : W p l e { frames := 6, cells := mc, slots := ms, locals := 180 } s m args below meth c H locs cells slots (MQ below (Zv D cs A hz) args s mc ms A) (F0 m 25 ls []) := by
  obtain ⟨hx, hb, hml, hown, hts, -⟩ := id C
  unfold B_X10_abort_25 at hJ
  obtain ⟨rfl, -⟩ := rs2 hJ
  exact jr_vret C w hz2 dX10_abort_25
def B_X10_abort_15 (N : Nat) (t0 : Nat) (h : Hp) (x1 : Int32) (y0 : Int32) : Option (Hp × Unit) := if y0 = 0 then ((J_X10_ends N t0 h x1 (3 : Int32)).bind (fun z => B_X10_abort_25 N t0 z.1)) else (some (h, ()))
theorem mb_X10_abort_15 (N : Nat) (t0 : Nat) (h : Hp) (x1 : Int32) (y0 : Int32) (hJ : B_X10_abort_15 N t0 h x1 y0 = some (hz, ())) : Mo h hz := by
  unfold B_X10_abort_15 at hJ
  by_cases c1 : y0 = 0
  · have hJ := it_pos c1 hJ
    obtain ⟨⟨h2, r3⟩, e4, hJ⟩ := ob_some hJ
    exact (mo_X10_ends N t0 h x1 (3 : Int32) e4).tr (mb_X10_abort_25 N t0 _ hJ)
  · have hJ := it_neg c1 hJ
    obtain ⟨rfl, -⟩ := rs2 hJ
    exact ⟨fun _ _ => rfl, Nat.le_refl _, Nat.le_refl _, rfl, fun _ _ => rfl⟩
set_option maxRecDepth 100000 in
set_option maxHeartbeats 4000000 in
theorem sb_X10_abort_15 (C : Cx p s m args meth c cX10_abort 2 none RX10 D cs A h0.se) (hz2 : hz.nx ≤ h0.nx + mc ∧ hz.su ≤ h0.su + ms) (N : Nat) (t0 : Nat) (h : Hp) (x1 : Int32) (y0 : Int32) (hJ : B_X10_abort_15 N t0 h x1 y0 = some (hz, ())) (hk0 : h.kd t0 = 13) {H : Heap} {locs : List Loc} {cells slots : Nat} (w : Wo D cs A s h0 h H locs cells slots) {ls : Array Slot} (hl : lv_has ls 2 [(0, .ref t0), (1, .int x1)]) : W p l e { frames := 6, cells := mc, slots := ms, locals := 180 } s m args below meth c H locs cells slots (MQ below (Zv D cs A hz) args s mc ms A) (F0 m 15 ls [.int y0]) := by
  obtain ⟨hx, hb, hml, hown, hts, -⟩ := id C
  unfold B_X10_abort_15 at hJ
  refine lv_if_eq (tgt := 19) hx hb dX10_abort_15 (by decide) (fun c1 => ?_) (fun c1 => ?_)
  · have hJ := it_pos c1 hJ
    refine lv_aload_n hx hb dX10_abort_19 rfl (lv_at hl 0 rfl) ?_
    refine lv_iload_n hx hb dX10_abort_20 rfl (lv_at hl 1 rfl) ?_
    refine lv_iconst (v := (3 : Int32)) hx hb dX10_abort_21 (by decide) ?_
    obtain ⟨⟨h2, r3⟩, e4, hJ⟩ := ob_some hJ
    refine jc_Vv (As := [.int x1, .int (3 : Int32)]) C w (cc_X10_ends N t0 h x1 (3 : Int32) hk0 e4) (mo_X10_ends N t0 h x1 (3 : Int32) e4) (mb_X10_abort_25 N t0 _ hJ) hz2 hk0 (by decide) rfl (fs := fs13 h t0) rfl rfl ⟨tw_7_190, tw_7_187, tw_7_189, ts_43, tw_1_7⟩ cd_X10_ends ⟨by decide, by decide⟩ hl.1 (by first | exact Nat.le_of_ble_eq_true rfl | simp [rf_cat, cat_i, cat_l, cat_r]) rfl dX10_abort_22 (fun H locs w1 => ?_)
    have hk5 := kd_keep w (mo_X10_ends N t0 h x1 (3 : Int32) e4) hk0 (by decide)
    have w := w1
    exact sb_X10_abort_25 C hz2 N t0 _ hJ hk5 w (lv_sub (l' := [(0, .ref t0)]) hl [0] rfl)
  · have hJ := it_neg c1 hJ
    obtain ⟨rfl, -⟩ := rs2 hJ
    exact jr_vret C w hz2 dX10_abort_18
def B_X10_abort_0 (N : Nat) (t0 : Nat) (h : Hp) (x1 : Int32) : Option (Hp × Unit) := (J_X10_isIdle N t0 (h.sgi 1313 t0 ((h.gi 1313 t0) + (1 : Int32))) x1).bind (fun z => B_X10_abort_15 N t0 z.1 x1 z.2)
theorem mb_X10_abort_0 (N : Nat) (t0 : Nat) (h : Hp) (x1 : Int32) (hJ : B_X10_abort_0 N t0 h x1 = some (hz, ())) : Mo h hz := by
  unfold B_X10_abort_0 at hJ
  obtain ⟨⟨h6, r7⟩, e8, hJ⟩ := ob_some hJ
  exact (Mo.tr (show Mo h (h.sgi 1313 t0 ((h.gi 1313 t0) + (1 : Int32))) from ⟨fun _ _ => rfl, Nat.le_refl _, Nat.le_refl _, rfl, fun _ _ => rfl⟩) ((mo_X10_isIdle N t0 (h.sgi 1313 t0 ((h.gi 1313 t0) + (1 : Int32))) x1 e8).tr (mb_X10_abort_15 N t0 _ _ _ hJ)))
set_option maxRecDepth 100000 in
set_option maxHeartbeats 4000000 in
theorem sb_X10_abort_0 (C : Cx p s m args meth c cX10_abort 2 none RX10 D cs A h0.se) (hz2 : hz.nx ≤ h0.nx + mc ∧ hz.su ≤ h0.su + ms) (N : Nat) (t0 : Nat) (h : Hp) (x1 : Int32) (hJ : B_X10_abort_0 N t0 h x1 = some (hz, ())) (hk0 : h.kd t0 = 13) {H : Heap} {locs : List Loc} {cells slots : Nat} (w : Wo D cs A s h0 h H locs cells slots) {ls : Array Slot} (hl : lv_has ls 2 [(0, .ref t0), (1, .int x1)]) : W p l e { frames := 6, cells := mc, slots := ms, locals := 180 } s m args below meth c H locs cells slots (MQ below (Zv D cs A hz) args s mc ms A) (F0 m 0 ls []) := by
  obtain ⟨hx, hb, hml, hown, hts, -⟩ := id C
  unfold B_X10_abort_0 at hJ
  refine lv_aload_n hx hb dX10_abort_0 rfl (lv_at hl 0 rfl) ?_
  refine lv_dup hx hb dX10_abort_1 rfl ?_
  refine fg_1313 C w hk0 tw_6_176 dX10_abort_2 ?_
  refine lv_iconst (v := (1 : Int32)) hx hb dX10_abort_5 (by decide) ?_
  refine lv_iadd hx hb dX10_abort_6 ?_
  refine fp_1313 (x := (h.gi 1313 t0) + (1 : Int32)) C w hk0 tw_6_176 dX10_abort_7 (fun H locs w => ?_)
  refine lv_aload_n hx hb dX10_abort_10 rfl (lv_at hl 0 rfl) ?_
  refine lv_iload_n hx hb dX10_abort_11 rfl (lv_at hl 1 rfl) ?_
  obtain ⟨⟨h6, r7⟩, e8, hJ⟩ := ob_some hJ
  refine jc_Vi (As := [.int x1]) C w (cc_X10_isIdle N t0 (h.sgi 1313 t0 ((h.gi 1313 t0) + (1 : Int32))) x1 hk0 e8) (mo_X10_isIdle N t0 (h.sgi 1313 t0 ((h.gi 1313 t0) + (1 : Int32))) x1 e8) (mb_X10_abort_15 N t0 _ _ _ hJ) hz2 hk0 (by decide) rfl (fs := fs13 (h.sgi 1313 t0 ((h.gi 1313 t0) + (1 : Int32))) t0) rfl rfl ⟨tw_7_174, tw_7_171, tw_7_173, ts_39, tw_1_7⟩ cd_X10_isIdle ⟨by decide, by decide⟩ hl.1 (by first | exact Nat.le_of_ble_eq_true rfl | simp [rf_cat, cat_i, cat_l, cat_r]) rfl dX10_abort_12 (fun H locs w1 => ?_)
  have hk9 := kd_keep w (mo_X10_isIdle N t0 (h.sgi 1313 t0 ((h.gi 1313 t0) + (1 : Int32))) x1 e8) hk0 (by decide)
  have w := w1
  exact sb_X10_abort_15 C hz2 N t0 _ _ _ hJ hk9 w hl
def J_X10_abort (N : Nat) (t0 : Nat) (h : Hp) (x1 : Int32) : Option (Hp × Unit) := B_X10_abort_0 N t0 h x1
theorem mo_X10_abort (N : Nat) (t0 : Nat) (h : Hp) (x1 : Int32) (hJ : J_X10_abort N t0 h x1 = some (hz, ())) : Mo h hz := mb_X10_abort_0 N t0 h x1 hJ
theorem cd_X10_abort : Cd yX10_abort 1 := ⟨by decide +kernel, by decide +kernel, by decide +kernel⟩
theorem cc_X10_abort (N : Nat) (t0 : Nat) (h : Hp) (x1 : Int32) (hk0 : h.kd t0 = 13) (hJ : J_X10_abort N t0 h x1 = some (hz, ())) : Cv l yX10_abort cX10_abort 2 none 6 180 D cs h hz [.ref t0, .int x1] := by
  intro mc ms g1 g2
  refine je_any (by decide) (by simp [lg_sl, rf_cat, cat_i, cat_l, cat_r]) ?_
  intro p e s m args below meth c C hin2 w ls hl
  have hl : lv_has ls 2 [(0, .ref t0), (1, .int x1)] := hl
  exact sb_X10_abort_0 C ⟨g1, g2⟩ N t0 h x1 hJ hk0 w hl
end G_X10_abort
section G_X10_found
variable {p : Program} {l : Launch} {e : Env} {s : State} {m : MethodId} {args : Array Value} {below : List Frame} {meth : Method} {c : Code} {D : va_G} {cs : C4} {A : Nat → Prop} {h0 hz : Hp} {mc ms : Nat}
def B_X10_found_24 (N : Nat) (t0 : Nat) (h : Hp) (x1 : Int32) (x3 : Int64) : Option (Hp × Unit) := dr h 31 (h.gr 1337 t0) (fun a1 => ck (¬ (x1 < 0 ∨ h.al a1 ≤ x1.toNatClampNeg)) (some (h.sbw a1 x1.toNatClampNeg x3, ())))
theorem mb_X10_found_24 (N : Nat) (t0 : Nat) (h : Hp) (x1 : Int32) (x3 : Int64) (hJ : B_X10_found_24 N t0 h x1 x3 = some (hz, ())) : Mo h hz := by
  unfold B_X10_found_24 at hJ
  obtain ⟨a1, ea1, -, hJ⟩ := dr_some hJ
  obtain ⟨-, hJ⟩ := ck_some hJ
  obtain ⟨rfl, -⟩ := rs2 hJ
  exact ⟨fun _ _ => rfl, Nat.le_refl _, Nat.le_refl _, rfl, fun _ _ => rfl⟩
set_option maxRecDepth 100000 in
set_option maxHeartbeats 4000000 in
theorem sb_X10_found_24 (C : Cx p s m args meth c cX10_found 5 none RX10 D cs A h0.se) (hz2 : hz.nx ≤ h0.nx + mc ∧ hz.su ≤ h0.su + ms) (N : Nat) (t0 : Nat) (h : Hp) (x1 : Int32) (x3 : Int64) (hJ : B_X10_found_24 N t0 h x1 x3 = some (hz, ())) (hk0 : h.kd t0 = 13) {H : Heap} {locs : List Loc} {cells slots : Nat} (w : Wo D cs A s h0 h H locs cells slots) {ls : Array Slot} (hl : lv_has ls 5 [(0, .ref t0), (1, .int x1), (3, .long x3)]) : W p l e { frames := 0, cells := mc, slots := ms, locals := 0 } s m args below meth c H locs cells slots (MQ below (Zv D cs A hz) args s mc ms A) (F0 m 24 ls []) := by
  obtain ⟨hx, hb, hml, hown, hts, -⟩ := id C
  unfold B_X10_found_24 at hJ
  refine lv_aload_n hx hb dX10_found_24 rfl (lv_at hl 0 rfl) ?_
  refine fg_1337 C w hk0 tw_6_200 dX10_found_25 ?_
  refine lv_iload_n hx hb dX10_found_28 rfl (lv_at hl 1 rfl) ?_
  refine lv_lload_n hx hb dX10_found_29 rfl (lv_at hl 2 rfl) ?_
  obtain ⟨a1, ea1, hka1, hJ⟩ := dr_some hJ
  rw [ea1]
  obtain ⟨hi2, hJ⟩ := ck_some hJ
  refine jr_lastM C w hka1 hi2 dX10_found_30 (fun H locs w => ?_)
  obtain ⟨rfl, -⟩ := rs2 hJ
  exact jr_vret C w hz2 dX10_found_31
def B_X10_found_0 (N : Nat) (t0 : Nat) (h : Hp) (x1 : Int32) (x2 : Int32) (x3 : Int64) : Option (Hp × Unit) := dr ((h.sgi 1344 t0 x2).sgl 1343 t0 x3) 30 (((h.sgi 1344 t0 x2).sgl 1343 t0 x3).gr 1335 t0) (fun a3 => ck (¬ (x1 < 0 ∨ ((h.sgi 1344 t0 x2).sgl 1343 t0 x3).al a3 ≤ x1.toNatClampNeg)) (dr (((h.sgi 1344 t0 x2).sgl 1343 t0 x3).sbi a3 x1.toNatClampNeg (1 : Int32)) 30 ((((h.sgi 1344 t0 x2).sgl 1343 t0 x3).sbi a3 x1.toNatClampNeg (1 : Int32)).gr 1336 t0) (fun a5 => ck (¬ (x1 < 0 ∨ (((h.sgi 1344 t0 x2).sgl 1343 t0 x3).sbi a3 x1.toNatClampNeg (1 : Int32)).al a5 ≤ x1.toNatClampNeg)) (B_X10_found_24 N t0 ((((h.sgi 1344 t0 x2).sgl 1343 t0 x3).sbi a3 x1.toNatClampNeg (1 : Int32)).sbi a5 x1.toNatClampNeg x2) x1 x3))))
theorem mb_X10_found_0 (N : Nat) (t0 : Nat) (h : Hp) (x1 : Int32) (x2 : Int32) (x3 : Int64) (hJ : B_X10_found_0 N t0 h x1 x2 x3 = some (hz, ())) : Mo h hz := by
  unfold B_X10_found_0 at hJ
  obtain ⟨a3, ea3, -, hJ⟩ := dr_some hJ
  obtain ⟨-, hJ⟩ := ck_some hJ
  obtain ⟨a5, ea5, -, hJ⟩ := dr_some hJ
  obtain ⟨-, hJ⟩ := ck_some hJ
  exact (Mo.tr (show Mo h ((((h.sgi 1344 t0 x2).sgl 1343 t0 x3).sbi a3 x1.toNatClampNeg (1 : Int32)).sbi a5 x1.toNatClampNeg x2) from ⟨fun _ _ => rfl, Nat.le_refl _, Nat.le_refl _, rfl, fun _ _ => rfl⟩) (mb_X10_found_24 N t0 _ _ _ hJ))
set_option maxRecDepth 100000 in
set_option maxHeartbeats 4000000 in
theorem sb_X10_found_0 (C : Cx p s m args meth c cX10_found 5 none RX10 D cs A h0.se) (hz2 : hz.nx ≤ h0.nx + mc ∧ hz.su ≤ h0.su + ms) (N : Nat) (t0 : Nat) (h : Hp) (x1 : Int32) (x2 : Int32) (x3 : Int64) (hJ : B_X10_found_0 N t0 h x1 x2 x3 = some (hz, ())) (hk0 : h.kd t0 = 13) {H : Heap} {locs : List Loc} {cells slots : Nat} (w : Wo D cs A s h0 h H locs cells slots) {ls : Array Slot} (hl : lv_has ls 5 [(0, .ref t0), (1, .int x1), (2, .int x2), (3, .long x3)]) : W p l e { frames := 0, cells := mc, slots := ms, locals := 0 } s m args below meth c H locs cells slots (MQ below (Zv D cs A hz) args s mc ms A) (F0 m 0 ls []) := by
  obtain ⟨hx, hb, hml, hown, hts, -⟩ := id C
  unfold B_X10_found_0 at hJ
  refine lv_aload_n hx hb dX10_found_0 rfl (lv_at hl 0 rfl) ?_
  refine lv_iload_n hx hb dX10_found_1 rfl (lv_at hl 2 rfl) ?_
  refine fp_1344 (x := x2) C w hk0 tw_6_207 dX10_found_2 (fun H locs w => ?_)
  refine lv_aload_n hx hb dX10_found_5 rfl (lv_at hl 0 rfl) ?_
  refine lv_lload_n hx hb dX10_found_6 rfl (lv_at hl 3 rfl) ?_
  refine fp_1343 (x := x3) C w hk0 tw_6_206 dX10_found_7 (fun H locs w => ?_)
  refine lv_aload_n hx hb dX10_found_10 rfl (lv_at hl 0 rfl) ?_
  refine fg_1335 C w hk0 tw_6_198 dX10_found_11 ?_
  refine lv_iload_n hx hb dX10_found_14 rfl (lv_at hl 1 rfl) ?_
  refine lv_iconst (v := (1 : Int32)) hx hb dX10_found_15 (by decide) ?_
  obtain ⟨a3, ea3, hka3, hJ⟩ := dr_some hJ
  rw [ea3]
  obtain ⟨hi4, hJ⟩ := ck_some hJ
  refine jr_iastM C w hka3 hi4 dX10_found_16 (fun H locs w => ?_)
  refine lv_aload_n hx hb dX10_found_17 rfl (lv_at hl 0 rfl) ?_
  refine fg_1336 C w hk0 tw_6_199 dX10_found_18 ?_
  refine lv_iload_n hx hb dX10_found_21 rfl (lv_at hl 1 rfl) ?_
  refine lv_iload_n hx hb dX10_found_22 rfl (lv_at hl 2 rfl) ?_
  obtain ⟨a5, ea5, hka5, hJ⟩ := dr_some hJ
  rw [ea5]
  obtain ⟨hi6, hJ⟩ := ck_some hJ
  refine jr_iastM C w hka5 hi6 dX10_found_23 (fun H locs w => ?_)
  exact sb_X10_found_24 C hz2 N t0 _ _ _ hJ hk0 w (lv_sub (l' := [(0, .ref t0), (1, .int x1), (3, .long x3)]) hl [0, 1, 3] rfl)
def J_X10_found (N : Nat) (t0 : Nat) (h : Hp) (x1 : Int32) (x2 : Int32) (x3 : Int64) : Option (Hp × Unit) := B_X10_found_0 N t0 h x1 x2 x3
theorem mo_X10_found (N : Nat) (t0 : Nat) (h : Hp) (x1 : Int32) (x2 : Int32) (x3 : Int64) (hJ : J_X10_found N t0 h x1 x2 x3 = some (hz, ())) : Mo h hz := mb_X10_found_0 N t0 h x1 x2 x3 hJ
theorem cd_X10_found : Cd yX10_found 3 := ⟨by decide +kernel, by decide +kernel, by decide +kernel⟩
theorem cc_X10_found (N : Nat) (t0 : Nat) (h : Hp) (x1 : Int32) (x2 : Int32) (x3 : Int64) (hk0 : h.kd t0 = 13) (hJ : J_X10_found N t0 h x1 x2 x3 = some (hz, ())) : Cv l yX10_found cX10_found 5 none 0 0 D cs h hz [.ref t0, .int x1, .int x2, .long x3] := by
  intro mc ms g1 g2
  refine je_any (by decide) (by simp [lg_sl, rf_cat, cat_i, cat_l, cat_r]) ?_
  intro p e s m args below meth c C hin2 w ls hl
  have hl : lv_has ls 5 [(0, .ref t0), (1, .int x1), (2, .int x2), (3, .long x3)] := hl
  exact sb_X10_found_0 C ⟨g1, g2⟩ N t0 h x1 x2 x3 hJ hk0 w hl
end G_X10_found
section G_X10_log
variable {p : Program} {l : Launch} {e : Env} {s : State} {m : MethodId} {args : Array Value} {below : List Frame} {meth : Method} {c : Code} {D : va_G} {cs : C4} {A : Nat → Prop} {h0 hz : Hp} {mc ms : Nat} {rz : Int32}
def B_X10_log_40 (N : Nat) (t0 : Nat) (h : Hp) (x4 : Int32) : Option (Hp × Int32) := some (h, x4)
theorem mb_X10_log_40 (N : Nat) (t0 : Nat) (h : Hp) (x4 : Int32) (hJ : B_X10_log_40 N t0 h x4 = some (hz, rz)) : Mo h hz := by
  unfold B_X10_log_40 at hJ
  obtain ⟨rfl, -⟩ := rs2 hJ
  exact ⟨fun _ _ => rfl, Nat.le_refl _, Nat.le_refl _, rfl, fun _ _ => rfl⟩
set_option maxRecDepth 100000 in
set_option maxHeartbeats 4000000 in
theorem sb_X10_log_40 (C : Cx p s m args meth c cX10_log 5 (some .int) RX10 D cs A h0.se) (hz2 : hz.nx ≤ h0.nx + mc ∧ hz.su ≤ h0.su + ms) (N : Nat) (t0 : Nat) (h : Hp) (x4 : Int32) (hJ : B_X10_log_40 N t0 h x4 = some (hz, rz)) (hk0 : h.kd t0 = 13) {H : Heap} {locs : List Loc} {cells slots : Nat} (w : Wo D cs A s h0 h H locs cells slots) {ls : Array Slot} (hl : lv_has ls 5 [(0, .ref t0), (4, .int x4)]) : W p l e { frames := 0, cells := mc, slots := ms, locals := 0 } s m args below meth c H locs cells slots (MQ below (Zi D cs A hz rz) args s mc ms A) (F0 m 40 ls []) := by
  obtain ⟨hx, hb, hml, hown, hts, -⟩ := id C
  unfold B_X10_log_40 at hJ
  refine lv_iload hx hb dX10_log_40 (lv_at hl 1 rfl) ?_
  obtain ⟨rfl, rfl⟩ := rs2 hJ
  exact jr_iret C w hz2 dX10_log_42
def B_X10_log_0 (N : Nat) (t0 : Nat) (h : Hp) (x1 : Int32) (x2 : Int32) (x3 : Int32) : Option (Hp × Int32) := dr h 30 (h.gr 1329 t0) (fun a1 => ck (¬ (h.gi 1339 t0 < 0 ∨ h.al a1 ≤ (h.gi 1339 t0).toNatClampNeg)) (dr (h.sbi a1 (h.gi 1339 t0).toNatClampNeg x1) 30 ((h.sbi a1 (h.gi 1339 t0).toNatClampNeg x1).gr 1330 t0) (fun a3 => ck (¬ (h.gi 1339 t0 < 0 ∨ (h.sbi a1 (h.gi 1339 t0).toNatClampNeg x1).al a3 ≤ (h.gi 1339 t0).toNatClampNeg)) (dr ((h.sbi a1 (h.gi 1339 t0).toNatClampNeg x1).sbi a3 (h.gi 1339 t0).toNatClampNeg x2) 30 (((h.sbi a1 (h.gi 1339 t0).toNatClampNeg x1).sbi a3 (h.gi 1339 t0).toNatClampNeg x2).gr 1331 t0) (fun a5 => ck (¬ (h.gi 1339 t0 < 0 ∨ ((h.sbi a1 (h.gi 1339 t0).toNatClampNeg x1).sbi a3 (h.gi 1339 t0).toNatClampNeg x2).al a5 ≤ (h.gi 1339 t0).toNatClampNeg)) (B_X10_log_40 N t0 ((((h.sbi a1 (h.gi 1339 t0).toNatClampNeg x1).sbi a3 (h.gi 1339 t0).toNatClampNeg x2).sbi a5 (h.gi 1339 t0).toNatClampNeg x3).sgi 1339 t0 (((((h.sbi a1 (h.gi 1339 t0).toNatClampNeg x1).sbi a3 (h.gi 1339 t0).toNatClampNeg x2).sbi a5 (h.gi 1339 t0).toNatClampNeg x3).gi 1339 t0) + (1 : Int32))) (h.gi 1339 t0)))))))
theorem mb_X10_log_0 (N : Nat) (t0 : Nat) (h : Hp) (x1 : Int32) (x2 : Int32) (x3 : Int32) (hJ : B_X10_log_0 N t0 h x1 x2 x3 = some (hz, rz)) : Mo h hz := by
  unfold B_X10_log_0 at hJ
  obtain ⟨a1, ea1, -, hJ⟩ := dr_some hJ
  obtain ⟨-, hJ⟩ := ck_some hJ
  obtain ⟨a3, ea3, -, hJ⟩ := dr_some hJ
  obtain ⟨-, hJ⟩ := ck_some hJ
  obtain ⟨a5, ea5, -, hJ⟩ := dr_some hJ
  obtain ⟨-, hJ⟩ := ck_some hJ
  exact (Mo.tr (show Mo h ((((h.sbi a1 (h.gi 1339 t0).toNatClampNeg x1).sbi a3 (h.gi 1339 t0).toNatClampNeg x2).sbi a5 (h.gi 1339 t0).toNatClampNeg x3).sgi 1339 t0 (((((h.sbi a1 (h.gi 1339 t0).toNatClampNeg x1).sbi a3 (h.gi 1339 t0).toNatClampNeg x2).sbi a5 (h.gi 1339 t0).toNatClampNeg x3).gi 1339 t0) + (1 : Int32))) from ⟨fun _ _ => rfl, Nat.le_refl _, Nat.le_refl _, rfl, fun _ _ => rfl⟩) (mb_X10_log_40 N t0 _ _ hJ))
set_option maxRecDepth 100000 in
set_option maxHeartbeats 4000000 in
theorem sb_X10_log_0 (C : Cx p s m args meth c cX10_log 5 (some .int) RX10 D cs A h0.se) (hz2 : hz.nx ≤ h0.nx + mc ∧ hz.su ≤ h0.su + ms) (N : Nat) (t0 : Nat) (h : Hp) (x1 : Int32) (x2 : Int32) (x3 : Int32) (hJ : B_X10_log_0 N t0 h x1 x2 x3 = some (hz, rz)) (hk0 : h.kd t0 = 13) {H : Heap} {locs : List Loc} {cells slots : Nat} (w : Wo D cs A s h0 h H locs cells slots) {ls : Array Slot} (hl : lv_has ls 5 [(0, .ref t0), (1, .int x1), (2, .int x2), (3, .int x3)]) : W p l e { frames := 0, cells := mc, slots := ms, locals := 0 } s m args below meth c H locs cells slots (MQ below (Zi D cs A hz rz) args s mc ms A) (F0 m 0 ls []) := by
  obtain ⟨hx, hb, hml, hown, hts, -⟩ := id C
  unfold B_X10_log_0 at hJ
  refine lv_aload_n hx hb dX10_log_0 rfl (lv_at hl 0 rfl) ?_
  refine fg_1339 C w hk0 tw_6_202 dX10_log_1 ?_
  refine lv_istore (i := 4) (lv' := [(4, .int (h.gi 1339 t0)), (0, .ref t0), (1, .int x1), (2, .int x2), (3, .int x3)]) hx hb dX10_log_4 hl (by decide) rfl (fun ls hl => ?_)
  refine lv_aload_n hx hb dX10_log_6 rfl (lv_at hl 1 rfl) ?_
  refine fg_1329 C w hk0 tw_6_192 dX10_log_7 ?_
  refine lv_iload hx hb dX10_log_10 (lv_at hl 0 rfl) ?_
  refine lv_iload_n hx hb dX10_log_12 rfl (lv_at hl 2 rfl) ?_
  obtain ⟨a1, ea1, hka1, hJ⟩ := dr_some hJ
  rw [ea1]
  obtain ⟨hi2, hJ⟩ := ck_some hJ
  refine jr_iastM C w hka1 hi2 dX10_log_13 (fun H locs w => ?_)
  refine lv_aload_n hx hb dX10_log_14 rfl (lv_at hl 1 rfl) ?_
  refine fg_1330 C w hk0 tw_6_193 dX10_log_15 ?_
  refine lv_iload hx hb dX10_log_18 (lv_at hl 0 rfl) ?_
  refine lv_iload_n hx hb dX10_log_20 rfl (lv_at hl 3 rfl) ?_
  obtain ⟨a3, ea3, hka3, hJ⟩ := dr_some hJ
  rw [ea3]
  obtain ⟨hi4, hJ⟩ := ck_some hJ
  refine jr_iastM C w hka3 hi4 dX10_log_21 (fun H locs w => ?_)
  refine lv_aload_n hx hb dX10_log_22 rfl (lv_at hl 1 rfl) ?_
  refine fg_1331 C w hk0 tw_6_194 dX10_log_23 ?_
  refine lv_iload hx hb dX10_log_26 (lv_at hl 0 rfl) ?_
  refine lv_iload_n hx hb dX10_log_28 rfl (lv_at hl 4 rfl) ?_
  obtain ⟨a5, ea5, hka5, hJ⟩ := dr_some hJ
  rw [ea5]
  obtain ⟨hi6, hJ⟩ := ck_some hJ
  refine jr_iastM C w hka5 hi6 dX10_log_29 (fun H locs w => ?_)
  refine lv_aload_n hx hb dX10_log_30 rfl (lv_at hl 1 rfl) ?_
  refine lv_dup hx hb dX10_log_31 rfl ?_
  refine fg_1339 C w hk0 tw_6_202 dX10_log_32 ?_
  refine lv_iconst (v := (1 : Int32)) hx hb dX10_log_35 (by decide) ?_
  refine lv_iadd hx hb dX10_log_36 ?_
  refine fp_1339 (x := ((((h.sbi a1 (h.gi 1339 t0).toNatClampNeg x1).sbi a3 (h.gi 1339 t0).toNatClampNeg x2).sbi a5 (h.gi 1339 t0).toNatClampNeg x3).gi 1339 t0) + (1 : Int32)) C w hk0 tw_6_202 dX10_log_37 (fun H locs w => ?_)
  exact sb_X10_log_40 C hz2 N t0 _ _ hJ hk0 w (lv_sub (l' := [(0, .ref t0), (4, .int (h.gi 1339 t0))]) hl [1, 0] rfl)
def J_X10_log (N : Nat) (t0 : Nat) (h : Hp) (x1 : Int32) (x2 : Int32) (x3 : Int32) : Option (Hp × Int32) := B_X10_log_0 N t0 h x1 x2 x3
theorem mo_X10_log (N : Nat) (t0 : Nat) (h : Hp) (x1 : Int32) (x2 : Int32) (x3 : Int32) (hJ : J_X10_log N t0 h x1 x2 x3 = some (hz, rz)) : Mo h hz := mb_X10_log_0 N t0 h x1 x2 x3 hJ
theorem cd_X10_log : Cd yX10_log 3 := ⟨by decide +kernel, by decide +kernel, by decide +kernel⟩
theorem cc_X10_log (N : Nat) (t0 : Nat) (h : Hp) (x1 : Int32) (x2 : Int32) (x3 : Int32) (hk0 : h.kd t0 = 13) (hJ : J_X10_log N t0 h x1 x2 x3 = some (hz, rz)) : Ci l yX10_log cX10_log 5 (some .int) 0 0 D cs h hz [.ref t0, .int x1, .int x2, .int x3] rz := by
  intro mc ms g1 g2
  refine je_any (by decide) (by simp [lg_sl, rf_cat, cat_i, cat_l, cat_r]) ?_
  intro p e s m args below meth c C hin2 w ls hl
  have hl : lv_has ls 5 [(0, .ref t0), (1, .int x1), (2, .int x2), (3, .int x3)] := hl
  exact sb_X10_log_0 C ⟨g1, g2⟩ N t0 h x1 x2 x3 hJ hk0 w hl
end G_X10_log
section G_X10_looks
variable {p : Program} {l : Launch} {e : Env} {s : State} {m : MethodId} {args : Array Value} {below : List Frame} {meth : Method} {c : Code} {D : va_G} {cs : C4} {A : Nat → Prop} {h0 hz : Hp} {mc ms : Nat} {rz : Int32}
def B_X10_looks_87 (N : Nat) (k3 : Hp → Int32 → Int32 → Int32 → Int32 → Option (Hp × Int32)) (t0 : Nat) (h : Hp) (x1 : Int32) (x2 : Int32) (x3 : Int32) (x4 : Int32) : Option (Hp × Int32) := k3 h x1 x2 x3 (x4 + (1 : Int32))
theorem mb_X10_looks_87 (N : Nat) (k3 : Hp → Int32 → Int32 → Int32 → Int32 → Option (Hp × Int32)) (t0 : Nat) (h : Hp) (x1 : Int32) (x2 : Int32) (x3 : Int32) (x4 : Int32) (m3 : ∀ (h : Hp) (x1 : Int32) (x2 : Int32) (x3 : Int32) (x4 : Int32), k3 h x1 x2 x3 x4 = some (hz, rz) → Mo h hz) (hJ : B_X10_looks_87 N k3 t0 h x1 x2 x3 x4 = some (hz, rz)) : Mo h hz := by
  unfold B_X10_looks_87 at hJ
  exact m3 _ _ _ _ _ hJ
set_option maxRecDepth 100000 in
set_option maxHeartbeats 4000000 in
theorem sb_X10_looks_87 (C : Cx p s m args meth c cX10_looks 6 (some .boolean) RX10 D cs A h0.se) (hz2 : hz.nx ≤ h0.nx + mc ∧ hz.su ≤ h0.su + ms) (N : Nat) (k3 : Hp → Int32 → Int32 → Int32 → Int32 → Option (Hp × Int32)) (t0 : Nat) (m3 : ∀ (h : Hp) (x1 : Int32) (x2 : Int32) (x3 : Int32) (x4 : Int32), k3 h x1 x2 x3 x4 = some (hz, rz) → Mo h hz) (i3 : ∀ (h : Hp) (x1 : Int32) (x2 : Int32) (x3 : Int32) (x4 : Int32) (H : Heap) (locs : List Loc) (cells slots : Nat) (ls : Array Slot), k3 h x1 x2 x3 x4 = some (hz, rz) → h.kd t0 = 13 → Wo D cs A s h0 h H locs cells slots → lv_has ls 6 [(0, .ref t0), (1, .int x1), (2, .int x2), (3, .int x3), (4, .int x4)] → W p l e { frames := 6, cells := mc, slots := ms, locals := 180 } s m args below meth c H locs cells slots (MQ below (Zi D cs A hz rz) args s mc ms A) (F0 m 3 ls [])) (h : Hp) (x1 : Int32) (x2 : Int32) (x3 : Int32) (x4 : Int32) (hJ : B_X10_looks_87 N k3 t0 h x1 x2 x3 x4 = some (hz, rz)) (hk0 : h.kd t0 = 13) {H : Heap} {locs : List Loc} {cells slots : Nat} (w : Wo D cs A s h0 h H locs cells slots) {ls : Array Slot} (hl : lv_has ls 6 [(0, .ref t0), (1, .int x1), (2, .int x2), (3, .int x3), (4, .int x4)]) : W p l e { frames := 6, cells := mc, slots := ms, locals := 180 } s m args below meth c H locs cells slots (MQ below (Zi D cs A hz rz) args s mc ms A) (F0 m 87 ls []) := by
  obtain ⟨hx, hb, hml, hown, hts, -⟩ := id C
  unfold B_X10_looks_87 at hJ
  refine lv_iinc (v := x4 + (1 : Int32)) (lv' := [(4, .int (x4 + (1 : Int32))), (0, .ref t0), (1, .int x1), (2, .int x2), (3, .int x3)]) hx hb dX10_looks_87 hl (k := 4) rfl rfl (by decide) rfl (fun ls hl => ?_)
  refine lv_goto (tgt := 3) hx hb dX10_looks_90 (by decide) ?_
  exact i3 _ _ _ _ _ _ _ _ _ _ hJ hk0 w (lv_sub (l' := [(0, .ref t0), (1, .int x1), (2, .int x2), (3, .int x3), (4, .int (x4 + (1 : Int32)))]) hl [1, 2, 3, 4, 0] rfl)
def B_X10_looks_85 (N : Nat) (t0 : Nat) (h : Hp) : Option (Hp × Int32) := some (h, (0 : Int32))
theorem mb_X10_looks_85 (N : Nat) (t0 : Nat) (h : Hp) (hJ : B_X10_looks_85 N t0 h = some (hz, rz)) : Mo h hz := by
  unfold B_X10_looks_85 at hJ
  obtain ⟨rfl, -⟩ := rs2 hJ
  exact ⟨fun _ _ => rfl, Nat.le_refl _, Nat.le_refl _, rfl, fun _ _ => rfl⟩
set_option maxRecDepth 100000 in
set_option maxHeartbeats 4000000 in
theorem sb_X10_looks_85 (C : Cx p s m args meth c cX10_looks 6 (some .boolean) RX10 D cs A h0.se) (hz2 : hz.nx ≤ h0.nx + mc ∧ hz.su ≤ h0.su + ms) (N : Nat) (t0 : Nat) (h : Hp) (hJ : B_X10_looks_85 N t0 h = some (hz, rz)) (hk0 : h.kd t0 = 13) {H : Heap} {locs : List Loc} {cells slots : Nat} (w : Wo D cs A s h0 h H locs cells slots) {ls : Array Slot} (hl : lv_has ls 6 [(0, .ref t0)]) : W p l e { frames := 6, cells := mc, slots := ms, locals := 180 } s m args below meth c H locs cells slots (MQ below (Zi D cs A hz rz) args s mc ms A) (F0 m 85 ls []) := by
  obtain ⟨hx, hb, hml, hown, hts, -⟩ := id C
  unfold B_X10_looks_85 at hJ
  refine lv_iconst (v := (0 : Int32)) hx hb dX10_looks_85 (by decide) ?_
  obtain ⟨rfl, rfl⟩ := rs2 hJ
  exact jr_zret C w (Or.inl rfl) hz2 dX10_looks_86
def B_X10_looks_79 (N : Nat) (t0 : Nat) (h : Hp) (x1 : Int32) : Option (Hp × Int32) := (J_X10_ends N t0 h x1 (5 : Int32)).bind (fun z => B_X10_looks_85 N t0 z.1)
theorem mb_X10_looks_79 (N : Nat) (t0 : Nat) (h : Hp) (x1 : Int32) (hJ : B_X10_looks_79 N t0 h x1 = some (hz, rz)) : Mo h hz := by
  unfold B_X10_looks_79 at hJ
  obtain ⟨⟨h1, r2⟩, e3, hJ⟩ := ob_some hJ
  exact (mo_X10_ends N t0 h x1 (5 : Int32) e3).tr (mb_X10_looks_85 N t0 _ hJ)
set_option maxRecDepth 100000 in
set_option maxHeartbeats 4000000 in
theorem sb_X10_looks_79 (C : Cx p s m args meth c cX10_looks 6 (some .boolean) RX10 D cs A h0.se) (hz2 : hz.nx ≤ h0.nx + mc ∧ hz.su ≤ h0.su + ms) (N : Nat) (t0 : Nat) (h : Hp) (x1 : Int32) (hJ : B_X10_looks_79 N t0 h x1 = some (hz, rz)) (hk0 : h.kd t0 = 13) {H : Heap} {locs : List Loc} {cells slots : Nat} (w : Wo D cs A s h0 h H locs cells slots) {ls : Array Slot} (hl : lv_has ls 6 [(0, .ref t0), (1, .int x1)]) : W p l e { frames := 6, cells := mc, slots := ms, locals := 180 } s m args below meth c H locs cells slots (MQ below (Zi D cs A hz rz) args s mc ms A) (F0 m 79 ls []) := by
  obtain ⟨hx, hb, hml, hown, hts, -⟩ := id C
  unfold B_X10_looks_79 at hJ
  refine lv_aload_n hx hb dX10_looks_79 rfl (lv_at hl 0 rfl) ?_
  refine lv_iload_n hx hb dX10_looks_80 rfl (lv_at hl 1 rfl) ?_
  refine lv_iconst (v := (5 : Int32)) hx hb dX10_looks_81 (by decide) ?_
  obtain ⟨⟨h1, r2⟩, e3, hJ⟩ := ob_some hJ
  refine jc_Vv (As := [.int x1, .int (5 : Int32)]) C w (cc_X10_ends N t0 h x1 (5 : Int32) hk0 e3) (mo_X10_ends N t0 h x1 (5 : Int32) e3) (mb_X10_looks_85 N t0 _ hJ) hz2 hk0 (by decide) rfl (fs := fs13 h t0) rfl rfl ⟨tw_7_190, tw_7_187, tw_7_189, ts_43, tw_1_7⟩ cd_X10_ends ⟨by decide, by decide⟩ hl.1 (by first | exact Nat.le_of_ble_eq_true rfl | simp [rf_cat, cat_i, cat_l, cat_r]) rfl dX10_looks_82 (fun H locs w1 => ?_)
  have hk4 := kd_keep w (mo_X10_ends N t0 h x1 (5 : Int32) e3) hk0 (by decide)
  have w := w1
  exact sb_X10_looks_85 C hz2 N t0 _ hJ hk4 w (lv_sub (l' := [(0, .ref t0)]) hl [0] rfl)
def B_X10_looks_64 (N : Nat) (k3 : Hp → Int32 → Int32 → Int32 → Int32 → Option (Hp × Int32)) (t0 : Nat) (h : Hp) (x1 : Int32) (x2 : Int32) (x3 : Int32) (x4 : Int32) (y0 : Int32) : Option (Hp × Int32) := if y0 = 0 then (B_X10_looks_87 N k3 t0 h x1 x2 x3 x4) else (dr h 30 (h.gr 1325 t0) (fun a6 => ck (¬ (x4 < 0 ∨ h.al a6 ≤ x4.toNatClampNeg)) ((J_X10_danger N t0 h x1 (h.bi a6 x4.toNatClampNeg)).bind (fun z => B_X10_looks_79 N t0 z.1 x1))))
theorem mb_X10_looks_64 (N : Nat) (k3 : Hp → Int32 → Int32 → Int32 → Int32 → Option (Hp × Int32)) (t0 : Nat) (h : Hp) (x1 : Int32) (x2 : Int32) (x3 : Int32) (x4 : Int32) (y0 : Int32) (m3 : ∀ (h : Hp) (x1 : Int32) (x2 : Int32) (x3 : Int32) (x4 : Int32), k3 h x1 x2 x3 x4 = some (hz, rz) → Mo h hz) (hJ : B_X10_looks_64 N k3 t0 h x1 x2 x3 x4 y0 = some (hz, rz)) : Mo h hz := by
  unfold B_X10_looks_64 at hJ
  by_cases c5 : y0 = 0
  · have hJ := it_pos c5 hJ
    exact mb_X10_looks_87 N k3 t0 _ _ _ _ _ m3 hJ
  · have hJ := it_neg c5 hJ
    obtain ⟨a6, ea6, -, hJ⟩ := dr_some hJ
    obtain ⟨-, hJ⟩ := ck_some hJ
    obtain ⟨⟨h8, r9⟩, e10, hJ⟩ := ob_some hJ
    exact (mo_X10_danger N t0 h x1 (h.bi a6 x4.toNatClampNeg) e10).tr (mb_X10_looks_79 N t0 _ _ hJ)
set_option maxRecDepth 100000 in
set_option maxHeartbeats 4000000 in
theorem sb_X10_looks_64 (C : Cx p s m args meth c cX10_looks 6 (some .boolean) RX10 D cs A h0.se) (hz2 : hz.nx ≤ h0.nx + mc ∧ hz.su ≤ h0.su + ms) (N : Nat) (k3 : Hp → Int32 → Int32 → Int32 → Int32 → Option (Hp × Int32)) (t0 : Nat) (m3 : ∀ (h : Hp) (x1 : Int32) (x2 : Int32) (x3 : Int32) (x4 : Int32), k3 h x1 x2 x3 x4 = some (hz, rz) → Mo h hz) (i3 : ∀ (h : Hp) (x1 : Int32) (x2 : Int32) (x3 : Int32) (x4 : Int32) (H : Heap) (locs : List Loc) (cells slots : Nat) (ls : Array Slot), k3 h x1 x2 x3 x4 = some (hz, rz) → h.kd t0 = 13 → Wo D cs A s h0 h H locs cells slots → lv_has ls 6 [(0, .ref t0), (1, .int x1), (2, .int x2), (3, .int x3), (4, .int x4)] → W p l e { frames := 6, cells := mc, slots := ms, locals := 180 } s m args below meth c H locs cells slots (MQ below (Zi D cs A hz rz) args s mc ms A) (F0 m 3 ls [])) (h : Hp) (x1 : Int32) (x2 : Int32) (x3 : Int32) (x4 : Int32) (y0 : Int32) (hJ : B_X10_looks_64 N k3 t0 h x1 x2 x3 x4 y0 = some (hz, rz)) (hk0 : h.kd t0 = 13) {H : Heap} {locs : List Loc} {cells slots : Nat} (w : Wo D cs A s h0 h H locs cells slots) {ls : Array Slot} (hl : lv_has ls 6 [(0, .ref t0), (1, .int x1), (2, .int x2), (3, .int x3), (4, .int x4)]) : W p l e { frames := 6, cells := mc, slots := ms, locals := 180 } s m args below meth c H locs cells slots (MQ below (Zi D cs A hz rz) args s mc ms A) (F0 m 64 ls [.int y0]) := by
  obtain ⟨hx, hb, hml, hown, hts, -⟩ := id C
  unfold B_X10_looks_64 at hJ
  refine lv_if_eq (tgt := 87) hx hb dX10_looks_64 (by decide) (fun c5 => ?_) (fun c5 => ?_)
  · have hJ := it_pos c5 hJ
    exact sb_X10_looks_87 C hz2 N k3 t0 m3 i3 _ _ _ _ _ hJ hk0 w hl
  · have hJ := it_neg c5 hJ
    refine lv_aload_n hx hb dX10_looks_67 rfl (lv_at hl 0 rfl) ?_
    refine lv_iload_n hx hb dX10_looks_68 rfl (lv_at hl 1 rfl) ?_
    refine lv_aload_n hx hb dX10_looks_69 rfl (lv_at hl 0 rfl) ?_
    refine fg_1325 C w hk0 tw_6_188 dX10_looks_70 ?_
    refine lv_iload hx hb dX10_looks_73 (lv_at hl 4 rfl) ?_
    obtain ⟨a6, ea6, hka6, hJ⟩ := dr_some hJ
    rw [ea6]
    obtain ⟨hi7, hJ⟩ := ck_some hJ
    refine jr_ialdM C w hka6 hi7 dX10_looks_75 ?_
    obtain ⟨⟨h8, r9⟩, e10, hJ⟩ := ob_some hJ
    refine jc_Vv (As := [.int x1, .int (h.bi a6 x4.toNatClampNeg)]) C w (cc_X10_danger N t0 h x1 (h.bi a6 x4.toNatClampNeg) hk0 e10) (mo_X10_danger N t0 h x1 (h.bi a6 x4.toNatClampNeg) e10) (mb_X10_looks_79 N t0 _ _ hJ) hz2 hk0 (by decide) rfl (fs := fs13 h t0) rfl rfl ⟨tw_7_202, tw_7_199, tw_7_201, ts_46, tw_1_7⟩ cd_X10_danger ⟨by decide, by decide⟩ hl.1 (by first | exact Nat.le_of_ble_eq_true rfl | simp [rf_cat, cat_i, cat_l, cat_r]) rfl dX10_looks_76 (fun H locs w1 => ?_)
    have hk11 := kd_keep w (mo_X10_danger N t0 h x1 (h.bi a6 x4.toNatClampNeg) e10) hk0 (by decide)
    have w := w1
    exact sb_X10_looks_79 C hz2 N t0 _ _ hJ hk11 w (lv_sub (l' := [(0, .ref t0), (1, .int x1)]) hl [0, 1] rfl)
def B_X10_looks_40 (N : Nat) (k3 : Hp → Int32 → Int32 → Int32 → Int32 → Option (Hp × Int32)) (t0 : Nat) (h : Hp) (x1 : Int32) (x2 : Int32) (x3 : Int32) (x4 : Int32) (y0 : Int32) : Option (Hp × Int32) := dr h 30 (h.gr 1303 t0) (fun a12 => ck (¬ (x1 < 0 ∨ h.al a12 ≤ x1.toNatClampNeg)) (if (h.bi a12 x1.toNatClampNeg) < y0 then (dr h 30 (h.gr 1325 t0) (fun a15 => ck (¬ (x4 < 0 ∨ h.al a15 ≤ x4.toNatClampNeg)) ((J_X10_mayNot N t0 h x1 (h.bi a15 x4.toNatClampNeg)).bind (fun z => B_X10_looks_64 N k3 t0 z.1 x1 x2 x3 x4 z.2)))) else (B_X10_looks_87 N k3 t0 h x1 x2 x3 x4)))
theorem mb_X10_looks_40 (N : Nat) (k3 : Hp → Int32 → Int32 → Int32 → Int32 → Option (Hp × Int32)) (t0 : Nat) (h : Hp) (x1 : Int32) (x2 : Int32) (x3 : Int32) (x4 : Int32) (y0 : Int32) (m3 : ∀ (h : Hp) (x1 : Int32) (x2 : Int32) (x3 : Int32) (x4 : Int32), k3 h x1 x2 x3 x4 = some (hz, rz) → Mo h hz) (hJ : B_X10_looks_40 N k3 t0 h x1 x2 x3 x4 y0 = some (hz, rz)) : Mo h hz := by
  unfold B_X10_looks_40 at hJ
  obtain ⟨a12, ea12, -, hJ⟩ := dr_some hJ
  obtain ⟨-, hJ⟩ := ck_some hJ
  by_cases c14 : (h.bi a12 x1.toNatClampNeg) < y0
  · have hJ := it_pos c14 hJ
    obtain ⟨a15, ea15, -, hJ⟩ := dr_some hJ
    obtain ⟨-, hJ⟩ := ck_some hJ
    obtain ⟨⟨h17, r18⟩, e19, hJ⟩ := ob_some hJ
    exact (mo_X10_mayNot N t0 h x1 (h.bi a15 x4.toNatClampNeg) e19).tr (mb_X10_looks_64 N k3 t0 _ _ _ _ _ _ m3 hJ)
  · have hJ := it_neg c14 hJ
    exact mb_X10_looks_87 N k3 t0 _ _ _ _ _ m3 hJ
set_option maxRecDepth 100000 in
set_option maxHeartbeats 4000000 in
theorem sb_X10_looks_40 (C : Cx p s m args meth c cX10_looks 6 (some .boolean) RX10 D cs A h0.se) (hz2 : hz.nx ≤ h0.nx + mc ∧ hz.su ≤ h0.su + ms) (N : Nat) (k3 : Hp → Int32 → Int32 → Int32 → Int32 → Option (Hp × Int32)) (t0 : Nat) (m3 : ∀ (h : Hp) (x1 : Int32) (x2 : Int32) (x3 : Int32) (x4 : Int32), k3 h x1 x2 x3 x4 = some (hz, rz) → Mo h hz) (i3 : ∀ (h : Hp) (x1 : Int32) (x2 : Int32) (x3 : Int32) (x4 : Int32) (H : Heap) (locs : List Loc) (cells slots : Nat) (ls : Array Slot), k3 h x1 x2 x3 x4 = some (hz, rz) → h.kd t0 = 13 → Wo D cs A s h0 h H locs cells slots → lv_has ls 6 [(0, .ref t0), (1, .int x1), (2, .int x2), (3, .int x3), (4, .int x4)] → W p l e { frames := 6, cells := mc, slots := ms, locals := 180 } s m args below meth c H locs cells slots (MQ below (Zi D cs A hz rz) args s mc ms A) (F0 m 3 ls [])) (h : Hp) (x1 : Int32) (x2 : Int32) (x3 : Int32) (x4 : Int32) (y0 : Int32) (hJ : B_X10_looks_40 N k3 t0 h x1 x2 x3 x4 y0 = some (hz, rz)) (hk0 : h.kd t0 = 13) {H : Heap} {locs : List Loc} {cells slots : Nat} (w : Wo D cs A s h0 h H locs cells slots) {ls : Array Slot} (hl : lv_has ls 6 [(0, .ref t0), (1, .int x1), (2, .int x2), (3, .int x3), (4, .int x4)]) : W p l e { frames := 6, cells := mc, slots := ms, locals := 180 } s m args below meth c H locs cells slots (MQ below (Zi D cs A hz rz) args s mc ms A) (F0 m 40 ls [.int y0]) := by
  obtain ⟨hx, hb, hml, hown, hts, -⟩ := id C
  unfold B_X10_looks_40 at hJ
  refine lv_aload_n hx hb dX10_looks_40 rfl (lv_at hl 0 rfl) ?_
  refine fg_1303 C w hk0 tw_6_166 dX10_looks_41 ?_
  refine lv_iload_n hx hb dX10_looks_44 rfl (lv_at hl 1 rfl) ?_
  obtain ⟨a12, ea12, hka12, hJ⟩ := dr_some hJ
  rw [ea12]
  obtain ⟨hi13, hJ⟩ := ck_some hJ
  refine jr_ialdM C w hka12 hi13 dX10_looks_45 ?_
  refine lv_icmp_gt (tgt := 52) hx hb dX10_looks_46 (by decide) (fun c14 => ?_) (fun c14 => ?_)
  · have hJ := it_pos c14 hJ
    refine lv_aload_n hx hb dX10_looks_52 rfl (lv_at hl 0 rfl) ?_
    refine lv_iload_n hx hb dX10_looks_53 rfl (lv_at hl 1 rfl) ?_
    refine lv_aload_n hx hb dX10_looks_54 rfl (lv_at hl 0 rfl) ?_
    refine fg_1325 C w hk0 tw_6_188 dX10_looks_55 ?_
    refine lv_iload hx hb dX10_looks_58 (lv_at hl 4 rfl) ?_
    obtain ⟨a15, ea15, hka15, hJ⟩ := dr_some hJ
    rw [ea15]
    obtain ⟨hi16, hJ⟩ := ck_some hJ
    refine jr_ialdM C w hka15 hi16 dX10_looks_60 ?_
    obtain ⟨⟨h17, r18⟩, e19, hJ⟩ := ob_some hJ
    refine jc_Vi (As := [.int x1, .int (h.bi a15 x4.toNatClampNeg)]) C w (cc_X10_mayNot N t0 h x1 (h.bi a15 x4.toNatClampNeg) hk0 e19) (mo_X10_mayNot N t0 h x1 (h.bi a15 x4.toNatClampNeg) e19) (mb_X10_looks_64 N k3 t0 _ _ _ _ _ _ m3 hJ) hz2 hk0 (by decide) rfl (fs := fs13 h t0) rfl rfl ⟨tw_7_198, tw_7_195, tw_7_197, ts_45, tw_1_7⟩ cd_X10_mayNot ⟨by decide, by decide⟩ hl.1 (by first | exact Nat.le_of_ble_eq_true rfl | simp [rf_cat, cat_i, cat_l, cat_r]) rfl dX10_looks_61 (fun H locs w1 => ?_)
    have hk20 := kd_keep w (mo_X10_mayNot N t0 h x1 (h.bi a15 x4.toNatClampNeg) e19) hk0 (by decide)
    have w := w1
    exact sb_X10_looks_64 C hz2 N k3 t0 m3 i3 _ _ _ _ _ _ hJ hk20 w hl
  · have hJ := it_neg c14 hJ
    refine lv_goto (tgt := 87) hx hb dX10_looks_49 (by decide) ?_
    exact sb_X10_looks_87 C hz2 N k3 t0 m3 i3 _ _ _ _ _ hJ hk0 w hl
def B_X10_looks_217 (N : Nat) (k136 : Hp → Int32 → Int32 → Int32 → Int32 → Option (Hp × Int32)) (t0 : Nat) (h : Hp) (x1 : Int32) (x2 : Int32) (x3 : Int32) (x4 : Int32) : Option (Hp × Int32) := k136 h x1 x2 x3 (x4 + (1 : Int32))
theorem mb_X10_looks_217 (N : Nat) (k136 : Hp → Int32 → Int32 → Int32 → Int32 → Option (Hp × Int32)) (t0 : Nat) (h : Hp) (x1 : Int32) (x2 : Int32) (x3 : Int32) (x4 : Int32) (m136 : ∀ (h : Hp) (x1 : Int32) (x2 : Int32) (x3 : Int32) (x4 : Int32), k136 h x1 x2 x3 x4 = some (hz, rz) → Mo h hz) (hJ : B_X10_looks_217 N k136 t0 h x1 x2 x3 x4 = some (hz, rz)) : Mo h hz := by
  unfold B_X10_looks_217 at hJ
  exact m136 _ _ _ _ _ hJ
set_option maxRecDepth 100000 in
set_option maxHeartbeats 4000000 in
theorem sb_X10_looks_217 (C : Cx p s m args meth c cX10_looks 6 (some .boolean) RX10 D cs A h0.se) (hz2 : hz.nx ≤ h0.nx + mc ∧ hz.su ≤ h0.su + ms) (N : Nat) (k136 : Hp → Int32 → Int32 → Int32 → Int32 → Option (Hp × Int32)) (t0 : Nat) (m136 : ∀ (h : Hp) (x1 : Int32) (x2 : Int32) (x3 : Int32) (x4 : Int32), k136 h x1 x2 x3 x4 = some (hz, rz) → Mo h hz) (i136 : ∀ (h : Hp) (x1 : Int32) (x2 : Int32) (x3 : Int32) (x4 : Int32) (H : Heap) (locs : List Loc) (cells slots : Nat) (ls : Array Slot), k136 h x1 x2 x3 x4 = some (hz, rz) → h.kd t0 = 13 → Wo D cs A s h0 h H locs cells slots → lv_has ls 6 [(0, .ref t0), (1, .int x1), (2, .int x2), (3, .int x3), (4, .int x4)] → W p l e { frames := 6, cells := mc, slots := ms, locals := 180 } s m args below meth c H locs cells slots (MQ below (Zi D cs A hz rz) args s mc ms A) (F0 m 136 ls [])) (h : Hp) (x1 : Int32) (x2 : Int32) (x3 : Int32) (x4 : Int32) (hJ : B_X10_looks_217 N k136 t0 h x1 x2 x3 x4 = some (hz, rz)) (hk0 : h.kd t0 = 13) {H : Heap} {locs : List Loc} {cells slots : Nat} (w : Wo D cs A s h0 h H locs cells slots) {ls : Array Slot} (hl : lv_has ls 6 [(0, .ref t0), (1, .int x1), (2, .int x2), (3, .int x3), (4, .int x4)]) : W p l e { frames := 6, cells := mc, slots := ms, locals := 180 } s m args below meth c H locs cells slots (MQ below (Zi D cs A hz rz) args s mc ms A) (F0 m 217 ls []) := by
  obtain ⟨hx, hb, hml, hown, hts, -⟩ := id C
  unfold B_X10_looks_217 at hJ
  refine lv_iinc (v := x4 + (1 : Int32)) (lv' := [(4, .int (x4 + (1 : Int32))), (0, .ref t0), (1, .int x1), (2, .int x2), (3, .int x3)]) hx hb dX10_looks_217 hl (k := 4) rfl rfl (by decide) rfl (fun ls hl => ?_)
  refine lv_goto (tgt := 136) hx hb dX10_looks_220 (by decide) ?_
  exact i136 _ _ _ _ _ _ _ _ _ _ hJ hk0 w (lv_sub (l' := [(0, .ref t0), (1, .int x1), (2, .int x2), (3, .int x3), (4, .int (x4 + (1 : Int32)))]) hl [1, 2, 3, 4, 0] rfl)
def B_X10_looks_187 (N : Nat) (k136 : Hp → Int32 → Int32 → Int32 → Int32 → Option (Hp × Int32)) (t0 : Nat) (h : Hp) (x1 : Int32) (x2 : Int32) (x3 : Int32) (x4 : Int32) (y0 : Int32) : Option (Hp × Int32) := if y0 = 0 then (B_X10_looks_217 N k136 t0 h x1 x2 x3 x4) else (dr h 30 (h.gr 1307 t0) (fun a22 => ck (¬ (x1 < 0 ∨ h.al a22 ≤ x1.toNatClampNeg)) (if (h.bi a22 x1.toNatClampNeg) = (1 : Int32) then (B_X10_looks_217 N k136 t0 h x1 x2 x3 x4) else (dr h 30 (h.gr 1325 t0) (fun a25 => ck (¬ (x4 < 0 ∨ h.al a25 ≤ x4.toNatClampNeg)) (dr h 32 (h.gr 1308 t0) (fun a27 => ck (¬ (h.bi a25 x4.toNatClampNeg < 0 ∨ h.al a27 ≤ (h.bi a25 x4.toNatClampNeg).toNatClampNeg)) (B_X10_looks_217 N k136 t0 (h.sbi a27 (h.bi a25 x4.toNatClampNeg).toNatClampNeg (1 : Int32)) x1 x2 x3 x4))))))))
theorem mb_X10_looks_187 (N : Nat) (k136 : Hp → Int32 → Int32 → Int32 → Int32 → Option (Hp × Int32)) (t0 : Nat) (h : Hp) (x1 : Int32) (x2 : Int32) (x3 : Int32) (x4 : Int32) (y0 : Int32) (m136 : ∀ (h : Hp) (x1 : Int32) (x2 : Int32) (x3 : Int32) (x4 : Int32), k136 h x1 x2 x3 x4 = some (hz, rz) → Mo h hz) (hJ : B_X10_looks_187 N k136 t0 h x1 x2 x3 x4 y0 = some (hz, rz)) : Mo h hz := by
  unfold B_X10_looks_187 at hJ
  by_cases c21 : y0 = 0
  · have hJ := it_pos c21 hJ
    exact mb_X10_looks_217 N k136 t0 _ _ _ _ _ m136 hJ
  · have hJ := it_neg c21 hJ
    obtain ⟨a22, ea22, -, hJ⟩ := dr_some hJ
    obtain ⟨-, hJ⟩ := ck_some hJ
    by_cases c24 : (h.bi a22 x1.toNatClampNeg) = (1 : Int32)
    · have hJ := it_pos c24 hJ
      exact mb_X10_looks_217 N k136 t0 _ _ _ _ _ m136 hJ
    · have hJ := it_neg c24 hJ
      obtain ⟨a25, ea25, -, hJ⟩ := dr_some hJ
      obtain ⟨-, hJ⟩ := ck_some hJ
      obtain ⟨a27, ea27, -, hJ⟩ := dr_some hJ
      obtain ⟨-, hJ⟩ := ck_some hJ
      exact (Mo.tr (show Mo h (h.sbi a27 (h.bi a25 x4.toNatClampNeg).toNatClampNeg (1 : Int32)) from ⟨fun _ _ => rfl, Nat.le_refl _, Nat.le_refl _, rfl, fun _ _ => rfl⟩) (mb_X10_looks_217 N k136 t0 _ _ _ _ _ m136 hJ))
set_option maxRecDepth 100000 in
set_option maxHeartbeats 4000000 in
theorem sb_X10_looks_187 (C : Cx p s m args meth c cX10_looks 6 (some .boolean) RX10 D cs A h0.se) (hz2 : hz.nx ≤ h0.nx + mc ∧ hz.su ≤ h0.su + ms) (N : Nat) (k136 : Hp → Int32 → Int32 → Int32 → Int32 → Option (Hp × Int32)) (t0 : Nat) (m136 : ∀ (h : Hp) (x1 : Int32) (x2 : Int32) (x3 : Int32) (x4 : Int32), k136 h x1 x2 x3 x4 = some (hz, rz) → Mo h hz) (i136 : ∀ (h : Hp) (x1 : Int32) (x2 : Int32) (x3 : Int32) (x4 : Int32) (H : Heap) (locs : List Loc) (cells slots : Nat) (ls : Array Slot), k136 h x1 x2 x3 x4 = some (hz, rz) → h.kd t0 = 13 → Wo D cs A s h0 h H locs cells slots → lv_has ls 6 [(0, .ref t0), (1, .int x1), (2, .int x2), (3, .int x3), (4, .int x4)] → W p l e { frames := 6, cells := mc, slots := ms, locals := 180 } s m args below meth c H locs cells slots (MQ below (Zi D cs A hz rz) args s mc ms A) (F0 m 136 ls [])) (h : Hp) (x1 : Int32) (x2 : Int32) (x3 : Int32) (x4 : Int32) (y0 : Int32) (hJ : B_X10_looks_187 N k136 t0 h x1 x2 x3 x4 y0 = some (hz, rz)) (hk0 : h.kd t0 = 13) {H : Heap} {locs : List Loc} {cells slots : Nat} (w : Wo D cs A s h0 h H locs cells slots) {ls : Array Slot} (hl : lv_has ls 6 [(0, .ref t0), (1, .int x1), (2, .int x2), (3, .int x3), (4, .int x4)]) : W p l e { frames := 6, cells := mc, slots := ms, locals := 180 } s m args below meth c H locs cells slots (MQ below (Zi D cs A hz rz) args s mc ms A) (F0 m 187 ls [.int y0]) := by
  obtain ⟨hx, hb, hml, hown, hts, -⟩ := id C
  unfold B_X10_looks_187 at hJ
  refine lv_istore (i := 5) (lv' := [(5, .int y0), (0, .ref t0), (1, .int x1), (2, .int x2), (3, .int x3), (4, .int x4)]) hx hb dX10_looks_187 hl (by decide) rfl (fun ls hl => ?_)
  refine lv_iload hx hb dX10_looks_189 (lv_at hl 0 rfl) ?_
  refine lv_if_eq (tgt := 217) hx hb dX10_looks_191 (by decide) (fun c21 => ?_) (fun c21 => ?_)
  · have hJ := it_pos c21 hJ
    exact sb_X10_looks_217 C hz2 N k136 t0 m136 i136 _ _ _ _ _ hJ hk0 w (lv_sub (l' := [(0, .ref t0), (1, .int x1), (2, .int x2), (3, .int x3), (4, .int x4)]) hl [1, 2, 3, 4, 5] rfl)
  · have hJ := it_neg c21 hJ
    refine lv_aload_n hx hb dX10_looks_194 rfl (lv_at hl 1 rfl) ?_
    refine fg_1307 C w hk0 tw_6_170 dX10_looks_195 ?_
    refine lv_iload_n hx hb dX10_looks_198 rfl (lv_at hl 2 rfl) ?_
    obtain ⟨a22, ea22, hka22, hJ⟩ := dr_some hJ
    rw [ea22]
    obtain ⟨hi23, hJ⟩ := ck_some hJ
    refine jr_ialdM C w hka22 hi23 dX10_looks_199 ?_
    refine lv_iconst (v := (1 : Int32)) hx hb dX10_looks_200 (by decide) ?_
    refine lv_icmp_eq (tgt := 217) hx hb dX10_looks_201 (by decide) (fun c24 => ?_) (fun c24 => ?_)
    · have hJ := it_pos c24 hJ
      exact sb_X10_looks_217 C hz2 N k136 t0 m136 i136 _ _ _ _ _ hJ hk0 w (lv_sub (l' := [(0, .ref t0), (1, .int x1), (2, .int x2), (3, .int x3), (4, .int x4)]) hl [1, 2, 3, 4, 5] rfl)
    · have hJ := it_neg c24 hJ
      refine lv_aload_n hx hb dX10_looks_204 rfl (lv_at hl 1 rfl) ?_
      refine fg_1308 C w hk0 tw_6_171 dX10_looks_205 ?_
      refine lv_aload_n hx hb dX10_looks_208 rfl (lv_at hl 1 rfl) ?_
      refine fg_1325 C w hk0 tw_6_188 dX10_looks_209 ?_
      refine lv_iload hx hb dX10_looks_212 (lv_at hl 5 rfl) ?_
      obtain ⟨a25, ea25, hka25, hJ⟩ := dr_some hJ
      rw [ea25]
      obtain ⟨hi26, hJ⟩ := ck_some hJ
      refine jr_ialdM C w hka25 hi26 dX10_looks_214 ?_
      refine lv_iconst (v := (1 : Int32)) hx hb dX10_looks_215 (by decide) ?_
      obtain ⟨a27, ea27, hka27, hJ⟩ := dr_some hJ
      rw [ea27]
      obtain ⟨hi28, hJ⟩ := ck_some hJ
      refine jr_zastM C w hka27 hi28 (Or.inr rfl) dX10_looks_216 (fun H locs w => ?_)
      exact sb_X10_looks_217 C hz2 N k136 t0 m136 i136 _ _ _ _ _ hJ hk0 w (lv_sub (l' := [(0, .ref t0), (1, .int x1), (2, .int x2), (3, .int x3), (4, .int x4)]) hl [1, 2, 3, 4, 5] rfl)
def B_X10_looks_186 (N : Nat) (k136 : Hp → Int32 → Int32 → Int32 → Int32 → Option (Hp × Int32)) (t0 : Nat) (h : Hp) (x1 : Int32) (x2 : Int32) (x3 : Int32) (x4 : Int32) : Option (Hp × Int32) := B_X10_looks_187 N k136 t0 h x1 x2 x3 x4 (0 : Int32)
theorem mb_X10_looks_186 (N : Nat) (k136 : Hp → Int32 → Int32 → Int32 → Int32 → Option (Hp × Int32)) (t0 : Nat) (h : Hp) (x1 : Int32) (x2 : Int32) (x3 : Int32) (x4 : Int32) (m136 : ∀ (h : Hp) (x1 : Int32) (x2 : Int32) (x3 : Int32) (x4 : Int32), k136 h x1 x2 x3 x4 = some (hz, rz) → Mo h hz) (hJ : B_X10_looks_186 N k136 t0 h x1 x2 x3 x4 = some (hz, rz)) : Mo h hz := by
  unfold B_X10_looks_186 at hJ
  exact mb_X10_looks_187 N k136 t0 _ _ _ _ _ _ m136 hJ
set_option maxRecDepth 100000 in
set_option maxHeartbeats 4000000 in
theorem sb_X10_looks_186 (C : Cx p s m args meth c cX10_looks 6 (some .boolean) RX10 D cs A h0.se) (hz2 : hz.nx ≤ h0.nx + mc ∧ hz.su ≤ h0.su + ms) (N : Nat) (k136 : Hp → Int32 → Int32 → Int32 → Int32 → Option (Hp × Int32)) (t0 : Nat) (m136 : ∀ (h : Hp) (x1 : Int32) (x2 : Int32) (x3 : Int32) (x4 : Int32), k136 h x1 x2 x3 x4 = some (hz, rz) → Mo h hz) (i136 : ∀ (h : Hp) (x1 : Int32) (x2 : Int32) (x3 : Int32) (x4 : Int32) (H : Heap) (locs : List Loc) (cells slots : Nat) (ls : Array Slot), k136 h x1 x2 x3 x4 = some (hz, rz) → h.kd t0 = 13 → Wo D cs A s h0 h H locs cells slots → lv_has ls 6 [(0, .ref t0), (1, .int x1), (2, .int x2), (3, .int x3), (4, .int x4)] → W p l e { frames := 6, cells := mc, slots := ms, locals := 180 } s m args below meth c H locs cells slots (MQ below (Zi D cs A hz rz) args s mc ms A) (F0 m 136 ls [])) (h : Hp) (x1 : Int32) (x2 : Int32) (x3 : Int32) (x4 : Int32) (hJ : B_X10_looks_186 N k136 t0 h x1 x2 x3 x4 = some (hz, rz)) (hk0 : h.kd t0 = 13) {H : Heap} {locs : List Loc} {cells slots : Nat} (w : Wo D cs A s h0 h H locs cells slots) {ls : Array Slot} (hl : lv_has ls 6 [(0, .ref t0), (1, .int x1), (2, .int x2), (3, .int x3), (4, .int x4)]) : W p l e { frames := 6, cells := mc, slots := ms, locals := 180 } s m args below meth c H locs cells slots (MQ below (Zi D cs A hz rz) args s mc ms A) (F0 m 186 ls []) := by
  obtain ⟨hx, hb, hml, hown, hts, -⟩ := id C
  unfold B_X10_looks_186 at hJ
  refine lv_iconst (v := (0 : Int32)) hx hb dX10_looks_186 (by decide) ?_
  exact sb_X10_looks_187 C hz2 N k136 t0 m136 i136 _ _ _ _ _ _ hJ hk0 w hl
def B_X10_looks_173 (N : Nat) (k136 : Hp → Int32 → Int32 → Int32 → Int32 → Option (Hp × Int32)) (t0 : Nat) (h : Hp) (x1 : Int32) (x2 : Int32) (x3 : Int32) (x4 : Int32) (y0 : Int32) : Option (Hp × Int32) := dr h 30 (h.gr 1303 t0) (fun a29 => ck (¬ (x1 < 0 ∨ h.al a29 ≤ x1.toNatClampNeg)) (if y0 ≤ (h.bi a29 x1.toNatClampNeg) then (B_X10_looks_186 N k136 t0 h x1 x2 x3 x4) else (B_X10_looks_187 N k136 t0 h x1 x2 x3 x4 (1 : Int32))))
theorem mb_X10_looks_173 (N : Nat) (k136 : Hp → Int32 → Int32 → Int32 → Int32 → Option (Hp × Int32)) (t0 : Nat) (h : Hp) (x1 : Int32) (x2 : Int32) (x3 : Int32) (x4 : Int32) (y0 : Int32) (m136 : ∀ (h : Hp) (x1 : Int32) (x2 : Int32) (x3 : Int32) (x4 : Int32), k136 h x1 x2 x3 x4 = some (hz, rz) → Mo h hz) (hJ : B_X10_looks_173 N k136 t0 h x1 x2 x3 x4 y0 = some (hz, rz)) : Mo h hz := by
  unfold B_X10_looks_173 at hJ
  obtain ⟨a29, ea29, -, hJ⟩ := dr_some hJ
  obtain ⟨-, hJ⟩ := ck_some hJ
  by_cases c31 : y0 ≤ (h.bi a29 x1.toNatClampNeg)
  · have hJ := it_pos c31 hJ
    exact mb_X10_looks_186 N k136 t0 _ _ _ _ _ m136 hJ
  · have hJ := it_neg c31 hJ
    exact mb_X10_looks_187 N k136 t0 _ _ _ _ _ _ m136 hJ
set_option maxRecDepth 100000 in
set_option maxHeartbeats 4000000 in
theorem sb_X10_looks_173 (C : Cx p s m args meth c cX10_looks 6 (some .boolean) RX10 D cs A h0.se) (hz2 : hz.nx ≤ h0.nx + mc ∧ hz.su ≤ h0.su + ms) (N : Nat) (k136 : Hp → Int32 → Int32 → Int32 → Int32 → Option (Hp × Int32)) (t0 : Nat) (m136 : ∀ (h : Hp) (x1 : Int32) (x2 : Int32) (x3 : Int32) (x4 : Int32), k136 h x1 x2 x3 x4 = some (hz, rz) → Mo h hz) (i136 : ∀ (h : Hp) (x1 : Int32) (x2 : Int32) (x3 : Int32) (x4 : Int32) (H : Heap) (locs : List Loc) (cells slots : Nat) (ls : Array Slot), k136 h x1 x2 x3 x4 = some (hz, rz) → h.kd t0 = 13 → Wo D cs A s h0 h H locs cells slots → lv_has ls 6 [(0, .ref t0), (1, .int x1), (2, .int x2), (3, .int x3), (4, .int x4)] → W p l e { frames := 6, cells := mc, slots := ms, locals := 180 } s m args below meth c H locs cells slots (MQ below (Zi D cs A hz rz) args s mc ms A) (F0 m 136 ls [])) (h : Hp) (x1 : Int32) (x2 : Int32) (x3 : Int32) (x4 : Int32) (y0 : Int32) (hJ : B_X10_looks_173 N k136 t0 h x1 x2 x3 x4 y0 = some (hz, rz)) (hk0 : h.kd t0 = 13) {H : Heap} {locs : List Loc} {cells slots : Nat} (w : Wo D cs A s h0 h H locs cells slots) {ls : Array Slot} (hl : lv_has ls 6 [(0, .ref t0), (1, .int x1), (2, .int x2), (3, .int x3), (4, .int x4)]) : W p l e { frames := 6, cells := mc, slots := ms, locals := 180 } s m args below meth c H locs cells slots (MQ below (Zi D cs A hz rz) args s mc ms A) (F0 m 173 ls [.int y0]) := by
  obtain ⟨hx, hb, hml, hown, hts, -⟩ := id C
  unfold B_X10_looks_173 at hJ
  refine lv_aload_n hx hb dX10_looks_173 rfl (lv_at hl 0 rfl) ?_
  refine fg_1303 C w hk0 tw_6_166 dX10_looks_174 ?_
  refine lv_iload_n hx hb dX10_looks_177 rfl (lv_at hl 1 rfl) ?_
  obtain ⟨a29, ea29, hka29, hJ⟩ := dr_some hJ
  rw [ea29]
  obtain ⟨hi30, hJ⟩ := ck_some hJ
  refine jr_ialdM C w hka29 hi30 dX10_looks_178 ?_
  refine lv_icmp_le (tgt := 186) hx hb dX10_looks_179 (by decide) (fun c31 => ?_) (fun c31 => ?_)
  · have hJ := it_pos c31 hJ
    exact sb_X10_looks_186 C hz2 N k136 t0 m136 i136 _ _ _ _ _ hJ hk0 w hl
  · have hJ := it_neg c31 hJ
    refine lv_iconst (v := (1 : Int32)) hx hb dX10_looks_182 (by decide) ?_
    refine lv_goto (tgt := 187) hx hb dX10_looks_183 (by decide) ?_
    exact sb_X10_looks_187 C hz2 N k136 t0 m136 i136 _ _ _ _ _ _ hJ hk0 w hl
def B_X10_looks_136 (N : Nat) (k136 : Hp → Int32 → Int32 → Int32 → Int32 → Option (Hp × Int32)) (t0 : Nat) (h : Hp) (x1 : Int32) (x2 : Int32) (x3 : Int32) (x4 : Int32) : Option (Hp × Int32) := if (h.gi 1328 t0) ≤ x4 then (some (h, (1 : Int32))) else (dr h 30 (h.gr 1324 t0) (fun a33 => ck (¬ (x4 < 0 ∨ h.al a33 ≤ x4.toNatClampNeg)) (if (h.bi a33 x4.toNatClampNeg) < x2 then (B_X10_looks_186 N k136 t0 h x1 x2 x3 x4) else (dr h 30 (h.gr 1324 t0) (fun a36 => ck (¬ (x4 < 0 ∨ h.al a36 ≤ x4.toNatClampNeg)) (if x3 < (h.bi a36 x4.toNatClampNeg) then (B_X10_looks_186 N k136 t0 h x1 x2 x3 x4) else ((J_X10_momentOf N t0 h x4).bind (fun z => B_X10_looks_173 N k136 t0 z.1 x1 x2 x3 x4 z.2))))))))
theorem mb_X10_looks_136 (N : Nat) (k136 : Hp → Int32 → Int32 → Int32 → Int32 → Option (Hp × Int32)) (t0 : Nat) (h : Hp) (x1 : Int32) (x2 : Int32) (x3 : Int32) (x4 : Int32) (m136 : ∀ (h : Hp) (x1 : Int32) (x2 : Int32) (x3 : Int32) (x4 : Int32), k136 h x1 x2 x3 x4 = some (hz, rz) → Mo h hz) (hJ : B_X10_looks_136 N k136 t0 h x1 x2 x3 x4 = some (hz, rz)) : Mo h hz := by
  unfold B_X10_looks_136 at hJ
  by_cases c32 : (h.gi 1328 t0) ≤ x4
  · have hJ := it_pos c32 hJ
    obtain ⟨rfl, -⟩ := rs2 hJ
    exact ⟨fun _ _ => rfl, Nat.le_refl _, Nat.le_refl _, rfl, fun _ _ => rfl⟩
  · have hJ := it_neg c32 hJ
    obtain ⟨a33, ea33, -, hJ⟩ := dr_some hJ
    obtain ⟨-, hJ⟩ := ck_some hJ
    by_cases c35 : (h.bi a33 x4.toNatClampNeg) < x2
    · have hJ := it_pos c35 hJ
      exact mb_X10_looks_186 N k136 t0 _ _ _ _ _ m136 hJ
    · have hJ := it_neg c35 hJ
      obtain ⟨a36, ea36, -, hJ⟩ := dr_some hJ
      obtain ⟨-, hJ⟩ := ck_some hJ
      by_cases c38 : x3 < (h.bi a36 x4.toNatClampNeg)
      · have hJ := it_pos c38 hJ
        exact mb_X10_looks_186 N k136 t0 _ _ _ _ _ m136 hJ
      · have hJ := it_neg c38 hJ
        obtain ⟨⟨h39, r40⟩, e41, hJ⟩ := ob_some hJ
        exact (mo_X10_momentOf N t0 h x4 e41).tr (mb_X10_looks_173 N k136 t0 _ _ _ _ _ _ m136 hJ)
set_option maxRecDepth 100000 in
set_option maxHeartbeats 4000000 in
theorem sb_X10_looks_136 (C : Cx p s m args meth c cX10_looks 6 (some .boolean) RX10 D cs A h0.se) (hz2 : hz.nx ≤ h0.nx + mc ∧ hz.su ≤ h0.su + ms) (N : Nat) (k136 : Hp → Int32 → Int32 → Int32 → Int32 → Option (Hp × Int32)) (t0 : Nat) (m136 : ∀ (h : Hp) (x1 : Int32) (x2 : Int32) (x3 : Int32) (x4 : Int32), k136 h x1 x2 x3 x4 = some (hz, rz) → Mo h hz) (i136 : ∀ (h : Hp) (x1 : Int32) (x2 : Int32) (x3 : Int32) (x4 : Int32) (H : Heap) (locs : List Loc) (cells slots : Nat) (ls : Array Slot), k136 h x1 x2 x3 x4 = some (hz, rz) → h.kd t0 = 13 → Wo D cs A s h0 h H locs cells slots → lv_has ls 6 [(0, .ref t0), (1, .int x1), (2, .int x2), (3, .int x3), (4, .int x4)] → W p l e { frames := 6, cells := mc, slots := ms, locals := 180 } s m args below meth c H locs cells slots (MQ below (Zi D cs A hz rz) args s mc ms A) (F0 m 136 ls [])) (h : Hp) (x1 : Int32) (x2 : Int32) (x3 : Int32) (x4 : Int32) (hJ : B_X10_looks_136 N k136 t0 h x1 x2 x3 x4 = some (hz, rz)) (hk0 : h.kd t0 = 13) {H : Heap} {locs : List Loc} {cells slots : Nat} (w : Wo D cs A s h0 h H locs cells slots) {ls : Array Slot} (hl : lv_has ls 6 [(0, .ref t0), (1, .int x1), (2, .int x2), (3, .int x3), (4, .int x4)]) : W p l e { frames := 6, cells := mc, slots := ms, locals := 180 } s m args below meth c H locs cells slots (MQ below (Zi D cs A hz rz) args s mc ms A) (F0 m 136 ls []) := by
  obtain ⟨hx, hb, hml, hown, hts, -⟩ := id C
  unfold B_X10_looks_136 at hJ
  refine lv_iload hx hb dX10_looks_136 (lv_at hl 4 rfl) ?_
  refine lv_aload_n hx hb dX10_looks_138 rfl (lv_at hl 0 rfl) ?_
  refine fg_1328 C w hk0 tw_6_191 dX10_looks_139 ?_
  refine lv_icmp_ge (tgt := 223) hx hb dX10_looks_142 (by decide) (fun c32 => ?_) (fun c32 => ?_)
  · have hJ := it_pos c32 hJ
    refine lv_iconst (v := (1 : Int32)) hx hb dX10_looks_223 (by decide) ?_
    obtain ⟨rfl, rfl⟩ := rs2 hJ
    exact jr_zret C w (Or.inr rfl) hz2 dX10_looks_224
  · have hJ := it_neg c32 hJ
    refine lv_aload_n hx hb dX10_looks_145 rfl (lv_at hl 0 rfl) ?_
    refine fg_1324 C w hk0 tw_6_187 dX10_looks_146 ?_
    refine lv_iload hx hb dX10_looks_149 (lv_at hl 4 rfl) ?_
    obtain ⟨a33, ea33, hka33, hJ⟩ := dr_some hJ
    rw [ea33]
    obtain ⟨hi34, hJ⟩ := ck_some hJ
    refine jr_ialdM C w hka33 hi34 dX10_looks_151 ?_
    refine lv_iload_n hx hb dX10_looks_152 rfl (lv_at hl 2 rfl) ?_
    refine lv_icmp_lt (tgt := 186) hx hb dX10_looks_153 (by decide) (fun c35 => ?_) (fun c35 => ?_)
    · have hJ := it_pos c35 hJ
      exact sb_X10_looks_186 C hz2 N k136 t0 m136 i136 _ _ _ _ _ hJ hk0 w hl
    · have hJ := it_neg c35 hJ
      refine lv_aload_n hx hb dX10_looks_156 rfl (lv_at hl 0 rfl) ?_
      refine fg_1324 C w hk0 tw_6_187 dX10_looks_157 ?_
      refine lv_iload hx hb dX10_looks_160 (lv_at hl 4 rfl) ?_
      obtain ⟨a36, ea36, hka36, hJ⟩ := dr_some hJ
      rw [ea36]
      obtain ⟨hi37, hJ⟩ := ck_some hJ
      refine jr_ialdM C w hka36 hi37 dX10_looks_162 ?_
      refine lv_iload_n hx hb dX10_looks_163 rfl (lv_at hl 3 rfl) ?_
      refine lv_icmp_gt (tgt := 186) hx hb dX10_looks_164 (by decide) (fun c38 => ?_) (fun c38 => ?_)
      · have hJ := it_pos c38 hJ
        exact sb_X10_looks_186 C hz2 N k136 t0 m136 i136 _ _ _ _ _ hJ hk0 w hl
      · have hJ := it_neg c38 hJ
        refine lv_aload_n hx hb dX10_looks_167 rfl (lv_at hl 0 rfl) ?_
        refine lv_iload hx hb dX10_looks_168 (lv_at hl 4 rfl) ?_
        obtain ⟨⟨h39, r40⟩, e41, hJ⟩ := ob_some hJ
        refine jc_Vi (As := [.int x4]) C w (cc_X10_momentOf N t0 h x4 hk0 e41) (mo_X10_momentOf N t0 h x4 e41) (mb_X10_looks_173 N k136 t0 _ _ _ _ _ _ m136 hJ) hz2 hk0 (by decide) rfl (fs := fs13 h t0) rfl rfl ⟨tw_7_182, tw_7_179, tw_7_181, ts_41, tw_1_7⟩ cd_X10_momentOf ⟨by decide, by decide⟩ hl.1 (by first | exact Nat.le_of_ble_eq_true rfl | simp [rf_cat, cat_i, cat_l, cat_r]) rfl dX10_looks_170 (fun H locs w1 => ?_)
        have hk42 := kd_keep w (mo_X10_momentOf N t0 h x4 e41) hk0 (by decide)
        have w := w1
        exact sb_X10_looks_173 C hz2 N k136 t0 m136 i136 _ _ _ _ _ _ hJ hk42 w hl
def L_X10_looks_136 (N : Nat) (t0 : Nat) : Nat → Hp → Int32 → Int32 → Int32 → Int32 → Option (Hp × Int32)
  | 0 => fun _ _ _ _ _ => none
  | n + 1 => fun h x1 x2 x3 x4 => B_X10_looks_136 N (L_X10_looks_136 N t0 n) t0 h x1 x2 x3 x4
theorem ml_X10_looks_136 (N : Nat) (t0 : Nat) : ∀ (n : Nat) (h : Hp) (x1 : Int32) (x2 : Int32) (x3 : Int32) (x4 : Int32), L_X10_looks_136 N t0 n h x1 x2 x3 x4 = some (hz, rz) → Mo h hz := by
  intro n
  induction n with
  | zero => intro h x1 x2 x3 x4 hJ; cases hJ
  | succ n ih => intro h x1 x2 x3 x4 hJ; exact mb_X10_looks_136 N (L_X10_looks_136 N t0 n) t0 h x1 x2 x3 x4 ih hJ
theorem sl_X10_looks_136 (C : Cx p s m args meth c cX10_looks 6 (some .boolean) RX10 D cs A h0.se) (hz2 : hz.nx ≤ h0.nx + mc ∧ hz.su ≤ h0.su + ms) (N : Nat) (t0 : Nat) : ∀ n : Nat, ∀ (h : Hp) (x1 : Int32) (x2 : Int32) (x3 : Int32) (x4 : Int32) (H : Heap) (locs : List Loc) (cells slots : Nat) (ls : Array Slot), L_X10_looks_136 N t0 n h x1 x2 x3 x4 = some (hz, rz) → h.kd t0 = 13 → Wo D cs A s h0 h H locs cells slots → lv_has ls 6 [(0, .ref t0), (1, .int x1), (2, .int x2), (3, .int x3), (4, .int x4)] → W p l e { frames := 6, cells := mc, slots := ms, locals := 180 } s m args below meth c H locs cells slots (MQ below (Zi D cs A hz rz) args s mc ms A) (F0 m 136 ls []) := by
  intro n
  induction n with
  | zero => intro h x1 x2 x3 x4 H locs cells slots ls hJ; cases hJ
  | succ n ih =>
    intro h x1 x2 x3 x4 H locs cells slots ls hJ hk0 w hl
    exact sb_X10_looks_136 C hz2 N (L_X10_looks_136 N t0 n) t0 (ml_X10_looks_136 N t0 n) ih h x1 x2 x3 x4 hJ hk0 w hl
def B_X10_looks_133 (N : Nat) (t0 : Nat) (h : Hp) (x1 : Int32) (x2 : Int32) (x3 : Int32) : Option (Hp × Int32) := L_X10_looks_136 N t0 N h x1 x2 x3 (0 : Int32)
theorem mb_X10_looks_133 (N : Nat) (t0 : Nat) (h : Hp) (x1 : Int32) (x2 : Int32) (x3 : Int32) (hJ : B_X10_looks_133 N t0 h x1 x2 x3 = some (hz, rz)) : Mo h hz := by
  unfold B_X10_looks_133 at hJ
  exact ml_X10_looks_136 N t0 N _ _ _ _ _ hJ
set_option maxRecDepth 100000 in
set_option maxHeartbeats 4000000 in
theorem sb_X10_looks_133 (C : Cx p s m args meth c cX10_looks 6 (some .boolean) RX10 D cs A h0.se) (hz2 : hz.nx ≤ h0.nx + mc ∧ hz.su ≤ h0.su + ms) (N : Nat) (t0 : Nat) (h : Hp) (x1 : Int32) (x2 : Int32) (x3 : Int32) (hJ : B_X10_looks_133 N t0 h x1 x2 x3 = some (hz, rz)) (hk0 : h.kd t0 = 13) {H : Heap} {locs : List Loc} {cells slots : Nat} (w : Wo D cs A s h0 h H locs cells slots) {ls : Array Slot} (hl : lv_has ls 6 [(0, .ref t0), (1, .int x1), (2, .int x2), (3, .int x3)]) : W p l e { frames := 6, cells := mc, slots := ms, locals := 180 } s m args below meth c H locs cells slots (MQ below (Zi D cs A hz rz) args s mc ms A) (F0 m 133 ls []) := by
  obtain ⟨hx, hb, hml, hown, hts, -⟩ := id C
  unfold B_X10_looks_133 at hJ
  refine lv_iconst (v := (0 : Int32)) hx hb dX10_looks_133 (by decide) ?_
  refine lv_istore (i := 4) (lv' := [(4, .int (0 : Int32)), (0, .ref t0), (1, .int x1), (2, .int x2), (3, .int x3)]) hx hb dX10_looks_134 hl (by decide) rfl (fun ls hl => ?_)
  exact sl_X10_looks_136 C hz2 N t0 N _ _ _ _ _ _ _ _ _ _ hJ hk0 w (lv_sub (l' := [(0, .ref t0), (1, .int x1), (2, .int x2), (3, .int x3), (4, .int (0 : Int32))]) hl [1, 2, 3, 4, 0] rfl)
def B_X10_looks_3 (N : Nat) (k3 : Hp → Int32 → Int32 → Int32 → Int32 → Option (Hp × Int32)) (t0 : Nat) (h : Hp) (x1 : Int32) (x2 : Int32) (x3 : Int32) (x4 : Int32) : Option (Hp × Int32) := if (h.gi 1328 t0) ≤ x4 then (dr h 30 (h.gr 1320 t0) (fun a44 => ck (¬ (h.gi 1323 t0 < 0 ∨ h.al a44 ≤ (h.gi 1323 t0).toNatClampNeg)) (dr (h.sbi a44 (h.gi 1323 t0).toNatClampNeg x1) 30 ((h.sbi a44 (h.gi 1323 t0).toNatClampNeg x1).gr 1321 t0) (fun a46 => ck (¬ ((h.sbi a44 (h.gi 1323 t0).toNatClampNeg x1).gi 1323 t0 < 0 ∨ (h.sbi a44 (h.gi 1323 t0).toNatClampNeg x1).al a46 ≤ ((h.sbi a44 (h.gi 1323 t0).toNatClampNeg x1).gi 1323 t0).toNatClampNeg)) (dr ((h.sbi a44 (h.gi 1323 t0).toNatClampNeg x1).sbi a46 ((h.sbi a44 (h.gi 1323 t0).toNatClampNeg x1).gi 1323 t0).toNatClampNeg x2) 30 (((h.sbi a44 (h.gi 1323 t0).toNatClampNeg x1).sbi a46 ((h.sbi a44 (h.gi 1323 t0).toNatClampNeg x1).gi 1323 t0).toNatClampNeg x2).gr 1322 t0) (fun a48 => ck (¬ (((h.sbi a44 (h.gi 1323 t0).toNatClampNeg x1).sbi a46 ((h.sbi a44 (h.gi 1323 t0).toNatClampNeg x1).gi 1323 t0).toNatClampNeg x2).gi 1323 t0 < 0 ∨ ((h.sbi a44 (h.gi 1323 t0).toNatClampNeg x1).sbi a46 ((h.sbi a44 (h.gi 1323 t0).toNatClampNeg x1).gi 1323 t0).toNatClampNeg x2).al a48 ≤ (((h.sbi a44 (h.gi 1323 t0).toNatClampNeg x1).sbi a46 ((h.sbi a44 (h.gi 1323 t0).toNatClampNeg x1).gi 1323 t0).toNatClampNeg x2).gi 1323 t0).toNatClampNeg)) (B_X10_looks_133 N t0 ((((h.sbi a44 (h.gi 1323 t0).toNatClampNeg x1).sbi a46 ((h.sbi a44 (h.gi 1323 t0).toNatClampNeg x1).gi 1323 t0).toNatClampNeg x2).sbi a48 (((h.sbi a44 (h.gi 1323 t0).toNatClampNeg x1).sbi a46 ((h.sbi a44 (h.gi 1323 t0).toNatClampNeg x1).gi 1323 t0).toNatClampNeg x2).gi 1323 t0).toNatClampNeg x3).sgi 1323 t0 (((((h.sbi a44 (h.gi 1323 t0).toNatClampNeg x1).sbi a46 ((h.sbi a44 (h.gi 1323 t0).toNatClampNeg x1).gi 1323 t0).toNatClampNeg x2).sbi a48 (((h.sbi a44 (h.gi 1323 t0).toNatClampNeg x1).sbi a46 ((h.sbi a44 (h.gi 1323 t0).toNatClampNeg x1).gi 1323 t0).toNatClampNeg x2).gi 1323 t0).toNatClampNeg x3).gi 1323 t0) + (1 : Int32))) x1 x2 x3))))))) else (dr h 30 (h.gr 1324 t0) (fun a50 => ck (¬ (x4 < 0 ∨ h.al a50 ≤ x4.toNatClampNeg)) (if (h.bi a50 x4.toNatClampNeg) < x2 then (B_X10_looks_87 N k3 t0 h x1 x2 x3 x4) else (dr h 30 (h.gr 1324 t0) (fun a53 => ck (¬ (x4 < 0 ∨ h.al a53 ≤ x4.toNatClampNeg)) (if x3 < (h.bi a53 x4.toNatClampNeg) then (B_X10_looks_87 N k3 t0 h x1 x2 x3 x4) else ((J_X10_momentOf N t0 h x4).bind (fun z => B_X10_looks_40 N k3 t0 z.1 x1 x2 x3 x4 z.2))))))))
theorem mb_X10_looks_3 (N : Nat) (k3 : Hp → Int32 → Int32 → Int32 → Int32 → Option (Hp × Int32)) (t0 : Nat) (h : Hp) (x1 : Int32) (x2 : Int32) (x3 : Int32) (x4 : Int32) (m3 : ∀ (h : Hp) (x1 : Int32) (x2 : Int32) (x3 : Int32) (x4 : Int32), k3 h x1 x2 x3 x4 = some (hz, rz) → Mo h hz) (hJ : B_X10_looks_3 N k3 t0 h x1 x2 x3 x4 = some (hz, rz)) : Mo h hz := by
  unfold B_X10_looks_3 at hJ
  by_cases c43 : (h.gi 1328 t0) ≤ x4
  · have hJ := it_pos c43 hJ
    obtain ⟨a44, ea44, -, hJ⟩ := dr_some hJ
    obtain ⟨-, hJ⟩ := ck_some hJ
    obtain ⟨a46, ea46, -, hJ⟩ := dr_some hJ
    obtain ⟨-, hJ⟩ := ck_some hJ
    obtain ⟨a48, ea48, -, hJ⟩ := dr_some hJ
    obtain ⟨-, hJ⟩ := ck_some hJ
    exact (Mo.tr (show Mo h ((((h.sbi a44 (h.gi 1323 t0).toNatClampNeg x1).sbi a46 ((h.sbi a44 (h.gi 1323 t0).toNatClampNeg x1).gi 1323 t0).toNatClampNeg x2).sbi a48 (((h.sbi a44 (h.gi 1323 t0).toNatClampNeg x1).sbi a46 ((h.sbi a44 (h.gi 1323 t0).toNatClampNeg x1).gi 1323 t0).toNatClampNeg x2).gi 1323 t0).toNatClampNeg x3).sgi 1323 t0 (((((h.sbi a44 (h.gi 1323 t0).toNatClampNeg x1).sbi a46 ((h.sbi a44 (h.gi 1323 t0).toNatClampNeg x1).gi 1323 t0).toNatClampNeg x2).sbi a48 (((h.sbi a44 (h.gi 1323 t0).toNatClampNeg x1).sbi a46 ((h.sbi a44 (h.gi 1323 t0).toNatClampNeg x1).gi 1323 t0).toNatClampNeg x2).gi 1323 t0).toNatClampNeg x3).gi 1323 t0) + (1 : Int32))) from ⟨fun _ _ => rfl, Nat.le_refl _, Nat.le_refl _, rfl, fun _ _ => rfl⟩) (mb_X10_looks_133 N t0 _ _ _ _ hJ))
  · have hJ := it_neg c43 hJ
    obtain ⟨a50, ea50, -, hJ⟩ := dr_some hJ
    obtain ⟨-, hJ⟩ := ck_some hJ
    by_cases c52 : (h.bi a50 x4.toNatClampNeg) < x2
    · have hJ := it_pos c52 hJ
      exact mb_X10_looks_87 N k3 t0 _ _ _ _ _ m3 hJ
    · have hJ := it_neg c52 hJ
      obtain ⟨a53, ea53, -, hJ⟩ := dr_some hJ
      obtain ⟨-, hJ⟩ := ck_some hJ
      by_cases c55 : x3 < (h.bi a53 x4.toNatClampNeg)
      · have hJ := it_pos c55 hJ
        exact mb_X10_looks_87 N k3 t0 _ _ _ _ _ m3 hJ
      · have hJ := it_neg c55 hJ
        obtain ⟨⟨h56, r57⟩, e58, hJ⟩ := ob_some hJ
        exact (mo_X10_momentOf N t0 h x4 e58).tr (mb_X10_looks_40 N k3 t0 _ _ _ _ _ _ m3 hJ)
set_option maxRecDepth 100000 in
set_option maxHeartbeats 4000000 in
theorem sb_X10_looks_3 (C : Cx p s m args meth c cX10_looks 6 (some .boolean) RX10 D cs A h0.se) (hz2 : hz.nx ≤ h0.nx + mc ∧ hz.su ≤ h0.su + ms) (N : Nat) (k3 : Hp → Int32 → Int32 → Int32 → Int32 → Option (Hp × Int32)) (t0 : Nat) (m3 : ∀ (h : Hp) (x1 : Int32) (x2 : Int32) (x3 : Int32) (x4 : Int32), k3 h x1 x2 x3 x4 = some (hz, rz) → Mo h hz) (i3 : ∀ (h : Hp) (x1 : Int32) (x2 : Int32) (x3 : Int32) (x4 : Int32) (H : Heap) (locs : List Loc) (cells slots : Nat) (ls : Array Slot), k3 h x1 x2 x3 x4 = some (hz, rz) → h.kd t0 = 13 → Wo D cs A s h0 h H locs cells slots → lv_has ls 6 [(0, .ref t0), (1, .int x1), (2, .int x2), (3, .int x3), (4, .int x4)] → W p l e { frames := 6, cells := mc, slots := ms, locals := 180 } s m args below meth c H locs cells slots (MQ below (Zi D cs A hz rz) args s mc ms A) (F0 m 3 ls [])) (h : Hp) (x1 : Int32) (x2 : Int32) (x3 : Int32) (x4 : Int32) (hJ : B_X10_looks_3 N k3 t0 h x1 x2 x3 x4 = some (hz, rz)) (hk0 : h.kd t0 = 13) {H : Heap} {locs : List Loc} {cells slots : Nat} (w : Wo D cs A s h0 h H locs cells slots) {ls : Array Slot} (hl : lv_has ls 6 [(0, .ref t0), (1, .int x1), (2, .int x2), (3, .int x3), (4, .int x4)]) : W p l e { frames := 6, cells := mc, slots := ms, locals := 180 } s m args below meth c H locs cells slots (MQ below (Zi D cs A hz rz) args s mc ms A) (F0 m 3 ls []) := by
  obtain ⟨hx, hb, hml, hown, hts, -⟩ := id C
  unfold B_X10_looks_3 at hJ
  refine lv_iload hx hb dX10_looks_3 (lv_at hl 4 rfl) ?_
  refine lv_aload_n hx hb dX10_looks_5 rfl (lv_at hl 0 rfl) ?_
  refine fg_1328 C w hk0 tw_6_191 dX10_looks_6 ?_
  refine lv_icmp_ge (tgt := 93) hx hb dX10_looks_9 (by decide) (fun c43 => ?_) (fun c43 => ?_)
  · have hJ := it_pos c43 hJ
    refine lv_aload_n hx hb dX10_looks_93 rfl (lv_at hl 0 rfl) ?_
    refine fg_1320 C w hk0 tw_6_183 dX10_looks_94 ?_
    refine lv_aload_n hx hb dX10_looks_97 rfl (lv_at hl 0 rfl) ?_
    refine fg_1323 C w hk0 tw_6_186 dX10_looks_98 ?_
    refine lv_iload_n hx hb dX10_looks_101 rfl (lv_at hl 1 rfl) ?_
    obtain ⟨a44, ea44, hka44, hJ⟩ := dr_some hJ
    rw [ea44]
    obtain ⟨hi45, hJ⟩ := ck_some hJ
    refine jr_iastM C w hka44 hi45 dX10_looks_102 (fun H locs w => ?_)
    refine lv_aload_n hx hb dX10_looks_103 rfl (lv_at hl 0 rfl) ?_
    refine fg_1321 C w hk0 tw_6_184 dX10_looks_104 ?_
    refine lv_aload_n hx hb dX10_looks_107 rfl (lv_at hl 0 rfl) ?_
    refine fg_1323 C w hk0 tw_6_186 dX10_looks_108 ?_
    refine lv_iload_n hx hb dX10_looks_111 rfl (lv_at hl 2 rfl) ?_
    obtain ⟨a46, ea46, hka46, hJ⟩ := dr_some hJ
    rw [ea46]
    obtain ⟨hi47, hJ⟩ := ck_some hJ
    refine jr_iastM C w hka46 hi47 dX10_looks_112 (fun H locs w => ?_)
    refine lv_aload_n hx hb dX10_looks_113 rfl (lv_at hl 0 rfl) ?_
    refine fg_1322 C w hk0 tw_6_185 dX10_looks_114 ?_
    refine lv_aload_n hx hb dX10_looks_117 rfl (lv_at hl 0 rfl) ?_
    refine fg_1323 C w hk0 tw_6_186 dX10_looks_118 ?_
    refine lv_iload_n hx hb dX10_looks_121 rfl (lv_at hl 3 rfl) ?_
    obtain ⟨a48, ea48, hka48, hJ⟩ := dr_some hJ
    rw [ea48]
    obtain ⟨hi49, hJ⟩ := ck_some hJ
    refine jr_iastM C w hka48 hi49 dX10_looks_122 (fun H locs w => ?_)
    refine lv_aload_n hx hb dX10_looks_123 rfl (lv_at hl 0 rfl) ?_
    refine lv_dup hx hb dX10_looks_124 rfl ?_
    refine fg_1323 C w hk0 tw_6_186 dX10_looks_125 ?_
    refine lv_iconst (v := (1 : Int32)) hx hb dX10_looks_128 (by decide) ?_
    refine lv_iadd hx hb dX10_looks_129 ?_
    refine fp_1323 (x := ((((h.sbi a44 (h.gi 1323 t0).toNatClampNeg x1).sbi a46 ((h.sbi a44 (h.gi 1323 t0).toNatClampNeg x1).gi 1323 t0).toNatClampNeg x2).sbi a48 (((h.sbi a44 (h.gi 1323 t0).toNatClampNeg x1).sbi a46 ((h.sbi a44 (h.gi 1323 t0).toNatClampNeg x1).gi 1323 t0).toNatClampNeg x2).gi 1323 t0).toNatClampNeg x3).gi 1323 t0) + (1 : Int32)) C w hk0 tw_6_186 dX10_looks_130 (fun H locs w => ?_)
    exact sb_X10_looks_133 C hz2 N t0 _ _ _ _ hJ hk0 w (lv_sub (l' := [(0, .ref t0), (1, .int x1), (2, .int x2), (3, .int x3)]) hl [0, 1, 2, 3] rfl)
  · have hJ := it_neg c43 hJ
    refine lv_aload_n hx hb dX10_looks_12 rfl (lv_at hl 0 rfl) ?_
    refine fg_1324 C w hk0 tw_6_187 dX10_looks_13 ?_
    refine lv_iload hx hb dX10_looks_16 (lv_at hl 4 rfl) ?_
    obtain ⟨a50, ea50, hka50, hJ⟩ := dr_some hJ
    rw [ea50]
    obtain ⟨hi51, hJ⟩ := ck_some hJ
    refine jr_ialdM C w hka50 hi51 dX10_looks_18 ?_
    refine lv_iload_n hx hb dX10_looks_19 rfl (lv_at hl 2 rfl) ?_
    refine lv_icmp_lt (tgt := 87) hx hb dX10_looks_20 (by decide) (fun c52 => ?_) (fun c52 => ?_)
    · have hJ := it_pos c52 hJ
      exact sb_X10_looks_87 C hz2 N k3 t0 m3 i3 _ _ _ _ _ hJ hk0 w hl
    · have hJ := it_neg c52 hJ
      refine lv_aload_n hx hb dX10_looks_23 rfl (lv_at hl 0 rfl) ?_
      refine fg_1324 C w hk0 tw_6_187 dX10_looks_24 ?_
      refine lv_iload hx hb dX10_looks_27 (lv_at hl 4 rfl) ?_
      obtain ⟨a53, ea53, hka53, hJ⟩ := dr_some hJ
      rw [ea53]
      obtain ⟨hi54, hJ⟩ := ck_some hJ
      refine jr_ialdM C w hka53 hi54 dX10_looks_29 ?_
      refine lv_iload_n hx hb dX10_looks_30 rfl (lv_at hl 3 rfl) ?_
      refine lv_icmp_gt (tgt := 87) hx hb dX10_looks_31 (by decide) (fun c55 => ?_) (fun c55 => ?_)
      · have hJ := it_pos c55 hJ
        exact sb_X10_looks_87 C hz2 N k3 t0 m3 i3 _ _ _ _ _ hJ hk0 w hl
      · have hJ := it_neg c55 hJ
        refine lv_aload_n hx hb dX10_looks_34 rfl (lv_at hl 0 rfl) ?_
        refine lv_iload hx hb dX10_looks_35 (lv_at hl 4 rfl) ?_
        obtain ⟨⟨h56, r57⟩, e58, hJ⟩ := ob_some hJ
        refine jc_Vi (As := [.int x4]) C w (cc_X10_momentOf N t0 h x4 hk0 e58) (mo_X10_momentOf N t0 h x4 e58) (mb_X10_looks_40 N k3 t0 _ _ _ _ _ _ m3 hJ) hz2 hk0 (by decide) rfl (fs := fs13 h t0) rfl rfl ⟨tw_7_182, tw_7_179, tw_7_181, ts_41, tw_1_7⟩ cd_X10_momentOf ⟨by decide, by decide⟩ hl.1 (by first | exact Nat.le_of_ble_eq_true rfl | simp [rf_cat, cat_i, cat_l, cat_r]) rfl dX10_looks_37 (fun H locs w1 => ?_)
        have hk59 := kd_keep w (mo_X10_momentOf N t0 h x4 e58) hk0 (by decide)
        have w := w1
        exact sb_X10_looks_40 C hz2 N k3 t0 m3 i3 _ _ _ _ _ _ hJ hk59 w hl
def L_X10_looks_3 (N : Nat) (t0 : Nat) : Nat → Hp → Int32 → Int32 → Int32 → Int32 → Option (Hp × Int32)
  | 0 => fun _ _ _ _ _ => none
  | n + 1 => fun h x1 x2 x3 x4 => B_X10_looks_3 N (L_X10_looks_3 N t0 n) t0 h x1 x2 x3 x4
theorem ml_X10_looks_3 (N : Nat) (t0 : Nat) : ∀ (n : Nat) (h : Hp) (x1 : Int32) (x2 : Int32) (x3 : Int32) (x4 : Int32), L_X10_looks_3 N t0 n h x1 x2 x3 x4 = some (hz, rz) → Mo h hz := by
  intro n
  induction n with
  | zero => intro h x1 x2 x3 x4 hJ; cases hJ
  | succ n ih => intro h x1 x2 x3 x4 hJ; exact mb_X10_looks_3 N (L_X10_looks_3 N t0 n) t0 h x1 x2 x3 x4 ih hJ
theorem sl_X10_looks_3 (C : Cx p s m args meth c cX10_looks 6 (some .boolean) RX10 D cs A h0.se) (hz2 : hz.nx ≤ h0.nx + mc ∧ hz.su ≤ h0.su + ms) (N : Nat) (t0 : Nat) : ∀ n : Nat, ∀ (h : Hp) (x1 : Int32) (x2 : Int32) (x3 : Int32) (x4 : Int32) (H : Heap) (locs : List Loc) (cells slots : Nat) (ls : Array Slot), L_X10_looks_3 N t0 n h x1 x2 x3 x4 = some (hz, rz) → h.kd t0 = 13 → Wo D cs A s h0 h H locs cells slots → lv_has ls 6 [(0, .ref t0), (1, .int x1), (2, .int x2), (3, .int x3), (4, .int x4)] → W p l e { frames := 6, cells := mc, slots := ms, locals := 180 } s m args below meth c H locs cells slots (MQ below (Zi D cs A hz rz) args s mc ms A) (F0 m 3 ls []) := by
  intro n
  induction n with
  | zero => intro h x1 x2 x3 x4 H locs cells slots ls hJ; cases hJ
  | succ n ih =>
    intro h x1 x2 x3 x4 H locs cells slots ls hJ hk0 w hl
    exact sb_X10_looks_3 C hz2 N (L_X10_looks_3 N t0 n) t0 (ml_X10_looks_3 N t0 n) ih h x1 x2 x3 x4 hJ hk0 w hl
def B_X10_looks_0 (N : Nat) (t0 : Nat) (h : Hp) (x1 : Int32) (x2 : Int32) (x3 : Int32) : Option (Hp × Int32) := L_X10_looks_3 N t0 N h x1 x2 x3 (0 : Int32)
theorem mb_X10_looks_0 (N : Nat) (t0 : Nat) (h : Hp) (x1 : Int32) (x2 : Int32) (x3 : Int32) (hJ : B_X10_looks_0 N t0 h x1 x2 x3 = some (hz, rz)) : Mo h hz := by
  unfold B_X10_looks_0 at hJ
  exact ml_X10_looks_3 N t0 N _ _ _ _ _ hJ
set_option maxRecDepth 100000 in
set_option maxHeartbeats 4000000 in
theorem sb_X10_looks_0 (C : Cx p s m args meth c cX10_looks 6 (some .boolean) RX10 D cs A h0.se) (hz2 : hz.nx ≤ h0.nx + mc ∧ hz.su ≤ h0.su + ms) (N : Nat) (t0 : Nat) (h : Hp) (x1 : Int32) (x2 : Int32) (x3 : Int32) (hJ : B_X10_looks_0 N t0 h x1 x2 x3 = some (hz, rz)) (hk0 : h.kd t0 = 13) {H : Heap} {locs : List Loc} {cells slots : Nat} (w : Wo D cs A s h0 h H locs cells slots) {ls : Array Slot} (hl : lv_has ls 6 [(0, .ref t0), (1, .int x1), (2, .int x2), (3, .int x3)]) : W p l e { frames := 6, cells := mc, slots := ms, locals := 180 } s m args below meth c H locs cells slots (MQ below (Zi D cs A hz rz) args s mc ms A) (F0 m 0 ls []) := by
  obtain ⟨hx, hb, hml, hown, hts, -⟩ := id C
  unfold B_X10_looks_0 at hJ
  refine lv_iconst (v := (0 : Int32)) hx hb dX10_looks_0 (by decide) ?_
  refine lv_istore (i := 4) (lv' := [(4, .int (0 : Int32)), (0, .ref t0), (1, .int x1), (2, .int x2), (3, .int x3)]) hx hb dX10_looks_1 hl (by decide) rfl (fun ls hl => ?_)
  exact sl_X10_looks_3 C hz2 N t0 N _ _ _ _ _ _ _ _ _ _ hJ hk0 w (lv_sub (l' := [(0, .ref t0), (1, .int x1), (2, .int x2), (3, .int x3), (4, .int (0 : Int32))]) hl [1, 2, 3, 4, 0] rfl)
def J_X10_looks (N : Nat) (t0 : Nat) (h : Hp) (x1 : Int32) (x2 : Int32) (x3 : Int32) : Option (Hp × Int32) := B_X10_looks_0 N t0 h x1 x2 x3
theorem mo_X10_looks (N : Nat) (t0 : Nat) (h : Hp) (x1 : Int32) (x2 : Int32) (x3 : Int32) (hJ : J_X10_looks N t0 h x1 x2 x3 = some (hz, rz)) : Mo h hz := mb_X10_looks_0 N t0 h x1 x2 x3 hJ
theorem cd_X10_looks : Cd yX10_looks 3 := ⟨by decide +kernel, by decide +kernel, by decide +kernel⟩
theorem cc_X10_looks (N : Nat) (t0 : Nat) (h : Hp) (x1 : Int32) (x2 : Int32) (x3 : Int32) (hk0 : h.kd t0 = 13) (hJ : J_X10_looks N t0 h x1 x2 x3 = some (hz, rz)) : Ci l yX10_looks cX10_looks 6 (some .boolean) 6 180 D cs h hz [.ref t0, .int x1, .int x2, .int x3] rz := by
  intro mc ms g1 g2
  refine je_any (by decide) (by simp [lg_sl, rf_cat, cat_i, cat_l, cat_r]) ?_
  intro p e s m args below meth c C hin2 w ls hl
  have hl : lv_has ls 6 [(0, .ref t0), (1, .int x1), (2, .int x2), (3, .int x3)] := hl
  exact sb_X10_looks_0 C ⟨g1, g2⟩ N t0 h x1 x2 x3 hJ hk0 w hl
end G_X10_looks
section G_X10_versionAt
variable {p : Program} {l : Launch} {e : Env} {s : State} {m : MethodId} {args : Array Value} {below : List Frame} {meth : Method} {c : Code} {D : va_G} {cs : C4} {A : Nat → Prop} {h0 hz : Hp} {mc ms : Nat} {rz : Int32}
def B_X10_versionAt_38 (N : Nat) (k5 : Hp → Int32 → Int32 → Int32 → Int32 → Option (Hp × Int32)) (t0 : Nat) (h : Hp) (x1 : Int32) (x2 : Int32) (x3 : Int32) (x4 : Int32) : Option (Hp × Int32) := k5 h x1 x2 x3 (x4 + (1 : Int32))
theorem mb_X10_versionAt_38 (N : Nat) (k5 : Hp → Int32 → Int32 → Int32 → Int32 → Option (Hp × Int32)) (t0 : Nat) (h : Hp) (x1 : Int32) (x2 : Int32) (x3 : Int32) (x4 : Int32) (m5 : ∀ (h : Hp) (x1 : Int32) (x2 : Int32) (x3 : Int32) (x4 : Int32), k5 h x1 x2 x3 x4 = some (hz, rz) → Mo h hz) (hJ : B_X10_versionAt_38 N k5 t0 h x1 x2 x3 x4 = some (hz, rz)) : Mo h hz := by
  unfold B_X10_versionAt_38 at hJ
  exact m5 _ _ _ _ _ hJ
set_option maxRecDepth 100000 in
set_option maxHeartbeats 4000000 in
theorem sb_X10_versionAt_38 (C : Cx p s m args meth c cX10_versionAt 5 (some .int) RX10 D cs A h0.se) (hz2 : hz.nx ≤ h0.nx + mc ∧ hz.su ≤ h0.su + ms) (N : Nat) (k5 : Hp → Int32 → Int32 → Int32 → Int32 → Option (Hp × Int32)) (t0 : Nat) (m5 : ∀ (h : Hp) (x1 : Int32) (x2 : Int32) (x3 : Int32) (x4 : Int32), k5 h x1 x2 x3 x4 = some (hz, rz) → Mo h hz) (i5 : ∀ (h : Hp) (x1 : Int32) (x2 : Int32) (x3 : Int32) (x4 : Int32) (H : Heap) (locs : List Loc) (cells slots : Nat) (ls : Array Slot), k5 h x1 x2 x3 x4 = some (hz, rz) → h.kd t0 = 13 → Wo D cs A s h0 h H locs cells slots → lv_has ls 5 [(0, .ref t0), (1, .int x1), (2, .int x2), (3, .int x3), (4, .int x4)] → W p l e { frames := 1, cells := mc, slots := ms, locals := 30 } s m args below meth c H locs cells slots (MQ below (Zi D cs A hz rz) args s mc ms A) (F0 m 5 ls [])) (h : Hp) (x1 : Int32) (x2 : Int32) (x3 : Int32) (x4 : Int32) (hJ : B_X10_versionAt_38 N k5 t0 h x1 x2 x3 x4 = some (hz, rz)) (hk0 : h.kd t0 = 13) {H : Heap} {locs : List Loc} {cells slots : Nat} (w : Wo D cs A s h0 h H locs cells slots) {ls : Array Slot} (hl : lv_has ls 5 [(0, .ref t0), (1, .int x1), (2, .int x2), (3, .int x3), (4, .int x4)]) : W p l e { frames := 1, cells := mc, slots := ms, locals := 30 } s m args below meth c H locs cells slots (MQ below (Zi D cs A hz rz) args s mc ms A) (F0 m 38 ls []) := by
  obtain ⟨hx, hb, hml, hown, hts, -⟩ := id C
  unfold B_X10_versionAt_38 at hJ
  refine lv_iinc (v := x4 + (1 : Int32)) (lv' := [(4, .int (x4 + (1 : Int32))), (0, .ref t0), (1, .int x1), (2, .int x2), (3, .int x3)]) hx hb dX10_versionAt_38 hl (k := 4) rfl rfl (by decide) rfl (fun ls hl => ?_)
  refine lv_goto (tgt := 5) hx hb dX10_versionAt_41 (by decide) ?_
  exact i5 _ _ _ _ _ _ _ _ _ _ hJ hk0 w (lv_sub (l' := [(0, .ref t0), (1, .int x1), (2, .int x2), (3, .int x3), (4, .int (x4 + (1 : Int32)))]) hl [1, 2, 3, 4, 0] rfl)
def B_X10_versionAt_31 (N : Nat) (k5 : Hp → Int32 → Int32 → Int32 → Int32 → Option (Hp × Int32)) (t0 : Nat) (h : Hp) (x1 : Int32) (x2 : Int32) (x3 : Int32) (x4 : Int32) (y0 : Int32) : Option (Hp × Int32) := if x2 < y0 then (B_X10_versionAt_38 N k5 t0 h x1 x2 x3 x4) else (B_X10_versionAt_38 N k5 t0 h x1 x2 x4 x4)
theorem mb_X10_versionAt_31 (N : Nat) (k5 : Hp → Int32 → Int32 → Int32 → Int32 → Option (Hp × Int32)) (t0 : Nat) (h : Hp) (x1 : Int32) (x2 : Int32) (x3 : Int32) (x4 : Int32) (y0 : Int32) (m5 : ∀ (h : Hp) (x1 : Int32) (x2 : Int32) (x3 : Int32) (x4 : Int32), k5 h x1 x2 x3 x4 = some (hz, rz) → Mo h hz) (hJ : B_X10_versionAt_31 N k5 t0 h x1 x2 x3 x4 y0 = some (hz, rz)) : Mo h hz := by
  unfold B_X10_versionAt_31 at hJ
  by_cases c1 : x2 < y0
  · have hJ := it_pos c1 hJ
    exact mb_X10_versionAt_38 N k5 t0 _ _ _ _ _ m5 hJ
  · have hJ := it_neg c1 hJ
    exact mb_X10_versionAt_38 N k5 t0 _ _ _ _ _ m5 hJ
set_option maxRecDepth 100000 in
set_option maxHeartbeats 4000000 in
theorem sb_X10_versionAt_31 (C : Cx p s m args meth c cX10_versionAt 5 (some .int) RX10 D cs A h0.se) (hz2 : hz.nx ≤ h0.nx + mc ∧ hz.su ≤ h0.su + ms) (N : Nat) (k5 : Hp → Int32 → Int32 → Int32 → Int32 → Option (Hp × Int32)) (t0 : Nat) (m5 : ∀ (h : Hp) (x1 : Int32) (x2 : Int32) (x3 : Int32) (x4 : Int32), k5 h x1 x2 x3 x4 = some (hz, rz) → Mo h hz) (i5 : ∀ (h : Hp) (x1 : Int32) (x2 : Int32) (x3 : Int32) (x4 : Int32) (H : Heap) (locs : List Loc) (cells slots : Nat) (ls : Array Slot), k5 h x1 x2 x3 x4 = some (hz, rz) → h.kd t0 = 13 → Wo D cs A s h0 h H locs cells slots → lv_has ls 5 [(0, .ref t0), (1, .int x1), (2, .int x2), (3, .int x3), (4, .int x4)] → W p l e { frames := 1, cells := mc, slots := ms, locals := 30 } s m args below meth c H locs cells slots (MQ below (Zi D cs A hz rz) args s mc ms A) (F0 m 5 ls [])) (h : Hp) (x1 : Int32) (x2 : Int32) (x3 : Int32) (x4 : Int32) (y0 : Int32) (hJ : B_X10_versionAt_31 N k5 t0 h x1 x2 x3 x4 y0 = some (hz, rz)) (hk0 : h.kd t0 = 13) {H : Heap} {locs : List Loc} {cells slots : Nat} (w : Wo D cs A s h0 h H locs cells slots) {ls : Array Slot} (hl : lv_has ls 5 [(0, .ref t0), (1, .int x1), (2, .int x2), (3, .int x3), (4, .int x4)]) : W p l e { frames := 1, cells := mc, slots := ms, locals := 30 } s m args below meth c H locs cells slots (MQ below (Zi D cs A hz rz) args s mc ms A) (F0 m 31 ls [.int y0]) := by
  obtain ⟨hx, hb, hml, hown, hts, -⟩ := id C
  unfold B_X10_versionAt_31 at hJ
  refine lv_iload_n hx hb dX10_versionAt_31 rfl (lv_at hl 2 rfl) ?_
  refine lv_icmp_gt (tgt := 38) hx hb dX10_versionAt_32 (by decide) (fun c1 => ?_) (fun c1 => ?_)
  · have hJ := it_pos c1 hJ
    exact sb_X10_versionAt_38 C hz2 N k5 t0 m5 i5 _ _ _ _ _ hJ hk0 w hl
  · have hJ := it_neg c1 hJ
    refine lv_iload hx hb dX10_versionAt_35 (lv_at hl 4 rfl) ?_
    refine lv_istore_n (i := 3) (lv' := [(3, .int x4), (0, .ref t0), (1, .int x1), (2, .int x2), (4, .int x4)]) hx hb dX10_versionAt_37 rfl hl (by decide) rfl (fun ls hl => ?_)
    exact sb_X10_versionAt_38 C hz2 N k5 t0 m5 i5 _ _ _ _ _ hJ hk0 w (lv_sub (l' := [(0, .ref t0), (1, .int x1), (2, .int x2), (3, .int x4), (4, .int x4)]) hl [1, 2, 3, 0, 4] rfl)
def B_X10_versionAt_5 (N : Nat) (k5 : Hp → Int32 → Int32 → Int32 → Int32 → Option (Hp × Int32)) (t0 : Nat) (h : Hp) (x1 : Int32) (x2 : Int32) (x3 : Int32) (x4 : Int32) : Option (Hp × Int32) := if (h.gi 1328 t0) ≤ x4 then (some (h, x3)) else (dr h 30 (h.gr 1324 t0) (fun a3 => ck (¬ (x4 < 0 ∨ h.al a3 ≤ x4.toNatClampNeg)) (if (h.bi a3 x4.toNatClampNeg) = x1 then ((J_X10_momentOf N t0 h x4).bind (fun z => B_X10_versionAt_31 N k5 t0 z.1 x1 x2 x3 x4 z.2)) else (B_X10_versionAt_38 N k5 t0 h x1 x2 x3 x4))))
theorem mb_X10_versionAt_5 (N : Nat) (k5 : Hp → Int32 → Int32 → Int32 → Int32 → Option (Hp × Int32)) (t0 : Nat) (h : Hp) (x1 : Int32) (x2 : Int32) (x3 : Int32) (x4 : Int32) (m5 : ∀ (h : Hp) (x1 : Int32) (x2 : Int32) (x3 : Int32) (x4 : Int32), k5 h x1 x2 x3 x4 = some (hz, rz) → Mo h hz) (hJ : B_X10_versionAt_5 N k5 t0 h x1 x2 x3 x4 = some (hz, rz)) : Mo h hz := by
  unfold B_X10_versionAt_5 at hJ
  by_cases c2 : (h.gi 1328 t0) ≤ x4
  · have hJ := it_pos c2 hJ
    obtain ⟨rfl, -⟩ := rs2 hJ
    exact ⟨fun _ _ => rfl, Nat.le_refl _, Nat.le_refl _, rfl, fun _ _ => rfl⟩
  · have hJ := it_neg c2 hJ
    obtain ⟨a3, ea3, -, hJ⟩ := dr_some hJ
    obtain ⟨-, hJ⟩ := ck_some hJ
    by_cases c5 : (h.bi a3 x4.toNatClampNeg) = x1
    · have hJ := it_pos c5 hJ
      obtain ⟨⟨h6, r7⟩, e8, hJ⟩ := ob_some hJ
      exact (mo_X10_momentOf N t0 h x4 e8).tr (mb_X10_versionAt_31 N k5 t0 _ _ _ _ _ _ m5 hJ)
    · have hJ := it_neg c5 hJ
      exact mb_X10_versionAt_38 N k5 t0 _ _ _ _ _ m5 hJ
set_option maxRecDepth 100000 in
set_option maxHeartbeats 4000000 in
theorem sb_X10_versionAt_5 (C : Cx p s m args meth c cX10_versionAt 5 (some .int) RX10 D cs A h0.se) (hz2 : hz.nx ≤ h0.nx + mc ∧ hz.su ≤ h0.su + ms) (N : Nat) (k5 : Hp → Int32 → Int32 → Int32 → Int32 → Option (Hp × Int32)) (t0 : Nat) (m5 : ∀ (h : Hp) (x1 : Int32) (x2 : Int32) (x3 : Int32) (x4 : Int32), k5 h x1 x2 x3 x4 = some (hz, rz) → Mo h hz) (i5 : ∀ (h : Hp) (x1 : Int32) (x2 : Int32) (x3 : Int32) (x4 : Int32) (H : Heap) (locs : List Loc) (cells slots : Nat) (ls : Array Slot), k5 h x1 x2 x3 x4 = some (hz, rz) → h.kd t0 = 13 → Wo D cs A s h0 h H locs cells slots → lv_has ls 5 [(0, .ref t0), (1, .int x1), (2, .int x2), (3, .int x3), (4, .int x4)] → W p l e { frames := 1, cells := mc, slots := ms, locals := 30 } s m args below meth c H locs cells slots (MQ below (Zi D cs A hz rz) args s mc ms A) (F0 m 5 ls [])) (h : Hp) (x1 : Int32) (x2 : Int32) (x3 : Int32) (x4 : Int32) (hJ : B_X10_versionAt_5 N k5 t0 h x1 x2 x3 x4 = some (hz, rz)) (hk0 : h.kd t0 = 13) {H : Heap} {locs : List Loc} {cells slots : Nat} (w : Wo D cs A s h0 h H locs cells slots) {ls : Array Slot} (hl : lv_has ls 5 [(0, .ref t0), (1, .int x1), (2, .int x2), (3, .int x3), (4, .int x4)]) : W p l e { frames := 1, cells := mc, slots := ms, locals := 30 } s m args below meth c H locs cells slots (MQ below (Zi D cs A hz rz) args s mc ms A) (F0 m 5 ls []) := by
  obtain ⟨hx, hb, hml, hown, hts, -⟩ := id C
  unfold B_X10_versionAt_5 at hJ
  refine lv_iload hx hb dX10_versionAt_5 (lv_at hl 4 rfl) ?_
  refine lv_aload_n hx hb dX10_versionAt_7 rfl (lv_at hl 0 rfl) ?_
  refine fg_1328 C w hk0 tw_6_191 dX10_versionAt_8 ?_
  refine lv_icmp_ge (tgt := 44) hx hb dX10_versionAt_11 (by decide) (fun c2 => ?_) (fun c2 => ?_)
  · have hJ := it_pos c2 hJ
    refine lv_iload_n hx hb dX10_versionAt_44 rfl (lv_at hl 3 rfl) ?_
    obtain ⟨rfl, rfl⟩ := rs2 hJ
    exact jr_iret C w hz2 dX10_versionAt_45
  · have hJ := it_neg c2 hJ
    refine lv_aload_n hx hb dX10_versionAt_14 rfl (lv_at hl 0 rfl) ?_
    refine fg_1324 C w hk0 tw_6_187 dX10_versionAt_15 ?_
    refine lv_iload hx hb dX10_versionAt_18 (lv_at hl 4 rfl) ?_
    obtain ⟨a3, ea3, hka3, hJ⟩ := dr_some hJ
    rw [ea3]
    obtain ⟨hi4, hJ⟩ := ck_some hJ
    refine jr_ialdM C w hka3 hi4 dX10_versionAt_20 ?_
    refine lv_iload_n hx hb dX10_versionAt_21 rfl (lv_at hl 1 rfl) ?_
    refine lv_icmp_ne (tgt := 38) hx hb dX10_versionAt_22 (by decide) (fun c5 => ?_) (fun c5 => ?_)
    · have hJ := it_neg c5 hJ
      exact sb_X10_versionAt_38 C hz2 N k5 t0 m5 i5 _ _ _ _ _ hJ hk0 w hl
    · have hJ := it_pos c5 hJ
      refine lv_aload_n hx hb dX10_versionAt_25 rfl (lv_at hl 0 rfl) ?_
      refine lv_iload hx hb dX10_versionAt_26 (lv_at hl 4 rfl) ?_
      obtain ⟨⟨h6, r7⟩, e8, hJ⟩ := ob_some hJ
      refine jc_Vi (As := [.int x4]) C w (cc_X10_momentOf N t0 h x4 hk0 e8) (mo_X10_momentOf N t0 h x4 e8) (mb_X10_versionAt_31 N k5 t0 _ _ _ _ _ _ m5 hJ) hz2 hk0 (by decide) rfl (fs := fs13 h t0) rfl rfl ⟨tw_7_182, tw_7_179, tw_7_181, ts_41, tw_1_7⟩ cd_X10_momentOf ⟨by decide, by decide⟩ hl.1 (by first | exact Nat.le_of_ble_eq_true rfl | simp [rf_cat, cat_i, cat_l, cat_r]) rfl dX10_versionAt_28 (fun H locs w1 => ?_)
      have hk9 := kd_keep w (mo_X10_momentOf N t0 h x4 e8) hk0 (by decide)
      have w := w1
      exact sb_X10_versionAt_31 C hz2 N k5 t0 m5 i5 _ _ _ _ _ _ hJ hk9 w hl
def L_X10_versionAt_5 (N : Nat) (t0 : Nat) : Nat → Hp → Int32 → Int32 → Int32 → Int32 → Option (Hp × Int32)
  | 0 => fun _ _ _ _ _ => none
  | n + 1 => fun h x1 x2 x3 x4 => B_X10_versionAt_5 N (L_X10_versionAt_5 N t0 n) t0 h x1 x2 x3 x4
theorem ml_X10_versionAt_5 (N : Nat) (t0 : Nat) : ∀ (n : Nat) (h : Hp) (x1 : Int32) (x2 : Int32) (x3 : Int32) (x4 : Int32), L_X10_versionAt_5 N t0 n h x1 x2 x3 x4 = some (hz, rz) → Mo h hz := by
  intro n
  induction n with
  | zero => intro h x1 x2 x3 x4 hJ; cases hJ
  | succ n ih => intro h x1 x2 x3 x4 hJ; exact mb_X10_versionAt_5 N (L_X10_versionAt_5 N t0 n) t0 h x1 x2 x3 x4 ih hJ
theorem sl_X10_versionAt_5 (C : Cx p s m args meth c cX10_versionAt 5 (some .int) RX10 D cs A h0.se) (hz2 : hz.nx ≤ h0.nx + mc ∧ hz.su ≤ h0.su + ms) (N : Nat) (t0 : Nat) : ∀ n : Nat, ∀ (h : Hp) (x1 : Int32) (x2 : Int32) (x3 : Int32) (x4 : Int32) (H : Heap) (locs : List Loc) (cells slots : Nat) (ls : Array Slot), L_X10_versionAt_5 N t0 n h x1 x2 x3 x4 = some (hz, rz) → h.kd t0 = 13 → Wo D cs A s h0 h H locs cells slots → lv_has ls 5 [(0, .ref t0), (1, .int x1), (2, .int x2), (3, .int x3), (4, .int x4)] → W p l e { frames := 1, cells := mc, slots := ms, locals := 30 } s m args below meth c H locs cells slots (MQ below (Zi D cs A hz rz) args s mc ms A) (F0 m 5 ls []) := by
  intro n
  induction n with
  | zero => intro h x1 x2 x3 x4 H locs cells slots ls hJ; cases hJ
  | succ n ih =>
    intro h x1 x2 x3 x4 H locs cells slots ls hJ hk0 w hl
    exact sb_X10_versionAt_5 C hz2 N (L_X10_versionAt_5 N t0 n) t0 (ml_X10_versionAt_5 N t0 n) ih h x1 x2 x3 x4 hJ hk0 w hl
def B_X10_versionAt_0 (N : Nat) (t0 : Nat) (h : Hp) (x1 : Int32) (x2 : Int32) : Option (Hp × Int32) := L_X10_versionAt_5 N t0 N h x1 x2 (-1 : Int32) (0 : Int32)
theorem mb_X10_versionAt_0 (N : Nat) (t0 : Nat) (h : Hp) (x1 : Int32) (x2 : Int32) (hJ : B_X10_versionAt_0 N t0 h x1 x2 = some (hz, rz)) : Mo h hz := by
  unfold B_X10_versionAt_0 at hJ
  exact ml_X10_versionAt_5 N t0 N _ _ _ _ _ hJ
set_option maxRecDepth 100000 in
set_option maxHeartbeats 4000000 in
theorem sb_X10_versionAt_0 (C : Cx p s m args meth c cX10_versionAt 5 (some .int) RX10 D cs A h0.se) (hz2 : hz.nx ≤ h0.nx + mc ∧ hz.su ≤ h0.su + ms) (N : Nat) (t0 : Nat) (h : Hp) (x1 : Int32) (x2 : Int32) (hJ : B_X10_versionAt_0 N t0 h x1 x2 = some (hz, rz)) (hk0 : h.kd t0 = 13) {H : Heap} {locs : List Loc} {cells slots : Nat} (w : Wo D cs A s h0 h H locs cells slots) {ls : Array Slot} (hl : lv_has ls 5 [(0, .ref t0), (1, .int x1), (2, .int x2)]) : W p l e { frames := 1, cells := mc, slots := ms, locals := 30 } s m args below meth c H locs cells slots (MQ below (Zi D cs A hz rz) args s mc ms A) (F0 m 0 ls []) := by
  obtain ⟨hx, hb, hml, hown, hts, -⟩ := id C
  unfold B_X10_versionAt_0 at hJ
  refine lv_iconst (v := (-1 : Int32)) hx hb dX10_versionAt_0 (by decide) ?_
  refine lv_istore_n (i := 3) (lv' := [(3, .int (-1 : Int32)), (0, .ref t0), (1, .int x1), (2, .int x2)]) hx hb dX10_versionAt_1 rfl hl (by decide) rfl (fun ls hl => ?_)
  refine lv_iconst (v := (0 : Int32)) hx hb dX10_versionAt_2 (by decide) ?_
  refine lv_istore (i := 4) (lv' := [(4, .int (0 : Int32)), (3, .int (-1 : Int32)), (0, .ref t0), (1, .int x1), (2, .int x2)]) hx hb dX10_versionAt_3 hl (by decide) rfl (fun ls hl => ?_)
  exact sl_X10_versionAt_5 C hz2 N t0 N _ _ _ _ _ _ _ _ _ _ hJ hk0 w (lv_sub (l' := [(0, .ref t0), (1, .int x1), (2, .int x2), (3, .int (-1 : Int32)), (4, .int (0 : Int32))]) hl [2, 3, 4, 1, 0] rfl)
def J_X10_versionAt (N : Nat) (t0 : Nat) (h : Hp) (x1 : Int32) (x2 : Int32) : Option (Hp × Int32) := B_X10_versionAt_0 N t0 h x1 x2
theorem mo_X10_versionAt (N : Nat) (t0 : Nat) (h : Hp) (x1 : Int32) (x2 : Int32) (hJ : J_X10_versionAt N t0 h x1 x2 = some (hz, rz)) : Mo h hz := mb_X10_versionAt_0 N t0 h x1 x2 hJ
theorem cd_X10_versionAt : Cd yX10_versionAt 2 := ⟨by decide +kernel, by decide +kernel, by decide +kernel⟩
theorem cc_X10_versionAt (N : Nat) (t0 : Nat) (h : Hp) (x1 : Int32) (x2 : Int32) (hk0 : h.kd t0 = 13) (hJ : J_X10_versionAt N t0 h x1 x2 = some (hz, rz)) : Ci l yX10_versionAt cX10_versionAt 5 (some .int) 1 30 D cs h hz [.ref t0, .int x1, .int x2] rz := by
  intro mc ms g1 g2
  refine je_any (by decide) (by simp [lg_sl, rf_cat, cat_i, cat_l, cat_r]) ?_
  intro p e s m args below meth c C hin2 w ls hl
  have hl : lv_has ls 5 [(0, .ref t0), (1, .int x1), (2, .int x2)] := hl
  exact sb_X10_versionAt_0 C ⟨g1, g2⟩ N t0 h x1 x2 hJ hk0 w hl
end G_X10_versionAt
section G_X10_sees
variable {p : Program} {l : Launch} {e : Env} {s : State} {m : MethodId} {args : Array Value} {below : List Frame} {meth : Method} {c : Code} {D : va_G} {cs : C4} {A : Nat → Prop} {h0 hz : Hp} {mc ms : Nat} {rz : Int32}
def B_X10_sees_40 (N : Nat) (t0 : Nat) (h : Hp) (y0 : Int32) : Option (Hp × Int32) := if y0 = (-1 : Int32) then (some (h, (0 : Int32))) else (dr h 31 (h.gr 1326 t0) (fun a2 => ck (¬ (y0 < 0 ∨ h.al a2 ≤ y0.toNatClampNeg)) (dr (h.sgl 1351 t0 (h.bw a2 y0.toNatClampNeg)) 32 ((h.sgl 1351 t0 (h.bw a2 y0.toNatClampNeg)).gr 1327 t0) (fun a4 => ck (¬ (y0 < 0 ∨ (h.sgl 1351 t0 (h.bw a2 y0.toNatClampNeg)).al a4 ≤ y0.toNatClampNeg)) (ck ((h.sgl 1351 t0 (h.bw a2 y0.toNatClampNeg)).bi a4 y0.toNatClampNeg = 0 ∨ (h.sgl 1351 t0 (h.bw a2 y0.toNatClampNeg)).bi a4 y0.toNatClampNeg = 1) (some (h.sgl 1351 t0 (h.bw a2 y0.toNatClampNeg), (h.sgl 1351 t0 (h.bw a2 y0.toNatClampNeg)).bi a4 y0.toNatClampNeg)))))))
theorem mb_X10_sees_40 (N : Nat) (t0 : Nat) (h : Hp) (y0 : Int32) (hJ : B_X10_sees_40 N t0 h y0 = some (hz, rz)) : Mo h hz := by
  unfold B_X10_sees_40 at hJ
  by_cases c1 : y0 = (-1 : Int32)
  · have hJ := it_pos c1 hJ
    obtain ⟨rfl, -⟩ := rs2 hJ
    exact ⟨fun _ _ => rfl, Nat.le_refl _, Nat.le_refl _, rfl, fun _ _ => rfl⟩
  · have hJ := it_neg c1 hJ
    obtain ⟨a2, ea2, -, hJ⟩ := dr_some hJ
    obtain ⟨-, hJ⟩ := ck_some hJ
    obtain ⟨a4, ea4, -, hJ⟩ := dr_some hJ
    obtain ⟨-, hJ⟩ := ck_some hJ
    obtain ⟨-, hJ⟩ := ck_some hJ
    obtain ⟨rfl, -⟩ := rs2 hJ
    exact ⟨fun _ _ => rfl, Nat.le_refl _, Nat.le_refl _, rfl, fun _ _ => rfl⟩
set_option maxRecDepth 100000 in
set_option maxHeartbeats 4000000 in
theorem sb_X10_sees_40 (C : Cx p s m args meth c cX10_sees 5 (some .boolean) RX10 D cs A h0.se) (hz2 : hz.nx ≤ h0.nx + mc ∧ hz.su ≤ h0.su + ms) (N : Nat) (t0 : Nat) (h : Hp) (y0 : Int32) (hJ : B_X10_sees_40 N t0 h y0 = some (hz, rz)) (hk0 : h.kd t0 = 13) {H : Heap} {locs : List Loc} {cells slots : Nat} (w : Wo D cs A s h0 h H locs cells slots) {ls : Array Slot} (hl : lv_has ls 5 [(0, .ref t0)]) : W p l e { frames := 2, cells := mc, slots := ms, locals := 60 } s m args below meth c H locs cells slots (MQ below (Zi D cs A hz rz) args s mc ms A) (F0 m 40 ls [.int y0]) := by
  obtain ⟨hx, hb, hml, hown, hts, -⟩ := id C
  unfold B_X10_sees_40 at hJ
  refine lv_istore (i := 4) (lv' := [(4, .int y0), (0, .ref t0)]) hx hb dX10_sees_40 hl (by decide) rfl (fun ls hl => ?_)
  refine lv_iload hx hb dX10_sees_42 (lv_at hl 0 rfl) ?_
  refine lv_iconst (v := (-1 : Int32)) hx hb dX10_sees_44 (by decide) ?_
  refine lv_icmp_ne (tgt := 50) hx hb dX10_sees_45 (by decide) (fun c1 => ?_) (fun c1 => ?_)
  · have hJ := it_neg c1 hJ
    refine lv_aload_n hx hb dX10_sees_50 rfl (lv_at hl 1 rfl) ?_
    refine lv_aload_n hx hb dX10_sees_51 rfl (lv_at hl 1 rfl) ?_
    refine fg_1326 C w hk0 tw_6_189 dX10_sees_52 ?_
    refine lv_iload hx hb dX10_sees_55 (lv_at hl 0 rfl) ?_
    obtain ⟨a2, ea2, hka2, hJ⟩ := dr_some hJ
    rw [ea2]
    obtain ⟨hi3, hJ⟩ := ck_some hJ
    refine jr_laldM C w hka2 hi3 dX10_sees_57 ?_
    refine fp_1351 (x := h.bw a2 y0.toNatClampNeg) C w hk0 tw_6_214 dX10_sees_58 (fun H locs w => ?_)
    refine lv_aload_n hx hb dX10_sees_61 rfl (lv_at hl 1 rfl) ?_
    refine fg_1327 C w hk0 tw_6_190 dX10_sees_62 ?_
    refine lv_iload hx hb dX10_sees_65 (lv_at hl 0 rfl) ?_
    obtain ⟨a4, ea4, hka4, hJ⟩ := dr_some hJ
    rw [ea4]
    obtain ⟨hi5, hJ⟩ := ck_some hJ
    refine jr_zaldM C w hka4 hi5 dX10_sees_67 ?_
    obtain ⟨hzo6, hJ⟩ := ck_some hJ
    obtain ⟨rfl, rfl⟩ := rs2 hJ
    exact jr_zret C w hzo6 hz2 dX10_sees_68
  · have hJ := it_pos c1 hJ
    refine lv_iconst (v := (0 : Int32)) hx hb dX10_sees_48 (by decide) ?_
    obtain ⟨rfl, rfl⟩ := rs2 hJ
    exact jr_zret C w (Or.inl rfl) hz2 dX10_sees_49
def B_X10_sees_6 (N : Nat) (t0 : Nat) (h : Hp) (x1 : Int32) (x2 : Int32) (y0 : Int32) : Option (Hp × Int32) := if y0 = (-1 : Int32) then (dr h 30 (h.gr 1303 t0) (fun a8 => ck (¬ (x1 < 0 ∨ h.al a8 ≤ x1.toNatClampNeg)) ((J_X10_versionAt N t0 h x2 (h.bi a8 x1.toNatClampNeg)).bind (fun z => B_X10_sees_40 N t0 z.1 z.2)))) else (dr h 31 (h.gr 1316 t0) (fun a14 => ck (¬ (y0 < 0 ∨ h.al a14 ≤ y0.toNatClampNeg)) (dr (h.sgl 1351 t0 (h.bw a14 y0.toNatClampNeg)) 32 ((h.sgl 1351 t0 (h.bw a14 y0.toNatClampNeg)).gr 1317 t0) (fun a16 => ck (¬ (y0 < 0 ∨ (h.sgl 1351 t0 (h.bw a14 y0.toNatClampNeg)).al a16 ≤ y0.toNatClampNeg)) (ck ((h.sgl 1351 t0 (h.bw a14 y0.toNatClampNeg)).bi a16 y0.toNatClampNeg = 0 ∨ (h.sgl 1351 t0 (h.bw a14 y0.toNatClampNeg)).bi a16 y0.toNatClampNeg = 1) (some (h.sgl 1351 t0 (h.bw a14 y0.toNatClampNeg), (h.sgl 1351 t0 (h.bw a14 y0.toNatClampNeg)).bi a16 y0.toNatClampNeg)))))))
theorem mb_X10_sees_6 (N : Nat) (t0 : Nat) (h : Hp) (x1 : Int32) (x2 : Int32) (y0 : Int32) (hJ : B_X10_sees_6 N t0 h x1 x2 y0 = some (hz, rz)) : Mo h hz := by
  unfold B_X10_sees_6 at hJ
  by_cases c7 : y0 = (-1 : Int32)
  · have hJ := it_pos c7 hJ
    obtain ⟨a8, ea8, -, hJ⟩ := dr_some hJ
    obtain ⟨-, hJ⟩ := ck_some hJ
    obtain ⟨⟨h10, r11⟩, e12, hJ⟩ := ob_some hJ
    exact (mo_X10_versionAt N t0 h x2 (h.bi a8 x1.toNatClampNeg) e12).tr (mb_X10_sees_40 N t0 _ _ hJ)
  · have hJ := it_neg c7 hJ
    obtain ⟨a14, ea14, -, hJ⟩ := dr_some hJ
    obtain ⟨-, hJ⟩ := ck_some hJ
    obtain ⟨a16, ea16, -, hJ⟩ := dr_some hJ
    obtain ⟨-, hJ⟩ := ck_some hJ
    obtain ⟨-, hJ⟩ := ck_some hJ
    obtain ⟨rfl, -⟩ := rs2 hJ
    exact ⟨fun _ _ => rfl, Nat.le_refl _, Nat.le_refl _, rfl, fun _ _ => rfl⟩
set_option maxRecDepth 100000 in
set_option maxHeartbeats 4000000 in
theorem sb_X10_sees_6 (C : Cx p s m args meth c cX10_sees 5 (some .boolean) RX10 D cs A h0.se) (hz2 : hz.nx ≤ h0.nx + mc ∧ hz.su ≤ h0.su + ms) (N : Nat) (t0 : Nat) (h : Hp) (x1 : Int32) (x2 : Int32) (y0 : Int32) (hJ : B_X10_sees_6 N t0 h x1 x2 y0 = some (hz, rz)) (hk0 : h.kd t0 = 13) {H : Heap} {locs : List Loc} {cells slots : Nat} (w : Wo D cs A s h0 h H locs cells slots) {ls : Array Slot} (hl : lv_has ls 5 [(0, .ref t0), (1, .int x1), (2, .int x2)]) : W p l e { frames := 2, cells := mc, slots := ms, locals := 60 } s m args below meth c H locs cells slots (MQ below (Zi D cs A hz rz) args s mc ms A) (F0 m 6 ls [.int y0]) := by
  obtain ⟨hx, hb, hml, hown, hts, -⟩ := id C
  unfold B_X10_sees_6 at hJ
  refine lv_istore_n (i := 3) (lv' := [(3, .int y0), (0, .ref t0), (1, .int x1), (2, .int x2)]) hx hb dX10_sees_6 rfl hl (by decide) rfl (fun ls hl => ?_)
  refine lv_iload_n hx hb dX10_sees_7 rfl (lv_at hl 0 rfl) ?_
  refine lv_iconst (v := (-1 : Int32)) hx hb dX10_sees_8 (by decide) ?_
  refine lv_icmp_eq (tgt := 29) hx hb dX10_sees_9 (by decide) (fun c7 => ?_) (fun c7 => ?_)
  · have hJ := it_pos c7 hJ
    refine lv_aload_n hx hb dX10_sees_29 rfl (lv_at hl 1 rfl) ?_
    refine lv_iload_n hx hb dX10_sees_30 rfl (lv_at hl 3 rfl) ?_
    refine lv_aload_n hx hb dX10_sees_31 rfl (lv_at hl 1 rfl) ?_
    refine fg_1303 C w hk0 tw_6_166 dX10_sees_32 ?_
    refine lv_iload_n hx hb dX10_sees_35 rfl (lv_at hl 2 rfl) ?_
    obtain ⟨a8, ea8, hka8, hJ⟩ := dr_some hJ
    rw [ea8]
    obtain ⟨hi9, hJ⟩ := ck_some hJ
    refine jr_ialdM C w hka8 hi9 dX10_sees_36 ?_
    obtain ⟨⟨h10, r11⟩, e12, hJ⟩ := ob_some hJ
    refine jc_Vi (As := [.int x2, .int (h.bi a8 x1.toNatClampNeg)]) C w (cc_X10_versionAt N t0 h x2 (h.bi a8 x1.toNatClampNeg) hk0 e12) (mo_X10_versionAt N t0 h x2 (h.bi a8 x1.toNatClampNeg) e12) (mb_X10_sees_40 N t0 _ _ hJ) hz2 hk0 (by decide) rfl (fs := fs13 h t0) rfl rfl ⟨tw_7_230, tw_7_227, tw_7_229, ts_51, tw_1_7⟩ cd_X10_versionAt ⟨by decide, by decide⟩ hl.1 (by first | exact Nat.le_of_ble_eq_true rfl | simp [rf_cat, cat_i, cat_l, cat_r]) rfl dX10_sees_37 (fun H locs w1 => ?_)
    have hk13 := kd_keep w (mo_X10_versionAt N t0 h x2 (h.bi a8 x1.toNatClampNeg) e12) hk0 (by decide)
    have w := w1
    exact sb_X10_sees_40 C hz2 N t0 _ _ hJ hk13 w (lv_sub (l' := [(0, .ref t0)]) hl [1] rfl)
  · have hJ := it_neg c7 hJ
    refine lv_aload_n hx hb dX10_sees_12 rfl (lv_at hl 1 rfl) ?_
    refine lv_aload_n hx hb dX10_sees_13 rfl (lv_at hl 1 rfl) ?_
    refine fg_1316 C w hk0 tw_6_179 dX10_sees_14 ?_
    refine lv_iload_n hx hb dX10_sees_17 rfl (lv_at hl 0 rfl) ?_
    obtain ⟨a14, ea14, hka14, hJ⟩ := dr_some hJ
    rw [ea14]
    obtain ⟨hi15, hJ⟩ := ck_some hJ
    refine jr_laldM C w hka14 hi15 dX10_sees_18 ?_
    refine fp_1351 (x := h.bw a14 y0.toNatClampNeg) C w hk0 tw_6_214 dX10_sees_19 (fun H locs w => ?_)
    refine lv_aload_n hx hb dX10_sees_22 rfl (lv_at hl 1 rfl) ?_
    refine fg_1317 C w hk0 tw_6_180 dX10_sees_23 ?_
    refine lv_iload_n hx hb dX10_sees_26 rfl (lv_at hl 0 rfl) ?_
    obtain ⟨a16, ea16, hka16, hJ⟩ := dr_some hJ
    rw [ea16]
    obtain ⟨hi17, hJ⟩ := ck_some hJ
    refine jr_zaldM C w hka16 hi17 dX10_sees_27 ?_
    obtain ⟨hzo18, hJ⟩ := ck_some hJ
    obtain ⟨rfl, rfl⟩ := rs2 hJ
    exact jr_zret C w hzo18 hz2 dX10_sees_28
def B_X10_sees_0 (N : Nat) (t0 : Nat) (h : Hp) (x1 : Int32) (x2 : Int32) : Option (Hp × Int32) := (J_X10_ownOf N t0 h x1 x2).bind (fun z => B_X10_sees_6 N t0 z.1 x1 x2 z.2)
theorem mb_X10_sees_0 (N : Nat) (t0 : Nat) (h : Hp) (x1 : Int32) (x2 : Int32) (hJ : B_X10_sees_0 N t0 h x1 x2 = some (hz, rz)) : Mo h hz := by
  unfold B_X10_sees_0 at hJ
  obtain ⟨⟨h19, r20⟩, e21, hJ⟩ := ob_some hJ
  exact (mo_X10_ownOf N t0 h x1 x2 e21).tr (mb_X10_sees_6 N t0 _ _ _ _ hJ)
set_option maxRecDepth 100000 in
set_option maxHeartbeats 4000000 in
theorem sb_X10_sees_0 (C : Cx p s m args meth c cX10_sees 5 (some .boolean) RX10 D cs A h0.se) (hz2 : hz.nx ≤ h0.nx + mc ∧ hz.su ≤ h0.su + ms) (N : Nat) (t0 : Nat) (h : Hp) (x1 : Int32) (x2 : Int32) (hJ : B_X10_sees_0 N t0 h x1 x2 = some (hz, rz)) (hk0 : h.kd t0 = 13) {H : Heap} {locs : List Loc} {cells slots : Nat} (w : Wo D cs A s h0 h H locs cells slots) {ls : Array Slot} (hl : lv_has ls 5 [(0, .ref t0), (1, .int x1), (2, .int x2)]) : W p l e { frames := 2, cells := mc, slots := ms, locals := 60 } s m args below meth c H locs cells slots (MQ below (Zi D cs A hz rz) args s mc ms A) (F0 m 0 ls []) := by
  obtain ⟨hx, hb, hml, hown, hts, -⟩ := id C
  unfold B_X10_sees_0 at hJ
  refine lv_aload_n hx hb dX10_sees_0 rfl (lv_at hl 0 rfl) ?_
  refine lv_iload_n hx hb dX10_sees_1 rfl (lv_at hl 1 rfl) ?_
  refine lv_iload_n hx hb dX10_sees_2 rfl (lv_at hl 2 rfl) ?_
  obtain ⟨⟨h19, r20⟩, e21, hJ⟩ := ob_some hJ
  refine jc_Vi (As := [.int x1, .int x2]) C w (cc_X10_ownOf N t0 h x1 x2 hk0 e21) (mo_X10_ownOf N t0 h x1 x2 e21) (mb_X10_sees_6 N t0 _ _ _ _ hJ) hz2 hk0 (by decide) rfl (fs := fs13 h t0) rfl rfl ⟨tw_7_186, tw_7_183, tw_7_185, ts_42, tw_1_7⟩ cd_X10_ownOf ⟨by decide, by decide⟩ hl.1 (by first | exact Nat.le_of_ble_eq_true rfl | simp [rf_cat, cat_i, cat_l, cat_r]) rfl dX10_sees_3 (fun H locs w1 => ?_)
  have hk22 := kd_keep w (mo_X10_ownOf N t0 h x1 x2 e21) hk0 (by decide)
  have w := w1
  exact sb_X10_sees_6 C hz2 N t0 _ _ _ _ hJ hk22 w hl
def J_X10_sees (N : Nat) (t0 : Nat) (h : Hp) (x1 : Int32) (x2 : Int32) : Option (Hp × Int32) := B_X10_sees_0 N t0 h x1 x2
theorem mo_X10_sees (N : Nat) (t0 : Nat) (h : Hp) (x1 : Int32) (x2 : Int32) (hJ : J_X10_sees N t0 h x1 x2 = some (hz, rz)) : Mo h hz := mb_X10_sees_0 N t0 h x1 x2 hJ
theorem cd_X10_sees : Cd yX10_sees 2 := ⟨by decide +kernel, by decide +kernel, by decide +kernel⟩
theorem cc_X10_sees (N : Nat) (t0 : Nat) (h : Hp) (x1 : Int32) (x2 : Int32) (hk0 : h.kd t0 = 13) (hJ : J_X10_sees N t0 h x1 x2 = some (hz, rz)) : Ci l yX10_sees cX10_sees 5 (some .boolean) 2 60 D cs h hz [.ref t0, .int x1, .int x2] rz := by
  intro mc ms g1 g2
  refine je_any (by decide) (by simp [lg_sl, rf_cat, cat_i, cat_l, cat_r]) ?_
  intro p e s m args below meth c C hin2 w ls hl
  have hl : lv_has ls 5 [(0, .ref t0), (1, .int x1), (2, .int x2)] := hl
  exact sb_X10_sees_0 C ⟨g1, g2⟩ N t0 h x1 x2 hJ hk0 w hl
end G_X10_sees
section G_X10_read
variable {p : Program} {l : Launch} {e : Env} {s : State} {m : MethodId} {args : Array Value} {below : List Frame} {meth : Method} {c : Code} {D : va_G} {cs : C4} {A : Nat → Prop} {h0 hz : Hp} {mc ms : Nat} {rz : Int32}
def B_X10_read_69 (N : Nat) (t0 : Nat) (h : Hp) (x3 : Int32) : Option (Hp × Int32) := dr h 30 (h.gr 1335 t0) (fun a1 => ck (¬ (x3 < 0 ∨ h.al a1 ≤ x3.toNatClampNeg)) (some (h, h.bi a1 x3.toNatClampNeg)))
theorem mb_X10_read_69 (N : Nat) (t0 : Nat) (h : Hp) (x3 : Int32) (hJ : B_X10_read_69 N t0 h x3 = some (hz, rz)) : Mo h hz := by
  unfold B_X10_read_69 at hJ
  obtain ⟨a1, ea1, -, hJ⟩ := dr_some hJ
  obtain ⟨-, hJ⟩ := ck_some hJ
  obtain ⟨rfl, -⟩ := rs2 hJ
  exact ⟨fun _ _ => rfl, Nat.le_refl _, Nat.le_refl _, rfl, fun _ _ => rfl⟩
set_option maxRecDepth 100000 in
set_option maxHeartbeats 4000000 in
theorem sb_X10_read_69 (C : Cx p s m args meth c cX10_read 4 (some .int) RX10 D cs A h0.se) (hz2 : hz.nx ≤ h0.nx + mc ∧ hz.su ≤ h0.su + ms) (N : Nat) (t0 : Nat) (h : Hp) (x3 : Int32) (hJ : B_X10_read_69 N t0 h x3 = some (hz, rz)) (hk0 : h.kd t0 = 13) {H : Heap} {locs : List Loc} {cells slots : Nat} (w : Wo D cs A s h0 h H locs cells slots) {ls : Array Slot} (hl : lv_has ls 4 [(0, .ref t0), (3, .int x3)]) : W p l e { frames := 7, cells := mc, slots := ms, locals := 210 } s m args below meth c H locs cells slots (MQ below (Zi D cs A hz rz) args s mc ms A) (F0 m 69 ls []) := by
  obtain ⟨hx, hb, hml, hown, hts, -⟩ := id C
  unfold B_X10_read_69 at hJ
  refine lv_aload_n hx hb dX10_read_69 rfl (lv_at hl 0 rfl) ?_
  refine fg_1335 C w hk0 tw_6_198 dX10_read_70 ?_
  refine lv_iload_n hx hb dX10_read_73 rfl (lv_at hl 1 rfl) ?_
  obtain ⟨a1, ea1, hka1, hJ⟩ := dr_some hJ
  rw [ea1]
  obtain ⟨hi2, hJ⟩ := ck_some hJ
  refine jr_ialdM C w hka1 hi2 dX10_read_74 ?_
  obtain ⟨rfl, rfl⟩ := rs2 hJ
  exact jr_iret C w hz2 dX10_read_75
def B_X10_read_56 (N : Nat) (t0 : Nat) (h : Hp) (x2 : Int32) (x3 : Int32) (y0 : Int32) : Option (Hp × Int32) := if y0 = 0 then (B_X10_read_69 N t0 h x3) else ((J_X10_found N t0 h x3 x2 (h.gl 1351 t0)).bind (fun z => B_X10_read_69 N t0 z.1 x3))
theorem mb_X10_read_56 (N : Nat) (t0 : Nat) (h : Hp) (x2 : Int32) (x3 : Int32) (y0 : Int32) (hJ : B_X10_read_56 N t0 h x2 x3 y0 = some (hz, rz)) : Mo h hz := by
  unfold B_X10_read_56 at hJ
  by_cases c3 : y0 = 0
  · have hJ := it_pos c3 hJ
    exact mb_X10_read_69 N t0 _ _ hJ
  · have hJ := it_neg c3 hJ
    obtain ⟨⟨h4, r5⟩, e6, hJ⟩ := ob_some hJ
    exact (mo_X10_found N t0 h x3 x2 (h.gl 1351 t0) e6).tr (mb_X10_read_69 N t0 _ _ hJ)
set_option maxRecDepth 100000 in
set_option maxHeartbeats 4000000 in
theorem sb_X10_read_56 (C : Cx p s m args meth c cX10_read 4 (some .int) RX10 D cs A h0.se) (hz2 : hz.nx ≤ h0.nx + mc ∧ hz.su ≤ h0.su + ms) (N : Nat) (t0 : Nat) (h : Hp) (x2 : Int32) (x3 : Int32) (y0 : Int32) (hJ : B_X10_read_56 N t0 h x2 x3 y0 = some (hz, rz)) (hk0 : h.kd t0 = 13) {H : Heap} {locs : List Loc} {cells slots : Nat} (w : Wo D cs A s h0 h H locs cells slots) {ls : Array Slot} (hl : lv_has ls 4 [(0, .ref t0), (2, .int x2), (3, .int x3)]) : W p l e { frames := 7, cells := mc, slots := ms, locals := 210 } s m args below meth c H locs cells slots (MQ below (Zi D cs A hz rz) args s mc ms A) (F0 m 56 ls [.int y0]) := by
  obtain ⟨hx, hb, hml, hown, hts, -⟩ := id C
  unfold B_X10_read_56 at hJ
  refine lv_if_eq (tgt := 69) hx hb dX10_read_56 (by decide) (fun c3 => ?_) (fun c3 => ?_)
  · have hJ := it_pos c3 hJ
    exact sb_X10_read_69 C hz2 N t0 _ _ hJ hk0 w (lv_sub (l' := [(0, .ref t0), (3, .int x3)]) hl [0, 2] rfl)
  · have hJ := it_neg c3 hJ
    refine lv_aload_n hx hb dX10_read_59 rfl (lv_at hl 0 rfl) ?_
    refine lv_iload_n hx hb dX10_read_60 rfl (lv_at hl 2 rfl) ?_
    refine lv_iload_n hx hb dX10_read_61 rfl (lv_at hl 1 rfl) ?_
    refine lv_aload_n hx hb dX10_read_62 rfl (lv_at hl 0 rfl) ?_
    refine fg_1351 C w hk0 tw_6_214 dX10_read_63 ?_
    obtain ⟨⟨h4, r5⟩, e6, hJ⟩ := ob_some hJ
    refine jc_Vv (As := [.int x3, .int x2, .long (h.gl 1351 t0)]) C w (cc_X10_found N t0 h x3 x2 (h.gl 1351 t0) hk0 e6) (mo_X10_found N t0 h x3 x2 (h.gl 1351 t0) e6) (mb_X10_read_69 N t0 _ _ hJ) hz2 hk0 (by decide) rfl (fs := fs13 h t0) rfl rfl ⟨tw_7_234, tw_7_231, tw_7_233, ts_52, tw_1_7⟩ cd_X10_found ⟨by decide, by decide⟩ hl.1 (by first | exact Nat.le_of_ble_eq_true rfl | simp [rf_cat, cat_i, cat_l, cat_r]) rfl dX10_read_66 (fun H locs w1 => ?_)
    have hk7 := kd_keep w (mo_X10_found N t0 h x3 x2 (h.gl 1351 t0) e6) hk0 (by decide)
    have w := w1
    exact sb_X10_read_69 C hz2 N t0 _ _ hJ hk7 w (lv_sub (l' := [(0, .ref t0), (3, .int x3)]) hl [0, 2] rfl)
def B_X10_read_49 (N : Nat) (t0 : Nat) (h : Hp) (x1 : Int32) (x2 : Int32) (y0 : Int32) : Option (Hp × Int32) := (J_X10_sees N t0 h x1 x2).bind (fun z => B_X10_read_56 N t0 z.1 x2 y0 z.2)
theorem mb_X10_read_49 (N : Nat) (t0 : Nat) (h : Hp) (x1 : Int32) (x2 : Int32) (y0 : Int32) (hJ : B_X10_read_49 N t0 h x1 x2 y0 = some (hz, rz)) : Mo h hz := by
  unfold B_X10_read_49 at hJ
  obtain ⟨⟨h8, r9⟩, e10, hJ⟩ := ob_some hJ
  exact (mo_X10_sees N t0 h x1 x2 e10).tr (mb_X10_read_56 N t0 _ _ _ _ hJ)
set_option maxRecDepth 100000 in
set_option maxHeartbeats 4000000 in
theorem sb_X10_read_49 (C : Cx p s m args meth c cX10_read 4 (some .int) RX10 D cs A h0.se) (hz2 : hz.nx ≤ h0.nx + mc ∧ hz.su ≤ h0.su + ms) (N : Nat) (t0 : Nat) (h : Hp) (x1 : Int32) (x2 : Int32) (y0 : Int32) (hJ : B_X10_read_49 N t0 h x1 x2 y0 = some (hz, rz)) (hk0 : h.kd t0 = 13) {H : Heap} {locs : List Loc} {cells slots : Nat} (w : Wo D cs A s h0 h H locs cells slots) {ls : Array Slot} (hl : lv_has ls 4 [(0, .ref t0), (1, .int x1), (2, .int x2)]) : W p l e { frames := 7, cells := mc, slots := ms, locals := 210 } s m args below meth c H locs cells slots (MQ below (Zi D cs A hz rz) args s mc ms A) (F0 m 49 ls [.int y0]) := by
  obtain ⟨hx, hb, hml, hown, hts, -⟩ := id C
  unfold B_X10_read_49 at hJ
  refine lv_istore_n (i := 3) (lv' := [(3, .int y0), (0, .ref t0), (1, .int x1), (2, .int x2)]) hx hb dX10_read_49 rfl hl (by decide) rfl (fun ls hl => ?_)
  refine lv_aload_n hx hb dX10_read_50 rfl (lv_at hl 1 rfl) ?_
  refine lv_iload_n hx hb dX10_read_51 rfl (lv_at hl 2 rfl) ?_
  refine lv_iload_n hx hb dX10_read_52 rfl (lv_at hl 3 rfl) ?_
  obtain ⟨⟨h8, r9⟩, e10, hJ⟩ := ob_some hJ
  refine jc_Vi (As := [.int x1, .int x2]) C w (cc_X10_sees N t0 h x1 x2 hk0 e10) (mo_X10_sees N t0 h x1 x2 e10) (mb_X10_read_56 N t0 _ _ _ _ hJ) hz2 hk0 (by decide) rfl (fs := fs13 h t0) rfl rfl ⟨tw_7_226, tw_7_223, tw_7_225, ts_50, tw_1_7⟩ cd_X10_sees ⟨by decide, by decide⟩ hl.1 (by first | exact Nat.le_of_ble_eq_true rfl | simp [rf_cat, cat_i, cat_l, cat_r]) rfl dX10_read_53 (fun H locs w1 => ?_)
  have hk11 := kd_keep w (mo_X10_sees N t0 h x1 x2 e10) hk0 (by decide)
  have w := w1
  exact sb_X10_read_56 C hz2 N t0 _ _ _ _ hJ hk11 w (lv_sub (l' := [(0, .ref t0), (2, .int x2), (3, .int y0)]) hl [1, 3, 0] rfl)
def B_X10_read_42 (N : Nat) (t0 : Nat) (h : Hp) (x1 : Int32) (x2 : Int32) : Option (Hp × Int32) := (J_X10_log N t0 h (1 : Int32) x1 x2).bind (fun z => B_X10_read_49 N t0 z.1 x1 x2 z.2)
theorem mb_X10_read_42 (N : Nat) (t0 : Nat) (h : Hp) (x1 : Int32) (x2 : Int32) (hJ : B_X10_read_42 N t0 h x1 x2 = some (hz, rz)) : Mo h hz := by
  unfold B_X10_read_42 at hJ
  obtain ⟨⟨h12, r13⟩, e14, hJ⟩ := ob_some hJ
  exact (mo_X10_log N t0 h (1 : Int32) x1 x2 e14).tr (mb_X10_read_49 N t0 _ _ _ _ hJ)
set_option maxRecDepth 100000 in
set_option maxHeartbeats 4000000 in
theorem sb_X10_read_42 (C : Cx p s m args meth c cX10_read 4 (some .int) RX10 D cs A h0.se) (hz2 : hz.nx ≤ h0.nx + mc ∧ hz.su ≤ h0.su + ms) (N : Nat) (t0 : Nat) (h : Hp) (x1 : Int32) (x2 : Int32) (hJ : B_X10_read_42 N t0 h x1 x2 = some (hz, rz)) (hk0 : h.kd t0 = 13) {H : Heap} {locs : List Loc} {cells slots : Nat} (w : Wo D cs A s h0 h H locs cells slots) {ls : Array Slot} (hl : lv_has ls 4 [(0, .ref t0), (1, .int x1), (2, .int x2)]) : W p l e { frames := 7, cells := mc, slots := ms, locals := 210 } s m args below meth c H locs cells slots (MQ below (Zi D cs A hz rz) args s mc ms A) (F0 m 42 ls []) := by
  obtain ⟨hx, hb, hml, hown, hts, -⟩ := id C
  unfold B_X10_read_42 at hJ
  refine lv_aload_n hx hb dX10_read_42 rfl (lv_at hl 0 rfl) ?_
  refine lv_iconst (v := (1 : Int32)) hx hb dX10_read_43 (by decide) ?_
  refine lv_iload_n hx hb dX10_read_44 rfl (lv_at hl 1 rfl) ?_
  refine lv_iload_n hx hb dX10_read_45 rfl (lv_at hl 2 rfl) ?_
  obtain ⟨⟨h12, r13⟩, e14, hJ⟩ := ob_some hJ
  refine jc_Vi (As := [.int (1 : Int32), .int x1, .int x2]) C w (cc_X10_log N t0 h (1 : Int32) x1 x2 hk0 e14) (mo_X10_log N t0 h (1 : Int32) x1 x2 e14) (mb_X10_read_49 N t0 _ _ _ _ hJ) hz2 hk0 (by decide) rfl (fs := fs13 h t0) rfl rfl ⟨tw_7_222, tw_7_219, tw_7_221, ts_49, tw_1_7⟩ cd_X10_log ⟨by decide, by decide⟩ hl.1 (by first | exact Nat.le_of_ble_eq_true rfl | simp [rf_cat, cat_i, cat_l, cat_r]) rfl dX10_read_46 (fun H locs w1 => ?_)
  have hk15 := kd_keep w (mo_X10_log N t0 h (1 : Int32) x1 x2 e14) hk0 (by decide)
  have w := w1
  exact sb_X10_read_49 C hz2 N t0 _ _ _ _ hJ hk15 w hl
def B_X10_read_37 (N : Nat) (t0 : Nat) (h : Hp) (x1 : Int32) (x2 : Int32) (y0 : Int32) : Option (Hp × Int32) := if y0 = 0 then (some (h, (-1 : Int32))) else (B_X10_read_42 N t0 h x1 x2)
theorem mb_X10_read_37 (N : Nat) (t0 : Nat) (h : Hp) (x1 : Int32) (x2 : Int32) (y0 : Int32) (hJ : B_X10_read_37 N t0 h x1 x2 y0 = some (hz, rz)) : Mo h hz := by
  unfold B_X10_read_37 at hJ
  by_cases c16 : y0 = 0
  · have hJ := it_pos c16 hJ
    obtain ⟨rfl, -⟩ := rs2 hJ
    exact ⟨fun _ _ => rfl, Nat.le_refl _, Nat.le_refl _, rfl, fun _ _ => rfl⟩
  · have hJ := it_neg c16 hJ
    exact mb_X10_read_42 N t0 _ _ _ hJ
set_option maxRecDepth 100000 in
set_option maxHeartbeats 4000000 in
theorem sb_X10_read_37 (C : Cx p s m args meth c cX10_read 4 (some .int) RX10 D cs A h0.se) (hz2 : hz.nx ≤ h0.nx + mc ∧ hz.su ≤ h0.su + ms) (N : Nat) (t0 : Nat) (h : Hp) (x1 : Int32) (x2 : Int32) (y0 : Int32) (hJ : B_X10_read_37 N t0 h x1 x2 y0 = some (hz, rz)) (hk0 : h.kd t0 = 13) {H : Heap} {locs : List Loc} {cells slots : Nat} (w : Wo D cs A s h0 h H locs cells slots) {ls : Array Slot} (hl : lv_has ls 4 [(0, .ref t0), (1, .int x1), (2, .int x2)]) : W p l e { frames := 7, cells := mc, slots := ms, locals := 210 } s m args below meth c H locs cells slots (MQ below (Zi D cs A hz rz) args s mc ms A) (F0 m 37 ls [.int y0]) := by
  obtain ⟨hx, hb, hml, hown, hts, -⟩ := id C
  unfold B_X10_read_37 at hJ
  refine lv_if_ne (tgt := 42) hx hb dX10_read_37 (by decide) (fun c16 => ?_) (fun c16 => ?_)
  · have hJ := it_neg c16 hJ
    exact sb_X10_read_42 C hz2 N t0 _ _ _ hJ hk0 w hl
  · have hJ := it_pos c16 hJ
    refine lv_iconst (v := (-1 : Int32)) hx hb dX10_read_40 (by decide) ?_
    obtain ⟨rfl, rfl⟩ := rs2 hJ
    exact jr_iret C w hz2 dX10_read_41
def B_X10_read_26 (N : Nat) (t0 : Nat) (h : Hp) (x1 : Int32) (x2 : Int32) (y0 : Int32) : Option (Hp × Int32) := if y0 = (-1 : Int32) then ((J_X10_looks N t0 h x1 x2 x2).bind (fun z => B_X10_read_37 N t0 z.1 x1 x2 z.2)) else (B_X10_read_42 N t0 h x1 x2)
theorem mb_X10_read_26 (N : Nat) (t0 : Nat) (h : Hp) (x1 : Int32) (x2 : Int32) (y0 : Int32) (hJ : B_X10_read_26 N t0 h x1 x2 y0 = some (hz, rz)) : Mo h hz := by
  unfold B_X10_read_26 at hJ
  by_cases c17 : y0 = (-1 : Int32)
  · have hJ := it_pos c17 hJ
    obtain ⟨⟨h18, r19⟩, e20, hJ⟩ := ob_some hJ
    exact (mo_X10_looks N t0 h x1 x2 x2 e20).tr (mb_X10_read_37 N t0 _ _ _ _ hJ)
  · have hJ := it_neg c17 hJ
    exact mb_X10_read_42 N t0 _ _ _ hJ
set_option maxRecDepth 100000 in
set_option maxHeartbeats 4000000 in
theorem sb_X10_read_26 (C : Cx p s m args meth c cX10_read 4 (some .int) RX10 D cs A h0.se) (hz2 : hz.nx ≤ h0.nx + mc ∧ hz.su ≤ h0.su + ms) (N : Nat) (t0 : Nat) (h : Hp) (x1 : Int32) (x2 : Int32) (y0 : Int32) (hJ : B_X10_read_26 N t0 h x1 x2 y0 = some (hz, rz)) (hk0 : h.kd t0 = 13) {H : Heap} {locs : List Loc} {cells slots : Nat} (w : Wo D cs A s h0 h H locs cells slots) {ls : Array Slot} (hl : lv_has ls 4 [(0, .ref t0), (1, .int x1), (2, .int x2)]) : W p l e { frames := 7, cells := mc, slots := ms, locals := 210 } s m args below meth c H locs cells slots (MQ below (Zi D cs A hz rz) args s mc ms A) (F0 m 26 ls [.int y0]) := by
  obtain ⟨hx, hb, hml, hown, hts, -⟩ := id C
  unfold B_X10_read_26 at hJ
  refine lv_iconst (v := (-1 : Int32)) hx hb dX10_read_26 (by decide) ?_
  refine lv_icmp_ne (tgt := 42) hx hb dX10_read_27 (by decide) (fun c17 => ?_) (fun c17 => ?_)
  · have hJ := it_neg c17 hJ
    exact sb_X10_read_42 C hz2 N t0 _ _ _ hJ hk0 w hl
  · have hJ := it_pos c17 hJ
    refine lv_aload_n hx hb dX10_read_30 rfl (lv_at hl 0 rfl) ?_
    refine lv_iload_n hx hb dX10_read_31 rfl (lv_at hl 1 rfl) ?_
    refine lv_iload_n hx hb dX10_read_32 rfl (lv_at hl 2 rfl) ?_
    refine lv_iload_n hx hb dX10_read_33 rfl (lv_at hl 2 rfl) ?_
    obtain ⟨⟨h18, r19⟩, e20, hJ⟩ := ob_some hJ
    refine jc_Vi (As := [.int x1, .int x2, .int x2]) C w (cc_X10_looks N t0 h x1 x2 x2 hk0 e20) (mo_X10_looks N t0 h x1 x2 x2 e20) (mb_X10_read_37 N t0 _ _ _ _ hJ) hz2 hk0 (by decide) rfl (fs := fs13 h t0) rfl rfl ⟨tw_7_218, tw_7_215, tw_7_217, ts_48, tw_1_7⟩ cd_X10_looks ⟨by decide, by decide⟩ hl.1 (by first | exact Nat.le_of_ble_eq_true rfl | simp [rf_cat, cat_i, cat_l, cat_r]) rfl dX10_read_34 (fun H locs w1 => ?_)
    have hk21 := kd_keep w (mo_X10_looks N t0 h x1 x2 x2 e20) hk0 (by decide)
    have w := w1
    exact sb_X10_read_37 C hz2 N t0 _ _ _ _ hJ hk21 w hl
def B_X10_read_15 (N : Nat) (t0 : Nat) (h : Hp) (x1 : Int32) (x2 : Int32) (y0 : Int32) : Option (Hp × Int32) := if y0 = 0 then ((J_X10_ownOf N t0 h x1 x2).bind (fun z => B_X10_read_26 N t0 z.1 x1 x2 z.2)) else (some (h, (0 : Int32)))
theorem mb_X10_read_15 (N : Nat) (t0 : Nat) (h : Hp) (x1 : Int32) (x2 : Int32) (y0 : Int32) (hJ : B_X10_read_15 N t0 h x1 x2 y0 = some (hz, rz)) : Mo h hz := by
  unfold B_X10_read_15 at hJ
  by_cases c22 : y0 = 0
  · have hJ := it_pos c22 hJ
    obtain ⟨⟨h23, r24⟩, e25, hJ⟩ := ob_some hJ
    exact (mo_X10_ownOf N t0 h x1 x2 e25).tr (mb_X10_read_26 N t0 _ _ _ _ hJ)
  · have hJ := it_neg c22 hJ
    obtain ⟨rfl, -⟩ := rs2 hJ
    exact ⟨fun _ _ => rfl, Nat.le_refl _, Nat.le_refl _, rfl, fun _ _ => rfl⟩
set_option maxRecDepth 100000 in
set_option maxHeartbeats 4000000 in
theorem sb_X10_read_15 (C : Cx p s m args meth c cX10_read 4 (some .int) RX10 D cs A h0.se) (hz2 : hz.nx ≤ h0.nx + mc ∧ hz.su ≤ h0.su + ms) (N : Nat) (t0 : Nat) (h : Hp) (x1 : Int32) (x2 : Int32) (y0 : Int32) (hJ : B_X10_read_15 N t0 h x1 x2 y0 = some (hz, rz)) (hk0 : h.kd t0 = 13) {H : Heap} {locs : List Loc} {cells slots : Nat} (w : Wo D cs A s h0 h H locs cells slots) {ls : Array Slot} (hl : lv_has ls 4 [(0, .ref t0), (1, .int x1), (2, .int x2)]) : W p l e { frames := 7, cells := mc, slots := ms, locals := 210 } s m args below meth c H locs cells slots (MQ below (Zi D cs A hz rz) args s mc ms A) (F0 m 15 ls [.int y0]) := by
  obtain ⟨hx, hb, hml, hown, hts, -⟩ := id C
  unfold B_X10_read_15 at hJ
  refine lv_if_eq (tgt := 20) hx hb dX10_read_15 (by decide) (fun c22 => ?_) (fun c22 => ?_)
  · have hJ := it_pos c22 hJ
    refine lv_aload_n hx hb dX10_read_20 rfl (lv_at hl 0 rfl) ?_
    refine lv_iload_n hx hb dX10_read_21 rfl (lv_at hl 1 rfl) ?_
    refine lv_iload_n hx hb dX10_read_22 rfl (lv_at hl 2 rfl) ?_
    obtain ⟨⟨h23, r24⟩, e25, hJ⟩ := ob_some hJ
    refine jc_Vi (As := [.int x1, .int x2]) C w (cc_X10_ownOf N t0 h x1 x2 hk0 e25) (mo_X10_ownOf N t0 h x1 x2 e25) (mb_X10_read_26 N t0 _ _ _ _ hJ) hz2 hk0 (by decide) rfl (fs := fs13 h t0) rfl rfl ⟨tw_7_186, tw_7_183, tw_7_185, ts_42, tw_1_7⟩ cd_X10_ownOf ⟨by decide, by decide⟩ hl.1 (by first | exact Nat.le_of_ble_eq_true rfl | simp [rf_cat, cat_i, cat_l, cat_r]) rfl dX10_read_23 (fun H locs w1 => ?_)
    have hk26 := kd_keep w (mo_X10_ownOf N t0 h x1 x2 e25) hk0 (by decide)
    have w := w1
    exact sb_X10_read_26 C hz2 N t0 _ _ _ _ hJ hk26 w hl
  · have hJ := it_neg c22 hJ
    refine lv_iconst (v := (0 : Int32)) hx hb dX10_read_18 (by decide) ?_
    obtain ⟨rfl, rfl⟩ := rs2 hJ
    exact jr_iret C w hz2 dX10_read_19
def B_X10_read_0 (N : Nat) (t0 : Nat) (h : Hp) (x1 : Int32) (x2 : Int32) : Option (Hp × Int32) := (J_X10_isIdle N t0 (h.sgi 1313 t0 ((h.gi 1313 t0) + (1 : Int32))) x1).bind (fun z => B_X10_read_15 N t0 z.1 x1 x2 z.2)
theorem mb_X10_read_0 (N : Nat) (t0 : Nat) (h : Hp) (x1 : Int32) (x2 : Int32) (hJ : B_X10_read_0 N t0 h x1 x2 = some (hz, rz)) : Mo h hz := by
  unfold B_X10_read_0 at hJ
  obtain ⟨⟨h27, r28⟩, e29, hJ⟩ := ob_some hJ
  exact (Mo.tr (show Mo h (h.sgi 1313 t0 ((h.gi 1313 t0) + (1 : Int32))) from ⟨fun _ _ => rfl, Nat.le_refl _, Nat.le_refl _, rfl, fun _ _ => rfl⟩) ((mo_X10_isIdle N t0 (h.sgi 1313 t0 ((h.gi 1313 t0) + (1 : Int32))) x1 e29).tr (mb_X10_read_15 N t0 _ _ _ _ hJ)))
set_option maxRecDepth 100000 in
set_option maxHeartbeats 4000000 in
theorem sb_X10_read_0 (C : Cx p s m args meth c cX10_read 4 (some .int) RX10 D cs A h0.se) (hz2 : hz.nx ≤ h0.nx + mc ∧ hz.su ≤ h0.su + ms) (N : Nat) (t0 : Nat) (h : Hp) (x1 : Int32) (x2 : Int32) (hJ : B_X10_read_0 N t0 h x1 x2 = some (hz, rz)) (hk0 : h.kd t0 = 13) {H : Heap} {locs : List Loc} {cells slots : Nat} (w : Wo D cs A s h0 h H locs cells slots) {ls : Array Slot} (hl : lv_has ls 4 [(0, .ref t0), (1, .int x1), (2, .int x2)]) : W p l e { frames := 7, cells := mc, slots := ms, locals := 210 } s m args below meth c H locs cells slots (MQ below (Zi D cs A hz rz) args s mc ms A) (F0 m 0 ls []) := by
  obtain ⟨hx, hb, hml, hown, hts, -⟩ := id C
  unfold B_X10_read_0 at hJ
  refine lv_aload_n hx hb dX10_read_0 rfl (lv_at hl 0 rfl) ?_
  refine lv_dup hx hb dX10_read_1 rfl ?_
  refine fg_1313 C w hk0 tw_6_176 dX10_read_2 ?_
  refine lv_iconst (v := (1 : Int32)) hx hb dX10_read_5 (by decide) ?_
  refine lv_iadd hx hb dX10_read_6 ?_
  refine fp_1313 (x := (h.gi 1313 t0) + (1 : Int32)) C w hk0 tw_6_176 dX10_read_7 (fun H locs w => ?_)
  refine lv_aload_n hx hb dX10_read_10 rfl (lv_at hl 0 rfl) ?_
  refine lv_iload_n hx hb dX10_read_11 rfl (lv_at hl 1 rfl) ?_
  obtain ⟨⟨h27, r28⟩, e29, hJ⟩ := ob_some hJ
  refine jc_Vi (As := [.int x1]) C w (cc_X10_isIdle N t0 (h.sgi 1313 t0 ((h.gi 1313 t0) + (1 : Int32))) x1 hk0 e29) (mo_X10_isIdle N t0 (h.sgi 1313 t0 ((h.gi 1313 t0) + (1 : Int32))) x1 e29) (mb_X10_read_15 N t0 _ _ _ _ hJ) hz2 hk0 (by decide) rfl (fs := fs13 (h.sgi 1313 t0 ((h.gi 1313 t0) + (1 : Int32))) t0) rfl rfl ⟨tw_7_174, tw_7_171, tw_7_173, ts_39, tw_1_7⟩ cd_X10_isIdle ⟨by decide, by decide⟩ hl.1 (by first | exact Nat.le_of_ble_eq_true rfl | simp [rf_cat, cat_i, cat_l, cat_r]) rfl dX10_read_12 (fun H locs w1 => ?_)
  have hk30 := kd_keep w (mo_X10_isIdle N t0 (h.sgi 1313 t0 ((h.gi 1313 t0) + (1 : Int32))) x1 e29) hk0 (by decide)
  have w := w1
  exact sb_X10_read_15 C hz2 N t0 _ _ _ _ hJ hk30 w hl
def J_X10_read (N : Nat) (t0 : Nat) (h : Hp) (x1 : Int32) (x2 : Int32) : Option (Hp × Int32) := B_X10_read_0 N t0 h x1 x2
theorem mo_X10_read (N : Nat) (t0 : Nat) (h : Hp) (x1 : Int32) (x2 : Int32) (hJ : J_X10_read N t0 h x1 x2 = some (hz, rz)) : Mo h hz := mb_X10_read_0 N t0 h x1 x2 hJ
theorem cd_X10_read : Cd yX10_read 2 := ⟨by decide +kernel, by decide +kernel, by decide +kernel⟩
theorem cc_X10_read (N : Nat) (t0 : Nat) (h : Hp) (x1 : Int32) (x2 : Int32) (hk0 : h.kd t0 = 13) (hJ : J_X10_read N t0 h x1 x2 = some (hz, rz)) : Ci l yX10_read cX10_read 4 (some .int) 7 210 D cs h hz [.ref t0, .int x1, .int x2] rz := by
  intro mc ms g1 g2
  refine je_any (by decide) (by simp [lg_sl, rf_cat, cat_i, cat_l, cat_r]) ?_
  intro p e s m args below meth c C hin2 w ls hl
  have hl : lv_has ls 4 [(0, .ref t0), (1, .int x1), (2, .int x2)] := hl
  exact sb_X10_read_0 C ⟨g1, g2⟩ N t0 h x1 x2 hJ hk0 w hl
end G_X10_read
section G_X10_nearest
variable {p : Program} {l : Launch} {e : Env} {s : State} {m : MethodId} {args : Array Value} {below : List Frame} {meth : Method} {c : Code} {D : va_G} {cs : C4} {A : Nat → Prop} {h0 hz : Hp} {mc ms : Nat} {rz : Int32}
def B_X10_nearest_90 (N : Nat) (k10 : Hp → Int32 → Int32 → Int32 → Int32 → Int32 → Option (Hp × Int32)) (t0 : Nat) (h : Hp) (x1 : Int32) (x2 : Int32) (x3 : Int32) (x4 : Int32) (x5 : Int32) : Option (Hp × Int32) := k10 h x1 x2 x3 x4 (x5 + (1 : Int32))
theorem mb_X10_nearest_90 (N : Nat) (k10 : Hp → Int32 → Int32 → Int32 → Int32 → Int32 → Option (Hp × Int32)) (t0 : Nat) (h : Hp) (x1 : Int32) (x2 : Int32) (x3 : Int32) (x4 : Int32) (x5 : Int32) (m10 : ∀ (h : Hp) (x1 : Int32) (x2 : Int32) (x3 : Int32) (x4 : Int32) (x5 : Int32), k10 h x1 x2 x3 x4 x5 = some (hz, rz) → Mo h hz) (hJ : B_X10_nearest_90 N k10 t0 h x1 x2 x3 x4 x5 = some (hz, rz)) : Mo h hz := by
  unfold B_X10_nearest_90 at hJ
  exact m10 _ _ _ _ _ _ hJ
set_option maxRecDepth 100000 in
set_option maxHeartbeats 4000000 in
theorem sb_X10_nearest_90 (C : Cx p s m args meth c cX10_nearest 7 (some .int) RX10 D cs A h0.se) (hz2 : hz.nx ≤ h0.nx + mc ∧ hz.su ≤ h0.su + ms) (N : Nat) (k10 : Hp → Int32 → Int32 → Int32 → Int32 → Int32 → Option (Hp × Int32)) (t0 : Nat) (m10 : ∀ (h : Hp) (x1 : Int32) (x2 : Int32) (x3 : Int32) (x4 : Int32) (x5 : Int32), k10 h x1 x2 x3 x4 x5 = some (hz, rz) → Mo h hz) (i10 : ∀ (h : Hp) (x1 : Int32) (x2 : Int32) (x3 : Int32) (x4 : Int32) (x5 : Int32) (H : Heap) (locs : List Loc) (cells slots : Nat) (ls : Array Slot), k10 h x1 x2 x3 x4 x5 = some (hz, rz) → h.kd t0 = 13 → Wo D cs A s h0 h H locs cells slots → lv_has ls 7 [(0, .ref t0), (1, .int x1), (2, .int x2), (3, .int x3), (4, .int x4), (5, .int x5)] → W p l e { frames := 3, cells := mc, slots := ms, locals := 90 } s m args below meth c H locs cells slots (MQ below (Zi D cs A hz rz) args s mc ms A) (F0 m 10 ls [])) (h : Hp) (x1 : Int32) (x2 : Int32) (x3 : Int32) (x4 : Int32) (x5 : Int32) (hJ : B_X10_nearest_90 N k10 t0 h x1 x2 x3 x4 x5 = some (hz, rz)) (hk0 : h.kd t0 = 13) {H : Heap} {locs : List Loc} {cells slots : Nat} (w : Wo D cs A s h0 h H locs cells slots) {ls : Array Slot} (hl : lv_has ls 7 [(0, .ref t0), (1, .int x1), (2, .int x2), (3, .int x3), (4, .int x4), (5, .int x5)]) : W p l e { frames := 3, cells := mc, slots := ms, locals := 90 } s m args below meth c H locs cells slots (MQ below (Zi D cs A hz rz) args s mc ms A) (F0 m 90 ls []) := by
  obtain ⟨hx, hb, hml, hown, hts, -⟩ := id C
  unfold B_X10_nearest_90 at hJ
  refine lv_iinc (v := x5 + (1 : Int32)) (lv' := [(5, .int (x5 + (1 : Int32))), (0, .ref t0), (1, .int x1), (2, .int x2), (3, .int x3), (4, .int x4)]) hx hb dX10_nearest_90 hl (k := 5) rfl rfl (by decide) rfl (fun ls hl => ?_)
  refine lv_goto (tgt := 10) hx hb dX10_nearest_93 (by decide) ?_
  exact i10 _ _ _ _ _ _ _ _ _ _ _ hJ hk0 w (lv_sub (l' := [(0, .ref t0), (1, .int x1), (2, .int x2), (3, .int x3), (4, .int x4), (5, .int (x5 + (1 : Int32)))]) hl [1, 2, 3, 4, 5, 0] rfl)
def B_X10_nearest_83 (N : Nat) (k10 : Hp → Int32 → Int32 → Int32 → Int32 → Int32 → Option (Hp × Int32)) (t0 : Nat) (h : Hp) (x1 : Int32) (x2 : Int32) (x3 : Int32) (x4 : Int32) (x5 : Int32) (y0 : Int32) : Option (Hp × Int32) := if y0 = 0 then (B_X10_nearest_90 N k10 t0 h x1 x2 x3 x4 x5) else (B_X10_nearest_90 N k10 t0 h x1 x2 x3 x5 x5)
theorem mb_X10_nearest_83 (N : Nat) (k10 : Hp → Int32 → Int32 → Int32 → Int32 → Int32 → Option (Hp × Int32)) (t0 : Nat) (h : Hp) (x1 : Int32) (x2 : Int32) (x3 : Int32) (x4 : Int32) (x5 : Int32) (y0 : Int32) (m10 : ∀ (h : Hp) (x1 : Int32) (x2 : Int32) (x3 : Int32) (x4 : Int32) (x5 : Int32), k10 h x1 x2 x3 x4 x5 = some (hz, rz) → Mo h hz) (hJ : B_X10_nearest_83 N k10 t0 h x1 x2 x3 x4 x5 y0 = some (hz, rz)) : Mo h hz := by
  unfold B_X10_nearest_83 at hJ
  by_cases c1 : y0 = 0
  · have hJ := it_pos c1 hJ
    exact mb_X10_nearest_90 N k10 t0 _ _ _ _ _ _ m10 hJ
  · have hJ := it_neg c1 hJ
    exact mb_X10_nearest_90 N k10 t0 _ _ _ _ _ _ m10 hJ
set_option maxRecDepth 100000 in
set_option maxHeartbeats 4000000 in
theorem sb_X10_nearest_83 (C : Cx p s m args meth c cX10_nearest 7 (some .int) RX10 D cs A h0.se) (hz2 : hz.nx ≤ h0.nx + mc ∧ hz.su ≤ h0.su + ms) (N : Nat) (k10 : Hp → Int32 → Int32 → Int32 → Int32 → Int32 → Option (Hp × Int32)) (t0 : Nat) (m10 : ∀ (h : Hp) (x1 : Int32) (x2 : Int32) (x3 : Int32) (x4 : Int32) (x5 : Int32), k10 h x1 x2 x3 x4 x5 = some (hz, rz) → Mo h hz) (i10 : ∀ (h : Hp) (x1 : Int32) (x2 : Int32) (x3 : Int32) (x4 : Int32) (x5 : Int32) (H : Heap) (locs : List Loc) (cells slots : Nat) (ls : Array Slot), k10 h x1 x2 x3 x4 x5 = some (hz, rz) → h.kd t0 = 13 → Wo D cs A s h0 h H locs cells slots → lv_has ls 7 [(0, .ref t0), (1, .int x1), (2, .int x2), (3, .int x3), (4, .int x4), (5, .int x5)] → W p l e { frames := 3, cells := mc, slots := ms, locals := 90 } s m args below meth c H locs cells slots (MQ below (Zi D cs A hz rz) args s mc ms A) (F0 m 10 ls [])) (h : Hp) (x1 : Int32) (x2 : Int32) (x3 : Int32) (x4 : Int32) (x5 : Int32) (y0 : Int32) (hJ : B_X10_nearest_83 N k10 t0 h x1 x2 x3 x4 x5 y0 = some (hz, rz)) (hk0 : h.kd t0 = 13) {H : Heap} {locs : List Loc} {cells slots : Nat} (w : Wo D cs A s h0 h H locs cells slots) {ls : Array Slot} (hl : lv_has ls 7 [(0, .ref t0), (1, .int x1), (2, .int x2), (3, .int x3), (4, .int x4), (5, .int x5)]) : W p l e { frames := 3, cells := mc, slots := ms, locals := 90 } s m args below meth c H locs cells slots (MQ below (Zi D cs A hz rz) args s mc ms A) (F0 m 83 ls [.int y0]) := by
  obtain ⟨hx, hb, hml, hown, hts, -⟩ := id C
  unfold B_X10_nearest_83 at hJ
  refine lv_if_eq (tgt := 90) hx hb dX10_nearest_83 (by decide) (fun c1 => ?_) (fun c1 => ?_)
  · have hJ := it_pos c1 hJ
    exact sb_X10_nearest_90 C hz2 N k10 t0 m10 i10 _ _ _ _ _ _ hJ hk0 w hl
  · have hJ := it_neg c1 hJ
    refine lv_iload hx hb dX10_nearest_86 (lv_at hl 5 rfl) ?_
    refine lv_istore (i := 4) (lv' := [(4, .int x5), (0, .ref t0), (1, .int x1), (2, .int x2), (3, .int x3), (5, .int x5)]) hx hb dX10_nearest_88 hl (by decide) rfl (fun ls hl => ?_)
    exact sb_X10_nearest_90 C hz2 N k10 t0 m10 i10 _ _ _ _ _ _ hJ hk0 w (lv_sub (l' := [(0, .ref t0), (1, .int x1), (2, .int x2), (3, .int x3), (4, .int x5), (5, .int x5)]) hl [1, 2, 3, 4, 0, 5] rfl)
def B_X10_nearest_64 (N : Nat) (k10 : Hp → Int32 → Int32 → Int32 → Int32 → Int32 → Option (Hp × Int32)) (t0 : Nat) (h : Hp) (x1 : Int32) (x2 : Int32) (x3 : Int32) (x4 : Int32) (x5 : Int32) (y0 : Int32) : Option (Hp × Int32) := if y0 = 0 then (B_X10_nearest_90 N k10 t0 h x1 x2 x3 x4 x5) else (dr h 30 (h.gr 1352 t0) (fun a3 => ck (¬ (x5 < 0 ∨ h.al a3 ≤ x5.toNatClampNeg)) ((J_X10_sees N t0 h x1 (h.bi a3 x5.toNatClampNeg)).bind (fun z => B_X10_nearest_83 N k10 t0 z.1 x1 x2 x3 x4 x5 z.2))))
theorem mb_X10_nearest_64 (N : Nat) (k10 : Hp → Int32 → Int32 → Int32 → Int32 → Int32 → Option (Hp × Int32)) (t0 : Nat) (h : Hp) (x1 : Int32) (x2 : Int32) (x3 : Int32) (x4 : Int32) (x5 : Int32) (y0 : Int32) (m10 : ∀ (h : Hp) (x1 : Int32) (x2 : Int32) (x3 : Int32) (x4 : Int32) (x5 : Int32), k10 h x1 x2 x3 x4 x5 = some (hz, rz) → Mo h hz) (hJ : B_X10_nearest_64 N k10 t0 h x1 x2 x3 x4 x5 y0 = some (hz, rz)) : Mo h hz := by
  unfold B_X10_nearest_64 at hJ
  by_cases c2 : y0 = 0
  · have hJ := it_pos c2 hJ
    exact mb_X10_nearest_90 N k10 t0 _ _ _ _ _ _ m10 hJ
  · have hJ := it_neg c2 hJ
    obtain ⟨a3, ea3, -, hJ⟩ := dr_some hJ
    obtain ⟨-, hJ⟩ := ck_some hJ
    obtain ⟨⟨h5, r6⟩, e7, hJ⟩ := ob_some hJ
    exact (mo_X10_sees N t0 h x1 (h.bi a3 x5.toNatClampNeg) e7).tr (mb_X10_nearest_83 N k10 t0 _ _ _ _ _ _ _ m10 hJ)
set_option maxRecDepth 100000 in
set_option maxHeartbeats 4000000 in
theorem sb_X10_nearest_64 (C : Cx p s m args meth c cX10_nearest 7 (some .int) RX10 D cs A h0.se) (hz2 : hz.nx ≤ h0.nx + mc ∧ hz.su ≤ h0.su + ms) (N : Nat) (k10 : Hp → Int32 → Int32 → Int32 → Int32 → Int32 → Option (Hp × Int32)) (t0 : Nat) (m10 : ∀ (h : Hp) (x1 : Int32) (x2 : Int32) (x3 : Int32) (x4 : Int32) (x5 : Int32), k10 h x1 x2 x3 x4 x5 = some (hz, rz) → Mo h hz) (i10 : ∀ (h : Hp) (x1 : Int32) (x2 : Int32) (x3 : Int32) (x4 : Int32) (x5 : Int32) (H : Heap) (locs : List Loc) (cells slots : Nat) (ls : Array Slot), k10 h x1 x2 x3 x4 x5 = some (hz, rz) → h.kd t0 = 13 → Wo D cs A s h0 h H locs cells slots → lv_has ls 7 [(0, .ref t0), (1, .int x1), (2, .int x2), (3, .int x3), (4, .int x4), (5, .int x5)] → W p l e { frames := 3, cells := mc, slots := ms, locals := 90 } s m args below meth c H locs cells slots (MQ below (Zi D cs A hz rz) args s mc ms A) (F0 m 10 ls [])) (h : Hp) (x1 : Int32) (x2 : Int32) (x3 : Int32) (x4 : Int32) (x5 : Int32) (y0 : Int32) (hJ : B_X10_nearest_64 N k10 t0 h x1 x2 x3 x4 x5 y0 = some (hz, rz)) (hk0 : h.kd t0 = 13) {H : Heap} {locs : List Loc} {cells slots : Nat} (w : Wo D cs A s h0 h H locs cells slots) {ls : Array Slot} (hl : lv_has ls 7 [(0, .ref t0), (1, .int x1), (2, .int x2), (3, .int x3), (4, .int x4), (5, .int x5)]) : W p l e { frames := 3, cells := mc, slots := ms, locals := 90 } s m args below meth c H locs cells slots (MQ below (Zi D cs A hz rz) args s mc ms A) (F0 m 64 ls [.int y0]) := by
  obtain ⟨hx, hb, hml, hown, hts, -⟩ := id C
  unfold B_X10_nearest_64 at hJ
  refine lv_istore (i := 6) (lv' := [(6, .int y0), (0, .ref t0), (1, .int x1), (2, .int x2), (3, .int x3), (4, .int x4), (5, .int x5)]) hx hb dX10_nearest_64 hl (by decide) rfl (fun ls hl => ?_)
  refine lv_iload hx hb dX10_nearest_66 (lv_at hl 0 rfl) ?_
  refine lv_if_eq (tgt := 90) hx hb dX10_nearest_68 (by decide) (fun c2 => ?_) (fun c2 => ?_)
  · have hJ := it_pos c2 hJ
    exact sb_X10_nearest_90 C hz2 N k10 t0 m10 i10 _ _ _ _ _ _ hJ hk0 w (lv_sub (l' := [(0, .ref t0), (1, .int x1), (2, .int x2), (3, .int x3), (4, .int x4), (5, .int x5)]) hl [1, 2, 3, 4, 5, 6] rfl)
  · have hJ := it_neg c2 hJ
    refine lv_aload_n hx hb dX10_nearest_71 rfl (lv_at hl 1 rfl) ?_
    refine lv_iload_n hx hb dX10_nearest_72 rfl (lv_at hl 2 rfl) ?_
    refine lv_aload_n hx hb dX10_nearest_73 rfl (lv_at hl 1 rfl) ?_
    refine fg_1352 C w hk0 tw_6_215 dX10_nearest_74 ?_
    refine lv_iload hx hb dX10_nearest_77 (lv_at hl 6 rfl) ?_
    obtain ⟨a3, ea3, hka3, hJ⟩ := dr_some hJ
    rw [ea3]
    obtain ⟨hi4, hJ⟩ := ck_some hJ
    refine jr_ialdM C w hka3 hi4 dX10_nearest_79 ?_
    obtain ⟨⟨h5, r6⟩, e7, hJ⟩ := ob_some hJ
    refine jc_Vi (As := [.int x1, .int (h.bi a3 x5.toNatClampNeg)]) C w (cc_X10_sees N t0 h x1 (h.bi a3 x5.toNatClampNeg) hk0 e7) (mo_X10_sees N t0 h x1 (h.bi a3 x5.toNatClampNeg) e7) (mb_X10_nearest_83 N k10 t0 _ _ _ _ _ _ _ m10 hJ) hz2 hk0 (by decide) rfl (fs := fs13 h t0) rfl rfl ⟨tw_7_226, tw_7_223, tw_7_225, ts_50, tw_1_7⟩ cd_X10_sees ⟨by decide, by decide⟩ hl.1 (by first | exact Nat.le_of_ble_eq_true rfl | simp [rf_cat, cat_i, cat_l, cat_r]) rfl dX10_nearest_80 (fun H locs w1 => ?_)
    have hk8 := kd_keep w (mo_X10_sees N t0 h x1 (h.bi a3 x5.toNatClampNeg) e7) hk0 (by decide)
    have w := w1
    exact sb_X10_nearest_83 C hz2 N k10 t0 m10 i10 _ _ _ _ _ _ _ hJ hk8 w (lv_sub (l' := [(0, .ref t0), (1, .int x1), (2, .int x2), (3, .int x3), (4, .int x4), (5, .int x5)]) hl [1, 2, 3, 4, 5, 6] rfl)
def B_X10_nearest_44 (N : Nat) (k10 : Hp → Int32 → Int32 → Int32 → Int32 → Int32 → Option (Hp × Int32)) (t0 : Nat) (h : Hp) (x1 : Int32) (x2 : Int32) (x3 : Int32) (x4 : Int32) (x5 : Int32) : Option (Hp × Int32) := B_X10_nearest_64 N k10 t0 h x1 x2 x3 x4 x5 (0 : Int32)
theorem mb_X10_nearest_44 (N : Nat) (k10 : Hp → Int32 → Int32 → Int32 → Int32 → Int32 → Option (Hp × Int32)) (t0 : Nat) (h : Hp) (x1 : Int32) (x2 : Int32) (x3 : Int32) (x4 : Int32) (x5 : Int32) (m10 : ∀ (h : Hp) (x1 : Int32) (x2 : Int32) (x3 : Int32) (x4 : Int32) (x5 : Int32), k10 h x1 x2 x3 x4 x5 = some (hz, rz) → Mo h hz) (hJ : B_X10_nearest_44 N k10 t0 h x1 x2 x3 x4 x5 = some (hz, rz)) : Mo h hz := by
  unfold B_X10_nearest_44 at hJ
  exact mb_X10_nearest_64 N k10 t0 _ _ _ _ _ _ _ m10 hJ
set_option maxRecDepth 100000 in
set_option maxHeartbeats 4000000 in
theorem sb_X10_nearest_44 (C : Cx p s m args meth c cX10_nearest 7 (some .int) RX10 D cs A h0.se) (hz2 : hz.nx ≤ h0.nx + mc ∧ hz.su ≤ h0.su + ms) (N : Nat) (k10 : Hp → Int32 → Int32 → Int32 → Int32 → Int32 → Option (Hp × Int32)) (t0 : Nat) (m10 : ∀ (h : Hp) (x1 : Int32) (x2 : Int32) (x3 : Int32) (x4 : Int32) (x5 : Int32), k10 h x1 x2 x3 x4 x5 = some (hz, rz) → Mo h hz) (i10 : ∀ (h : Hp) (x1 : Int32) (x2 : Int32) (x3 : Int32) (x4 : Int32) (x5 : Int32) (H : Heap) (locs : List Loc) (cells slots : Nat) (ls : Array Slot), k10 h x1 x2 x3 x4 x5 = some (hz, rz) → h.kd t0 = 13 → Wo D cs A s h0 h H locs cells slots → lv_has ls 7 [(0, .ref t0), (1, .int x1), (2, .int x2), (3, .int x3), (4, .int x4), (5, .int x5)] → W p l e { frames := 3, cells := mc, slots := ms, locals := 90 } s m args below meth c H locs cells slots (MQ below (Zi D cs A hz rz) args s mc ms A) (F0 m 10 ls [])) (h : Hp) (x1 : Int32) (x2 : Int32) (x3 : Int32) (x4 : Int32) (x5 : Int32) (hJ : B_X10_nearest_44 N k10 t0 h x1 x2 x3 x4 x5 = some (hz, rz)) (hk0 : h.kd t0 = 13) {H : Heap} {locs : List Loc} {cells slots : Nat} (w : Wo D cs A s h0 h H locs cells slots) {ls : Array Slot} (hl : lv_has ls 7 [(0, .ref t0), (1, .int x1), (2, .int x2), (3, .int x3), (4, .int x4), (5, .int x5)]) : W p l e { frames := 3, cells := mc, slots := ms, locals := 90 } s m args below meth c H locs cells slots (MQ below (Zi D cs A hz rz) args s mc ms A) (F0 m 44 ls []) := by
  obtain ⟨hx, hb, hml, hown, hts, -⟩ := id C
  unfold B_X10_nearest_44 at hJ
  refine lv_iconst (v := (0 : Int32)) hx hb dX10_nearest_44 (by decide) ?_
  refine lv_goto (tgt := 64) hx hb dX10_nearest_45 (by decide) ?_
  exact sb_X10_nearest_64 C hz2 N k10 t0 m10 i10 _ _ _ _ _ _ _ hJ hk0 w hl
def B_X10_nearest_10 (N : Nat) (k10 : Hp → Int32 → Int32 → Int32 → Int32 → Int32 → Option (Hp × Int32)) (t0 : Nat) (h : Hp) (x1 : Int32) (x2 : Int32) (x3 : Int32) (x4 : Int32) (x5 : Int32) : Option (Hp × Int32) := if (h.gi 1353 t0) ≤ x5 then (some (h, x4)) else (if x3 = 0 then (dr h 30 (h.gr 1352 t0) (fun a11 => ck (¬ (x5 < 0 ∨ h.al a11 ≤ x5.toNatClampNeg)) (if x2 < (h.bi a11 x5.toNatClampNeg) then (B_X10_nearest_64 N k10 t0 h x1 x2 x3 x4 x5 (0 : Int32)) else (B_X10_nearest_64 N k10 t0 h x1 x2 x3 x4 x5 (1 : Int32))))) else (dr h 30 (h.gr 1352 t0) (fun a14 => ck (¬ (x5 < 0 ∨ h.al a14 ≤ x5.toNatClampNeg)) (if (h.bi a14 x5.toNatClampNeg) < x2 then (B_X10_nearest_44 N k10 t0 h x1 x2 x3 x4 x5) else (if x4 = (-1 : Int32) then (B_X10_nearest_64 N k10 t0 h x1 x2 x3 x4 x5 (1 : Int32)) else (B_X10_nearest_44 N k10 t0 h x1 x2 x3 x4 x5))))))
theorem mb_X10_nearest_10 (N : Nat) (k10 : Hp → Int32 → Int32 → Int32 → Int32 → Int32 → Option (Hp × Int32)) (t0 : Nat) (h : Hp) (x1 : Int32) (x2 : Int32) (x3 : Int32) (x4 : Int32) (x5 : Int32) (m10 : ∀ (h : Hp) (x1 : Int32) (x2 : Int32) (x3 : Int32) (x4 : Int32) (x5 : Int32), k10 h x1 x2 x3 x4 x5 = some (hz, rz) → Mo h hz) (hJ : B_X10_nearest_10 N k10 t0 h x1 x2 x3 x4 x5 = some (hz, rz)) : Mo h hz := by
  unfold B_X10_nearest_10 at hJ
  by_cases c9 : (h.gi 1353 t0) ≤ x5
  · have hJ := it_pos c9 hJ
    obtain ⟨rfl, -⟩ := rs2 hJ
    exact ⟨fun _ _ => rfl, Nat.le_refl _, Nat.le_refl _, rfl, fun _ _ => rfl⟩
  · have hJ := it_neg c9 hJ
    by_cases c10 : x3 = 0
    · have hJ := it_pos c10 hJ
      obtain ⟨a11, ea11, -, hJ⟩ := dr_some hJ
      obtain ⟨-, hJ⟩ := ck_some hJ
      by_cases c13 : x2 < (h.bi a11 x5.toNatClampNeg)
      · have hJ := it_pos c13 hJ
        exact mb_X10_nearest_64 N k10 t0 _ _ _ _ _ _ _ m10 hJ
      · have hJ := it_neg c13 hJ
        exact mb_X10_nearest_64 N k10 t0 _ _ _ _ _ _ _ m10 hJ
    · have hJ := it_neg c10 hJ
      obtain ⟨a14, ea14, -, hJ⟩ := dr_some hJ
      obtain ⟨-, hJ⟩ := ck_some hJ
      by_cases c16 : (h.bi a14 x5.toNatClampNeg) < x2
      · have hJ := it_pos c16 hJ
        exact mb_X10_nearest_44 N k10 t0 _ _ _ _ _ _ m10 hJ
      · have hJ := it_neg c16 hJ
        by_cases c17 : x4 = (-1 : Int32)
        · have hJ := it_pos c17 hJ
          exact mb_X10_nearest_64 N k10 t0 _ _ _ _ _ _ _ m10 hJ
        · have hJ := it_neg c17 hJ
          exact mb_X10_nearest_44 N k10 t0 _ _ _ _ _ _ m10 hJ
set_option maxRecDepth 100000 in
set_option maxHeartbeats 4000000 in
theorem sb_X10_nearest_10 (C : Cx p s m args meth c cX10_nearest 7 (some .int) RX10 D cs A h0.se) (hz2 : hz.nx ≤ h0.nx + mc ∧ hz.su ≤ h0.su + ms) (N : Nat) (k10 : Hp → Int32 → Int32 → Int32 → Int32 → Int32 → Option (Hp × Int32)) (t0 : Nat) (m10 : ∀ (h : Hp) (x1 : Int32) (x2 : Int32) (x3 : Int32) (x4 : Int32) (x5 : Int32), k10 h x1 x2 x3 x4 x5 = some (hz, rz) → Mo h hz) (i10 : ∀ (h : Hp) (x1 : Int32) (x2 : Int32) (x3 : Int32) (x4 : Int32) (x5 : Int32) (H : Heap) (locs : List Loc) (cells slots : Nat) (ls : Array Slot), k10 h x1 x2 x3 x4 x5 = some (hz, rz) → h.kd t0 = 13 → Wo D cs A s h0 h H locs cells slots → lv_has ls 7 [(0, .ref t0), (1, .int x1), (2, .int x2), (3, .int x3), (4, .int x4), (5, .int x5)] → W p l e { frames := 3, cells := mc, slots := ms, locals := 90 } s m args below meth c H locs cells slots (MQ below (Zi D cs A hz rz) args s mc ms A) (F0 m 10 ls [])) (h : Hp) (x1 : Int32) (x2 : Int32) (x3 : Int32) (x4 : Int32) (x5 : Int32) (hJ : B_X10_nearest_10 N k10 t0 h x1 x2 x3 x4 x5 = some (hz, rz)) (hk0 : h.kd t0 = 13) {H : Heap} {locs : List Loc} {cells slots : Nat} (w : Wo D cs A s h0 h H locs cells slots) {ls : Array Slot} (hl : lv_has ls 7 [(0, .ref t0), (1, .int x1), (2, .int x2), (3, .int x3), (4, .int x4), (5, .int x5)]) : W p l e { frames := 3, cells := mc, slots := ms, locals := 90 } s m args below meth c H locs cells slots (MQ below (Zi D cs A hz rz) args s mc ms A) (F0 m 10 ls []) := by
  obtain ⟨hx, hb, hml, hown, hts, -⟩ := id C
  unfold B_X10_nearest_10 at hJ
  refine lv_iload hx hb dX10_nearest_10 (lv_at hl 5 rfl) ?_
  refine lv_aload_n hx hb dX10_nearest_12 rfl (lv_at hl 0 rfl) ?_
  refine fg_1353 C w hk0 tw_6_216 dX10_nearest_13 ?_
  refine lv_icmp_ge (tgt := 96) hx hb dX10_nearest_16 (by decide) (fun c9 => ?_) (fun c9 => ?_)
  · have hJ := it_pos c9 hJ
    refine lv_iload hx hb dX10_nearest_96 (lv_at hl 4 rfl) ?_
    obtain ⟨rfl, rfl⟩ := rs2 hJ
    exact jr_iret C w hz2 dX10_nearest_98
  · have hJ := it_neg c9 hJ
    refine lv_iload_n hx hb dX10_nearest_19 rfl (lv_at hl 3 rfl) ?_
    refine lv_if_eq (tgt := 48) hx hb dX10_nearest_20 (by decide) (fun c10 => ?_) (fun c10 => ?_)
    · have hJ := it_pos c10 hJ
      refine lv_aload_n hx hb dX10_nearest_48 rfl (lv_at hl 0 rfl) ?_
      refine fg_1352 C w hk0 tw_6_215 dX10_nearest_49 ?_
      refine lv_iload hx hb dX10_nearest_52 (lv_at hl 5 rfl) ?_
      obtain ⟨a11, ea11, hka11, hJ⟩ := dr_some hJ
      rw [ea11]
      obtain ⟨hi12, hJ⟩ := ck_some hJ
      refine jr_ialdM C w hka11 hi12 dX10_nearest_54 ?_
      refine lv_iload_n hx hb dX10_nearest_55 rfl (lv_at hl 2 rfl) ?_
      refine lv_icmp_gt (tgt := 63) hx hb dX10_nearest_56 (by decide) (fun c13 => ?_) (fun c13 => ?_)
      · have hJ := it_pos c13 hJ
        refine lv_iconst (v := (0 : Int32)) hx hb dX10_nearest_63 (by decide) ?_
        exact sb_X10_nearest_64 C hz2 N k10 t0 m10 i10 _ _ _ _ _ _ _ hJ hk0 w hl
      · have hJ := it_neg c13 hJ
        refine lv_iconst (v := (1 : Int32)) hx hb dX10_nearest_59 (by decide) ?_
        refine lv_goto (tgt := 64) hx hb dX10_nearest_60 (by decide) ?_
        exact sb_X10_nearest_64 C hz2 N k10 t0 m10 i10 _ _ _ _ _ _ _ hJ hk0 w hl
    · have hJ := it_neg c10 hJ
      refine lv_aload_n hx hb dX10_nearest_23 rfl (lv_at hl 0 rfl) ?_
      refine fg_1352 C w hk0 tw_6_215 dX10_nearest_24 ?_
      refine lv_iload hx hb dX10_nearest_27 (lv_at hl 5 rfl) ?_
      obtain ⟨a14, ea14, hka14, hJ⟩ := dr_some hJ
      rw [ea14]
      obtain ⟨hi15, hJ⟩ := ck_some hJ
      refine jr_ialdM C w hka14 hi15 dX10_nearest_29 ?_
      refine lv_iload_n hx hb dX10_nearest_30 rfl (lv_at hl 2 rfl) ?_
      refine lv_icmp_lt (tgt := 44) hx hb dX10_nearest_31 (by decide) (fun c16 => ?_) (fun c16 => ?_)
      · have hJ := it_pos c16 hJ
        exact sb_X10_nearest_44 C hz2 N k10 t0 m10 i10 _ _ _ _ _ _ hJ hk0 w hl
      · have hJ := it_neg c16 hJ
        refine lv_iload hx hb dX10_nearest_34 (lv_at hl 4 rfl) ?_
        refine lv_iconst (v := (-1 : Int32)) hx hb dX10_nearest_36 (by decide) ?_
        refine lv_icmp_ne (tgt := 44) hx hb dX10_nearest_37 (by decide) (fun c17 => ?_) (fun c17 => ?_)
        · have hJ := it_neg c17 hJ
          exact sb_X10_nearest_44 C hz2 N k10 t0 m10 i10 _ _ _ _ _ _ hJ hk0 w hl
        · have hJ := it_pos c17 hJ
          refine lv_iconst (v := (1 : Int32)) hx hb dX10_nearest_40 (by decide) ?_
          refine lv_goto (tgt := 64) hx hb dX10_nearest_41 (by decide) ?_
          exact sb_X10_nearest_64 C hz2 N k10 t0 m10 i10 _ _ _ _ _ _ _ hJ hk0 w hl
def L_X10_nearest_10 (N : Nat) (t0 : Nat) : Nat → Hp → Int32 → Int32 → Int32 → Int32 → Int32 → Option (Hp × Int32)
  | 0 => fun _ _ _ _ _ _ => none
  | n + 1 => fun h x1 x2 x3 x4 x5 => B_X10_nearest_10 N (L_X10_nearest_10 N t0 n) t0 h x1 x2 x3 x4 x5
theorem ml_X10_nearest_10 (N : Nat) (t0 : Nat) : ∀ (n : Nat) (h : Hp) (x1 : Int32) (x2 : Int32) (x3 : Int32) (x4 : Int32) (x5 : Int32), L_X10_nearest_10 N t0 n h x1 x2 x3 x4 x5 = some (hz, rz) → Mo h hz := by
  intro n
  induction n with
  | zero => intro h x1 x2 x3 x4 x5 hJ; cases hJ
  | succ n ih => intro h x1 x2 x3 x4 x5 hJ; exact mb_X10_nearest_10 N (L_X10_nearest_10 N t0 n) t0 h x1 x2 x3 x4 x5 ih hJ
theorem sl_X10_nearest_10 (C : Cx p s m args meth c cX10_nearest 7 (some .int) RX10 D cs A h0.se) (hz2 : hz.nx ≤ h0.nx + mc ∧ hz.su ≤ h0.su + ms) (N : Nat) (t0 : Nat) : ∀ n : Nat, ∀ (h : Hp) (x1 : Int32) (x2 : Int32) (x3 : Int32) (x4 : Int32) (x5 : Int32) (H : Heap) (locs : List Loc) (cells slots : Nat) (ls : Array Slot), L_X10_nearest_10 N t0 n h x1 x2 x3 x4 x5 = some (hz, rz) → h.kd t0 = 13 → Wo D cs A s h0 h H locs cells slots → lv_has ls 7 [(0, .ref t0), (1, .int x1), (2, .int x2), (3, .int x3), (4, .int x4), (5, .int x5)] → W p l e { frames := 3, cells := mc, slots := ms, locals := 90 } s m args below meth c H locs cells slots (MQ below (Zi D cs A hz rz) args s mc ms A) (F0 m 10 ls []) := by
  intro n
  induction n with
  | zero => intro h x1 x2 x3 x4 x5 H locs cells slots ls hJ; cases hJ
  | succ n ih =>
    intro h x1 x2 x3 x4 x5 H locs cells slots ls hJ hk0 w hl
    exact sb_X10_nearest_10 C hz2 N (L_X10_nearest_10 N t0 n) t0 (ml_X10_nearest_10 N t0 n) ih h x1 x2 x3 x4 x5 hJ hk0 w hl
def B_X10_nearest_4 (N : Nat) (t0 : Nat) (h : Hp) (x1 : Int32) (x2 : Int32) (x3 : Int32) : Option (Hp × Int32) := L_X10_nearest_10 N t0 N h x1 x2 x3 (-1 : Int32) (0 : Int32)
theorem mb_X10_nearest_4 (N : Nat) (t0 : Nat) (h : Hp) (x1 : Int32) (x2 : Int32) (x3 : Int32) (hJ : B_X10_nearest_4 N t0 h x1 x2 x3 = some (hz, rz)) : Mo h hz := by
  unfold B_X10_nearest_4 at hJ
  exact ml_X10_nearest_10 N t0 N _ _ _ _ _ _ hJ
set_option maxRecDepth 100000 in
set_option maxHeartbeats 4000000 in
theorem sb_X10_nearest_4 (C : Cx p s m args meth c cX10_nearest 7 (some .int) RX10 D cs A h0.se) (hz2 : hz.nx ≤ h0.nx + mc ∧ hz.su ≤ h0.su + ms) (N : Nat) (t0 : Nat) (h : Hp) (x1 : Int32) (x2 : Int32) (x3 : Int32) (hJ : B_X10_nearest_4 N t0 h x1 x2 x3 = some (hz, rz)) (hk0 : h.kd t0 = 13) {H : Heap} {locs : List Loc} {cells slots : Nat} (w : Wo D cs A s h0 h H locs cells slots) {ls : Array Slot} (hl : lv_has ls 7 [(0, .ref t0), (1, .int x1), (2, .int x2), (3, .int x3)]) : W p l e { frames := 3, cells := mc, slots := ms, locals := 90 } s m args below meth c H locs cells slots (MQ below (Zi D cs A hz rz) args s mc ms A) (F0 m 4 ls []) := by
  obtain ⟨hx, hb, hml, hown, hts, -⟩ := id C
  unfold B_X10_nearest_4 at hJ
  refine lv_iconst (v := (-1 : Int32)) hx hb dX10_nearest_4 (by decide) ?_
  refine lv_istore (i := 4) (lv' := [(4, .int (-1 : Int32)), (0, .ref t0), (1, .int x1), (2, .int x2), (3, .int x3)]) hx hb dX10_nearest_5 hl (by decide) rfl (fun ls hl => ?_)
  refine lv_iconst (v := (0 : Int32)) hx hb dX10_nearest_7 (by decide) ?_
  refine lv_istore (i := 5) (lv' := [(5, .int (0 : Int32)), (4, .int (-1 : Int32)), (0, .ref t0), (1, .int x1), (2, .int x2), (3, .int x3)]) hx hb dX10_nearest_8 hl (by decide) rfl (fun ls hl => ?_)
  exact sl_X10_nearest_10 C hz2 N t0 N _ _ _ _ _ _ _ _ _ _ _ hJ hk0 w (lv_sub (l' := [(0, .ref t0), (1, .int x1), (2, .int x2), (3, .int x3), (4, .int (-1 : Int32)), (5, .int (0 : Int32))]) hl [2, 3, 4, 5, 1, 0] rfl)
def B_X10_nearest_0 (N : Nat) (t0 : Nat) (h : Hp) (x1 : Int32) (x2 : Int32) (x3 : Int32) : Option (Hp × Int32) := (J_X10_gatherKeys N t0 h).bind (fun z => B_X10_nearest_4 N t0 z.1 x1 x2 x3)
theorem mb_X10_nearest_0 (N : Nat) (t0 : Nat) (h : Hp) (x1 : Int32) (x2 : Int32) (x3 : Int32) (hJ : B_X10_nearest_0 N t0 h x1 x2 x3 = some (hz, rz)) : Mo h hz := by
  unfold B_X10_nearest_0 at hJ
  obtain ⟨⟨h18, r19⟩, e20, hJ⟩ := ob_some hJ
  exact (mo_X10_gatherKeys N t0 h e20).tr (mb_X10_nearest_4 N t0 _ _ _ _ hJ)
set_option maxRecDepth 100000 in
set_option maxHeartbeats 4000000 in
theorem sb_X10_nearest_0 (C : Cx p s m args meth c cX10_nearest 7 (some .int) RX10 D cs A h0.se) (hz2 : hz.nx ≤ h0.nx + mc ∧ hz.su ≤ h0.su + ms) (N : Nat) (t0 : Nat) (h : Hp) (x1 : Int32) (x2 : Int32) (x3 : Int32) (hJ : B_X10_nearest_0 N t0 h x1 x2 x3 = some (hz, rz)) (hk0 : h.kd t0 = 13) {H : Heap} {locs : List Loc} {cells slots : Nat} (w : Wo D cs A s h0 h H locs cells slots) {ls : Array Slot} (hl : lv_has ls 7 [(0, .ref t0), (1, .int x1), (2, .int x2), (3, .int x3)]) : W p l e { frames := 3, cells := mc, slots := ms, locals := 90 } s m args below meth c H locs cells slots (MQ below (Zi D cs A hz rz) args s mc ms A) (F0 m 0 ls []) := by
  obtain ⟨hx, hb, hml, hown, hts, -⟩ := id C
  unfold B_X10_nearest_0 at hJ
  refine lv_aload_n hx hb dX10_nearest_0 rfl (lv_at hl 0 rfl) ?_
  obtain ⟨⟨h18, r19⟩, e20, hJ⟩ := ob_some hJ
  refine jc_Vv (As := []) C w (cc_X10_gatherKeys N t0 h hk0 e20) (mo_X10_gatherKeys N t0 h e20) (mb_X10_nearest_4 N t0 _ _ _ _ hJ) hz2 hk0 (by decide) rfl (fs := fs13 h t0) rfl rfl ⟨tw_7_194, tw_7_191, tw_7_193, ts_44, tw_1_7⟩ cd_X10_gatherKeys ⟨by decide, by decide⟩ hl.1 (by first | exact Nat.le_of_ble_eq_true rfl | simp [rf_cat, cat_i, cat_l, cat_r]) rfl dX10_nearest_1 (fun H locs w1 => ?_)
  have hk21 := kd_keep w (mo_X10_gatherKeys N t0 h e20) hk0 (by decide)
  have w := w1
  exact sb_X10_nearest_4 C hz2 N t0 _ _ _ _ hJ hk21 w hl
def J_X10_nearest (N : Nat) (t0 : Nat) (h : Hp) (x1 : Int32) (x2 : Int32) (x3 : Int32) : Option (Hp × Int32) := B_X10_nearest_0 N t0 h x1 x2 x3
theorem mo_X10_nearest (N : Nat) (t0 : Nat) (h : Hp) (x1 : Int32) (x2 : Int32) (x3 : Int32) (hJ : J_X10_nearest N t0 h x1 x2 x3 = some (hz, rz)) : Mo h hz := mb_X10_nearest_0 N t0 h x1 x2 x3 hJ
theorem cd_X10_nearest : Cd yX10_nearest 3 := ⟨by decide +kernel, by decide +kernel, by decide +kernel⟩
theorem cc_X10_nearest (N : Nat) (t0 : Nat) (h : Hp) (x1 : Int32) (x2 : Int32) (x3 : Int32) (hk0 : h.kd t0 = 13) (hJ : J_X10_nearest N t0 h x1 x2 x3 = some (hz, rz)) : Ci l yX10_nearest cX10_nearest 7 (some .int) 3 90 D cs h hz [.ref t0, .int x1, .int x2, .int x3] rz := by
  intro mc ms g1 g2
  refine je_any (by decide) (by simp [lg_sl, rf_cat, cat_i, cat_l, cat_r]) ?_
  intro p e s m args below meth c C hin2 w ls hl
  have hl : lv_has ls 7 [(0, .ref t0), (1, .int x1), (2, .int x2), (3, .int x3)] := hl
  exact sb_X10_nearest_0 C ⟨g1, g2⟩ N t0 h x1 x2 x3 hJ hk0 w hl
end G_X10_nearest
section G_X10_near
variable {p : Program} {l : Launch} {e : Env} {s : State} {m : MethodId} {args : Array Value} {below : List Frame} {meth : Method} {c : Code} {D : va_G} {cs : C4} {A : Nat → Prop} {h0 hz : Hp} {mc ms : Nat} {rz : Int32}
def B_X10_near_133 (N : Nat) (t0 : Nat) (h : Hp) (x6 : Int32) : Option (Hp × Int32) := dr h 30 (h.gr 1335 t0) (fun a1 => ck (¬ (x6 < 0 ∨ h.al a1 ≤ x6.toNatClampNeg)) (some (h, h.bi a1 x6.toNatClampNeg)))
theorem mb_X10_near_133 (N : Nat) (t0 : Nat) (h : Hp) (x6 : Int32) (hJ : B_X10_near_133 N t0 h x6 = some (hz, rz)) : Mo h hz := by
  unfold B_X10_near_133 at hJ
  obtain ⟨a1, ea1, -, hJ⟩ := dr_some hJ
  obtain ⟨-, hJ⟩ := ck_some hJ
  obtain ⟨rfl, -⟩ := rs2 hJ
  exact ⟨fun _ _ => rfl, Nat.le_refl _, Nat.le_refl _, rfl, fun _ _ => rfl⟩
set_option maxRecDepth 100000 in
set_option maxHeartbeats 4000000 in
theorem sb_X10_near_133 (C : Cx p s m args meth c cX10_near 8 (some .int) RX10 D cs A h0.se) (hz2 : hz.nx ≤ h0.nx + mc ∧ hz.su ≤ h0.su + ms) (N : Nat) (t0 : Nat) (h : Hp) (x6 : Int32) (hJ : B_X10_near_133 N t0 h x6 = some (hz, rz)) (hk0 : h.kd t0 = 13) {H : Heap} {locs : List Loc} {cells slots : Nat} (w : Wo D cs A s h0 h H locs cells slots) {ls : Array Slot} (hl : lv_has ls 8 [(0, .ref t0), (6, .int x6)]) : W p l e { frames := 7, cells := mc, slots := ms, locals := 210 } s m args below meth c H locs cells slots (MQ below (Zi D cs A hz rz) args s mc ms A) (F0 m 133 ls []) := by
  obtain ⟨hx, hb, hml, hown, hts, -⟩ := id C
  unfold B_X10_near_133 at hJ
  refine lv_aload_n hx hb dX10_near_133 rfl (lv_at hl 0 rfl) ?_
  refine fg_1335 C w hk0 tw_6_198 dX10_near_134 ?_
  refine lv_iload hx hb dX10_near_137 (lv_at hl 1 rfl) ?_
  obtain ⟨a1, ea1, hka1, hJ⟩ := dr_some hJ
  rw [ea1]
  obtain ⟨hi2, hJ⟩ := ck_some hJ
  refine jr_ialdM C w hka1 hi2 dX10_near_139 ?_
  obtain ⟨rfl, rfl⟩ := rs2 hJ
  exact jr_iret C w hz2 dX10_near_140
def B_X10_near_119 (N : Nat) (t0 : Nat) (h : Hp) (x5 : Int32) (x6 : Int32) (y0 : Int32) : Option (Hp × Int32) := (J_X10_found N t0 h x6 x5 (h.gl 1351 t0)).bind (fun z => B_X10_near_133 N t0 z.1 x6)
theorem mb_X10_near_119 (N : Nat) (t0 : Nat) (h : Hp) (x5 : Int32) (x6 : Int32) (y0 : Int32) (hJ : B_X10_near_119 N t0 h x5 x6 y0 = some (hz, rz)) : Mo h hz := by
  unfold B_X10_near_119 at hJ
  obtain ⟨⟨h3, r4⟩, e5, hJ⟩ := ob_some hJ
  exact (mo_X10_found N t0 h x6 x5 (h.gl 1351 t0) e5).tr (mb_X10_near_133 N t0 _ _ hJ)
set_option maxRecDepth 100000 in
set_option maxHeartbeats 4000000 in
theorem sb_X10_near_119 (C : Cx p s m args meth c cX10_near 8 (some .int) RX10 D cs A h0.se) (hz2 : hz.nx ≤ h0.nx + mc ∧ hz.su ≤ h0.su + ms) (N : Nat) (t0 : Nat) (h : Hp) (x5 : Int32) (x6 : Int32) (y0 : Int32) (hJ : B_X10_near_119 N t0 h x5 x6 y0 = some (hz, rz)) (hk0 : h.kd t0 = 13) {H : Heap} {locs : List Loc} {cells slots : Nat} (w : Wo D cs A s h0 h H locs cells slots) {ls : Array Slot} (hl : lv_has ls 8 [(0, .ref t0), (5, .int x5), (6, .int x6)]) : W p l e { frames := 7, cells := mc, slots := ms, locals := 210 } s m args below meth c H locs cells slots (MQ below (Zi D cs A hz rz) args s mc ms A) (F0 m 119 ls [.int y0]) := by
  obtain ⟨hx, hb, hml, hown, hts, -⟩ := id C
  unfold B_X10_near_119 at hJ
  refine lv_istore (i := 7) (lv' := [(7, .int y0), (0, .ref t0), (5, .int x5), (6, .int x6)]) hx hb dX10_near_119 hl (by decide) rfl (fun ls hl => ?_)
  refine lv_aload_n hx hb dX10_near_121 rfl (lv_at hl 1 rfl) ?_
  refine lv_iload hx hb dX10_near_122 (lv_at hl 3 rfl) ?_
  refine lv_iload hx hb dX10_near_124 (lv_at hl 2 rfl) ?_
  refine lv_aload_n hx hb dX10_near_126 rfl (lv_at hl 1 rfl) ?_
  refine fg_1351 C w hk0 tw_6_214 dX10_near_127 ?_
  obtain ⟨⟨h3, r4⟩, e5, hJ⟩ := ob_some hJ
  refine jc_Vv (As := [.int x6, .int x5, .long (h.gl 1351 t0)]) C w (cc_X10_found N t0 h x6 x5 (h.gl 1351 t0) hk0 e5) (mo_X10_found N t0 h x6 x5 (h.gl 1351 t0) e5) (mb_X10_near_133 N t0 _ _ hJ) hz2 hk0 (by decide) rfl (fs := fs13 h t0) rfl rfl ⟨tw_7_234, tw_7_231, tw_7_233, ts_52, tw_1_7⟩ cd_X10_found ⟨by decide, by decide⟩ hl.1 (by first | exact Nat.le_of_ble_eq_true rfl | simp [rf_cat, cat_i, cat_l, cat_r]) rfl dX10_near_130 (fun H locs w1 => ?_)
  have hk6 := kd_keep w (mo_X10_found N t0 h x6 x5 (h.gl 1351 t0) e5) hk0 (by decide)
  have w := w1
  exact sb_X10_near_133 C hz2 N t0 _ _ hJ hk6 w (lv_sub (l' := [(0, .ref t0), (6, .int x6)]) hl [1, 3] rfl)
def B_X10_near_104 (N : Nat) (t0 : Nat) (h : Hp) (x1 : Int32) (x4 : Int32) (x5 : Int32) (y0 : Int32) : Option (Hp × Int32) := if x4 = (-1 : Int32) then (B_X10_near_133 N t0 h y0) else ((J_X10_sees N t0 h x1 x5).bind (fun z => B_X10_near_119 N t0 z.1 x5 y0 z.2))
theorem mb_X10_near_104 (N : Nat) (t0 : Nat) (h : Hp) (x1 : Int32) (x4 : Int32) (x5 : Int32) (y0 : Int32) (hJ : B_X10_near_104 N t0 h x1 x4 x5 y0 = some (hz, rz)) : Mo h hz := by
  unfold B_X10_near_104 at hJ
  by_cases c7 : x4 = (-1 : Int32)
  · have hJ := it_pos c7 hJ
    exact mb_X10_near_133 N t0 _ _ hJ
  · have hJ := it_neg c7 hJ
    obtain ⟨⟨h8, r9⟩, e10, hJ⟩ := ob_some hJ
    exact (mo_X10_sees N t0 h x1 x5 e10).tr (mb_X10_near_119 N t0 _ _ _ _ hJ)
set_option maxRecDepth 100000 in
set_option maxHeartbeats 4000000 in
theorem sb_X10_near_104 (C : Cx p s m args meth c cX10_near 8 (some .int) RX10 D cs A h0.se) (hz2 : hz.nx ≤ h0.nx + mc ∧ hz.su ≤ h0.su + ms) (N : Nat) (t0 : Nat) (h : Hp) (x1 : Int32) (x4 : Int32) (x5 : Int32) (y0 : Int32) (hJ : B_X10_near_104 N t0 h x1 x4 x5 y0 = some (hz, rz)) (hk0 : h.kd t0 = 13) {H : Heap} {locs : List Loc} {cells slots : Nat} (w : Wo D cs A s h0 h H locs cells slots) {ls : Array Slot} (hl : lv_has ls 8 [(0, .ref t0), (1, .int x1), (4, .int x4), (5, .int x5)]) : W p l e { frames := 7, cells := mc, slots := ms, locals := 210 } s m args below meth c H locs cells slots (MQ below (Zi D cs A hz rz) args s mc ms A) (F0 m 104 ls [.int y0]) := by
  obtain ⟨hx, hb, hml, hown, hts, -⟩ := id C
  unfold B_X10_near_104 at hJ
  refine lv_istore (i := 6) (lv' := [(6, .int y0), (0, .ref t0), (1, .int x1), (4, .int x4), (5, .int x5)]) hx hb dX10_near_104 hl (by decide) rfl (fun ls hl => ?_)
  refine lv_iload hx hb dX10_near_106 (lv_at hl 3 rfl) ?_
  refine lv_iconst (v := (-1 : Int32)) hx hb dX10_near_108 (by decide) ?_
  refine lv_icmp_eq (tgt := 133) hx hb dX10_near_109 (by decide) (fun c7 => ?_) (fun c7 => ?_)
  · have hJ := it_pos c7 hJ
    exact sb_X10_near_133 C hz2 N t0 _ _ hJ hk0 w (lv_sub (l' := [(0, .ref t0), (6, .int y0)]) hl [1, 0] rfl)
  · have hJ := it_neg c7 hJ
    refine lv_aload_n hx hb dX10_near_112 rfl (lv_at hl 1 rfl) ?_
    refine lv_iload_n hx hb dX10_near_113 rfl (lv_at hl 2 rfl) ?_
    refine lv_iload hx hb dX10_near_114 (lv_at hl 4 rfl) ?_
    obtain ⟨⟨h8, r9⟩, e10, hJ⟩ := ob_some hJ
    refine jc_Vi (As := [.int x1, .int x5]) C w (cc_X10_sees N t0 h x1 x5 hk0 e10) (mo_X10_sees N t0 h x1 x5 e10) (mb_X10_near_119 N t0 _ _ _ _ hJ) hz2 hk0 (by decide) rfl (fs := fs13 h t0) rfl rfl ⟨tw_7_226, tw_7_223, tw_7_225, ts_50, tw_1_7⟩ cd_X10_sees ⟨by decide, by decide⟩ hl.1 (by first | exact Nat.le_of_ble_eq_true rfl | simp [rf_cat, cat_i, cat_l, cat_r]) rfl dX10_near_116 (fun H locs w1 => ?_)
    have hk11 := kd_keep w (mo_X10_sees N t0 h x1 x5 e10) hk0 (by decide)
    have w := w1
    exact sb_X10_near_119 C hz2 N t0 _ _ _ _ hJ hk11 w (lv_sub (l' := [(0, .ref t0), (5, .int x5), (6, .int y0)]) hl [1, 4, 0] rfl)
def B_X10_near_99 (N : Nat) (t0 : Nat) (h : Hp) (x1 : Int32) (x2 : Int32) (x4 : Int32) (x5 : Int32) (y0 : Option Nat) (y1 : Int32) : Option (Hp × Int32) := dr h 13 y0 (fun a12 => (J_X10_log N a12 h y1 x1 x2).bind (fun z => B_X10_near_104 N t0 z.1 x1 x4 x5 z.2))
theorem mb_X10_near_99 (N : Nat) (t0 : Nat) (h : Hp) (x1 : Int32) (x2 : Int32) (x4 : Int32) (x5 : Int32) (y0 : Option Nat) (y1 : Int32) (hJ : B_X10_near_99 N t0 h x1 x2 x4 x5 y0 y1 = some (hz, rz)) : Mo h hz := by
  unfold B_X10_near_99 at hJ
  obtain ⟨a12, ea12, -, hJ⟩ := dr_some hJ
  obtain ⟨⟨h13, r14⟩, e15, hJ⟩ := ob_some hJ
  exact (mo_X10_log N a12 h y1 x1 x2 e15).tr (mb_X10_near_104 N t0 _ _ _ _ _ hJ)
set_option maxRecDepth 100000 in
set_option maxHeartbeats 4000000 in
theorem sb_X10_near_99 (C : Cx p s m args meth c cX10_near 8 (some .int) RX10 D cs A h0.se) (hz2 : hz.nx ≤ h0.nx + mc ∧ hz.su ≤ h0.su + ms) (N : Nat) (t0 : Nat) (h : Hp) (x1 : Int32) (x2 : Int32) (x4 : Int32) (x5 : Int32) (y0 : Option Nat) (y1 : Int32) (hJ : B_X10_near_99 N t0 h x1 x2 x4 x5 y0 y1 = some (hz, rz)) (hk0 : h.kd t0 = 13) {H : Heap} {locs : List Loc} {cells slots : Nat} (w : Wo D cs A s h0 h H locs cells slots) {ls : Array Slot} (hl : lv_has ls 8 [(0, .ref t0), (1, .int x1), (2, .int x2), (4, .int x4), (5, .int x5)]) : W p l e { frames := 7, cells := mc, slots := ms, locals := 210 } s m args below meth c H locs cells slots (MQ below (Zi D cs A hz rz) args s mc ms A) (F0 m 99 ls [.int y1, va_rf y0]) := by
  obtain ⟨hx, hb, hml, hown, hts, -⟩ := id C
  unfold B_X10_near_99 at hJ
  refine lv_iload_n hx hb dX10_near_99 rfl (lv_at hl 1 rfl) ?_
  refine lv_iload_n hx hb dX10_near_100 rfl (lv_at hl 2 rfl) ?_
  obtain ⟨a12, ea12, hka12, hJ⟩ := dr_some hJ
  rw [ea12]
  obtain ⟨⟨h13, r14⟩, e15, hJ⟩ := ob_some hJ
  refine jc_Vi (As := [.int y1, .int x1, .int x2]) C w (cc_X10_log N a12 h y1 x1 x2 hka12 e15) (mo_X10_log N a12 h y1 x1 x2 e15) (mb_X10_near_104 N t0 _ _ _ _ _ hJ) hz2 hka12 (by decide) rfl (fs := fs13 h a12) rfl rfl ⟨tw_7_222, tw_7_219, tw_7_221, ts_49, tw_1_7⟩ cd_X10_log ⟨by decide, by decide⟩ hl.1 (by first | exact Nat.le_of_ble_eq_true rfl | simp [rf_cat, cat_i, cat_l, cat_r]) rfl dX10_near_101 (fun H locs w1 => ?_)
  have hk16 := kd_keep w (mo_X10_log N a12 h y1 x1 x2 e15) hk0 (by decide)
  have w := w1
  exact sb_X10_near_104 C hz2 N t0 _ _ _ _ _ hJ hk16 w (lv_sub (l' := [(0, .ref t0), (1, .int x1), (4, .int x4), (5, .int x5)]) hl [0, 1, 3, 4] rfl)
def B_X10_near_84 (N : Nat) (t0 : Nat) (h : Hp) (x1 : Int32) (x2 : Int32) (x3 : Int32) (x4 : Int32) (x5 : Int32) (y0 : Int32) : Option (Hp × Int32) := if y0 = 0 then (some (h, (-1 : Int32))) else (if x3 = 0 then (B_X10_near_99 N t0 h x1 x2 x4 x5 (some t0) (3 : Int32)) else (B_X10_near_99 N t0 h x1 x2 x4 x5 (some t0) (2 : Int32)))
theorem mb_X10_near_84 (N : Nat) (t0 : Nat) (h : Hp) (x1 : Int32) (x2 : Int32) (x3 : Int32) (x4 : Int32) (x5 : Int32) (y0 : Int32) (hJ : B_X10_near_84 N t0 h x1 x2 x3 x4 x5 y0 = some (hz, rz)) : Mo h hz := by
  unfold B_X10_near_84 at hJ
  by_cases c17 : y0 = 0
  · have hJ := it_pos c17 hJ
    obtain ⟨rfl, -⟩ := rs2 hJ
    exact ⟨fun _ _ => rfl, Nat.le_refl _, Nat.le_refl _, rfl, fun _ _ => rfl⟩
  · have hJ := it_neg c17 hJ
    by_cases c18 : x3 = 0
    · have hJ := it_pos c18 hJ
      exact mb_X10_near_99 N t0 _ _ _ _ _ _ _ hJ
    · have hJ := it_neg c18 hJ
      exact mb_X10_near_99 N t0 _ _ _ _ _ _ _ hJ
set_option maxRecDepth 100000 in
set_option maxHeartbeats 4000000 in
theorem sb_X10_near_84 (C : Cx p s m args meth c cX10_near 8 (some .int) RX10 D cs A h0.se) (hz2 : hz.nx ≤ h0.nx + mc ∧ hz.su ≤ h0.su + ms) (N : Nat) (t0 : Nat) (h : Hp) (x1 : Int32) (x2 : Int32) (x3 : Int32) (x4 : Int32) (x5 : Int32) (y0 : Int32) (hJ : B_X10_near_84 N t0 h x1 x2 x3 x4 x5 y0 = some (hz, rz)) (hk0 : h.kd t0 = 13) {H : Heap} {locs : List Loc} {cells slots : Nat} (w : Wo D cs A s h0 h H locs cells slots) {ls : Array Slot} (hl : lv_has ls 8 [(0, .ref t0), (1, .int x1), (2, .int x2), (3, .int x3), (4, .int x4), (5, .int x5)]) : W p l e { frames := 7, cells := mc, slots := ms, locals := 210 } s m args below meth c H locs cells slots (MQ below (Zi D cs A hz rz) args s mc ms A) (F0 m 84 ls [.int y0]) := by
  obtain ⟨hx, hb, hml, hown, hts, -⟩ := id C
  unfold B_X10_near_84 at hJ
  refine lv_if_ne (tgt := 89) hx hb dX10_near_84 (by decide) (fun c17 => ?_) (fun c17 => ?_)
  · have hJ := it_neg c17 hJ
    refine lv_aload_n hx hb dX10_near_89 rfl (lv_at hl 0 rfl) ?_
    refine lv_iload_n hx hb dX10_near_90 rfl (lv_at hl 3 rfl) ?_
    refine lv_if_eq (tgt := 98) hx hb dX10_near_91 (by decide) (fun c18 => ?_) (fun c18 => ?_)
    · have hJ := it_pos c18 hJ
      refine lv_iconst (v := (3 : Int32)) hx hb dX10_near_98 (by decide) ?_
      exact sb_X10_near_99 C hz2 N t0 _ _ _ _ _ _ _ hJ hk0 w (lv_sub (l' := [(0, .ref t0), (1, .int x1), (2, .int x2), (4, .int x4), (5, .int x5)]) hl [0, 1, 2, 4, 5] rfl)
    · have hJ := it_neg c18 hJ
      refine lv_iconst (v := (2 : Int32)) hx hb dX10_near_94 (by decide) ?_
      refine lv_goto (tgt := 99) hx hb dX10_near_95 (by decide) ?_
      exact sb_X10_near_99 C hz2 N t0 _ _ _ _ _ _ _ hJ hk0 w (lv_sub (l' := [(0, .ref t0), (1, .int x1), (2, .int x2), (4, .int x4), (5, .int x5)]) hl [0, 1, 2, 4, 5] rfl)
  · have hJ := it_pos c17 hJ
    refine lv_iconst (v := (-1 : Int32)) hx hb dX10_near_87 (by decide) ?_
    obtain ⟨rfl, rfl⟩ := rs2 hJ
    exact jr_iret C w hz2 dX10_near_88
def B_X10_near_81 (N : Nat) (t0 : Nat) (h : Hp) (x1 : Int32) (x2 : Int32) (x3 : Int32) (x4 : Int32) (x5 : Int32) (y0 : Option Nat) (y1 : Int32) (y2 : Int32) (y3 : Int32) : Option (Hp × Int32) := dr h 13 y0 (fun a19 => (J_X10_looks N a19 h y1 y2 y3).bind (fun z => B_X10_near_84 N t0 z.1 x1 x2 x3 x4 x5 z.2))
theorem mb_X10_near_81 (N : Nat) (t0 : Nat) (h : Hp) (x1 : Int32) (x2 : Int32) (x3 : Int32) (x4 : Int32) (x5 : Int32) (y0 : Option Nat) (y1 : Int32) (y2 : Int32) (y3 : Int32) (hJ : B_X10_near_81 N t0 h x1 x2 x3 x4 x5 y0 y1 y2 y3 = some (hz, rz)) : Mo h hz := by
  unfold B_X10_near_81 at hJ
  obtain ⟨a19, ea19, -, hJ⟩ := dr_some hJ
  obtain ⟨⟨h20, r21⟩, e22, hJ⟩ := ob_some hJ
  exact (mo_X10_looks N a19 h y1 y2 y3 e22).tr (mb_X10_near_84 N t0 _ _ _ _ _ _ _ hJ)
set_option maxRecDepth 100000 in
set_option maxHeartbeats 4000000 in
theorem sb_X10_near_81 (C : Cx p s m args meth c cX10_near 8 (some .int) RX10 D cs A h0.se) (hz2 : hz.nx ≤ h0.nx + mc ∧ hz.su ≤ h0.su + ms) (N : Nat) (t0 : Nat) (h : Hp) (x1 : Int32) (x2 : Int32) (x3 : Int32) (x4 : Int32) (x5 : Int32) (y0 : Option Nat) (y1 : Int32) (y2 : Int32) (y3 : Int32) (hJ : B_X10_near_81 N t0 h x1 x2 x3 x4 x5 y0 y1 y2 y3 = some (hz, rz)) (hk0 : h.kd t0 = 13) {H : Heap} {locs : List Loc} {cells slots : Nat} (w : Wo D cs A s h0 h H locs cells slots) {ls : Array Slot} (hl : lv_has ls 8 [(0, .ref t0), (1, .int x1), (2, .int x2), (3, .int x3), (4, .int x4), (5, .int x5)]) : W p l e { frames := 7, cells := mc, slots := ms, locals := 210 } s m args below meth c H locs cells slots (MQ below (Zi D cs A hz rz) args s mc ms A) (F0 m 81 ls [.int y3, .int y2, .int y1, va_rf y0]) := by
  obtain ⟨hx, hb, hml, hown, hts, -⟩ := id C
  unfold B_X10_near_81 at hJ
  obtain ⟨a19, ea19, hka19, hJ⟩ := dr_some hJ
  rw [ea19]
  obtain ⟨⟨h20, r21⟩, e22, hJ⟩ := ob_some hJ
  refine jc_Vi (As := [.int y1, .int y2, .int y3]) C w (cc_X10_looks N a19 h y1 y2 y3 hka19 e22) (mo_X10_looks N a19 h y1 y2 y3 e22) (mb_X10_near_84 N t0 _ _ _ _ _ _ _ hJ) hz2 hka19 (by decide) rfl (fs := fs13 h a19) rfl rfl ⟨tw_7_218, tw_7_215, tw_7_217, ts_48, tw_1_7⟩ cd_X10_looks ⟨by decide, by decide⟩ hl.1 (by first | exact Nat.le_of_ble_eq_true rfl | simp [rf_cat, cat_i, cat_l, cat_r]) rfl dX10_near_81 (fun H locs w1 => ?_)
  have hk23 := kd_keep w (mo_X10_looks N a19 h y1 y2 y3 e22) hk0 (by decide)
  have w := w1
  exact sb_X10_near_84 C hz2 N t0 _ _ _ _ _ _ _ hJ hk23 w hl
def B_X10_near_71 (N : Nat) (t0 : Nat) (h : Hp) (x1 : Int32) (x2 : Int32) (x3 : Int32) (x4 : Int32) (x5 : Int32) (y0 : Option Nat) (y1 : Int32) (y2 : Int32) : Option (Hp × Int32) := if x3 = 0 then (B_X10_near_81 N t0 h x1 x2 x3 x4 x5 y0 y1 y2 x2) else (B_X10_near_81 N t0 h x1 x2 x3 x4 x5 y0 y1 y2 x5)
theorem mb_X10_near_71 (N : Nat) (t0 : Nat) (h : Hp) (x1 : Int32) (x2 : Int32) (x3 : Int32) (x4 : Int32) (x5 : Int32) (y0 : Option Nat) (y1 : Int32) (y2 : Int32) (hJ : B_X10_near_71 N t0 h x1 x2 x3 x4 x5 y0 y1 y2 = some (hz, rz)) : Mo h hz := by
  unfold B_X10_near_71 at hJ
  by_cases c24 : x3 = 0
  · have hJ := it_pos c24 hJ
    exact mb_X10_near_81 N t0 _ _ _ _ _ _ _ _ _ _ hJ
  · have hJ := it_neg c24 hJ
    exact mb_X10_near_81 N t0 _ _ _ _ _ _ _ _ _ _ hJ
set_option maxRecDepth 100000 in
set_option maxHeartbeats 4000000 in
theorem sb_X10_near_71 (C : Cx p s m args meth c cX10_near 8 (some .int) RX10 D cs A h0.se) (hz2 : hz.nx ≤ h0.nx + mc ∧ hz.su ≤ h0.su + ms) (N : Nat) (t0 : Nat) (h : Hp) (x1 : Int32) (x2 : Int32) (x3 : Int32) (x4 : Int32) (x5 : Int32) (y0 : Option Nat) (y1 : Int32) (y2 : Int32) (hJ : B_X10_near_71 N t0 h x1 x2 x3 x4 x5 y0 y1 y2 = some (hz, rz)) (hk0 : h.kd t0 = 13) {H : Heap} {locs : List Loc} {cells slots : Nat} (w : Wo D cs A s h0 h H locs cells slots) {ls : Array Slot} (hl : lv_has ls 8 [(0, .ref t0), (1, .int x1), (2, .int x2), (3, .int x3), (4, .int x4), (5, .int x5)]) : W p l e { frames := 7, cells := mc, slots := ms, locals := 210 } s m args below meth c H locs cells slots (MQ below (Zi D cs A hz rz) args s mc ms A) (F0 m 71 ls [.int y2, .int y1, va_rf y0]) := by
  obtain ⟨hx, hb, hml, hown, hts, -⟩ := id C
  unfold B_X10_near_71 at hJ
  refine lv_iload_n hx hb dX10_near_71 rfl (lv_at hl 3 rfl) ?_
  refine lv_if_eq (tgt := 80) hx hb dX10_near_72 (by decide) (fun c24 => ?_) (fun c24 => ?_)
  · have hJ := it_pos c24 hJ
    refine lv_iload_n hx hb dX10_near_80 rfl (lv_at hl 2 rfl) ?_
    exact sb_X10_near_81 C hz2 N t0 _ _ _ _ _ _ _ _ _ _ hJ hk0 w hl
  · have hJ := it_neg c24 hJ
    refine lv_iload hx hb dX10_near_75 (lv_at hl 5 rfl) ?_
    refine lv_goto (tgt := 81) hx hb dX10_near_77 (by decide) ?_
    exact sb_X10_near_81 C hz2 N t0 _ _ _ _ _ _ _ _ _ _ hJ hk0 w hl
def B_X10_near_57 (N : Nat) (t0 : Nat) (h : Hp) (x1 : Int32) (x2 : Int32) (x3 : Int32) (x4 : Int32) (y0 : Int32) : Option (Hp × Int32) := if x3 = 0 then (B_X10_near_71 N t0 h x1 x2 x3 x4 y0 (some t0) x1 y0) else (B_X10_near_71 N t0 h x1 x2 x3 x4 y0 (some t0) x1 x2)
theorem mb_X10_near_57 (N : Nat) (t0 : Nat) (h : Hp) (x1 : Int32) (x2 : Int32) (x3 : Int32) (x4 : Int32) (y0 : Int32) (hJ : B_X10_near_57 N t0 h x1 x2 x3 x4 y0 = some (hz, rz)) : Mo h hz := by
  unfold B_X10_near_57 at hJ
  by_cases c25 : x3 = 0
  · have hJ := it_pos c25 hJ
    exact mb_X10_near_71 N t0 _ _ _ _ _ _ _ _ _ hJ
  · have hJ := it_neg c25 hJ
    exact mb_X10_near_71 N t0 _ _ _ _ _ _ _ _ _ hJ
set_option maxRecDepth 100000 in
set_option maxHeartbeats 4000000 in
theorem sb_X10_near_57 (C : Cx p s m args meth c cX10_near 8 (some .int) RX10 D cs A h0.se) (hz2 : hz.nx ≤ h0.nx + mc ∧ hz.su ≤ h0.su + ms) (N : Nat) (t0 : Nat) (h : Hp) (x1 : Int32) (x2 : Int32) (x3 : Int32) (x4 : Int32) (y0 : Int32) (hJ : B_X10_near_57 N t0 h x1 x2 x3 x4 y0 = some (hz, rz)) (hk0 : h.kd t0 = 13) {H : Heap} {locs : List Loc} {cells slots : Nat} (w : Wo D cs A s h0 h H locs cells slots) {ls : Array Slot} (hl : lv_has ls 8 [(0, .ref t0), (1, .int x1), (2, .int x2), (3, .int x3), (4, .int x4)]) : W p l e { frames := 7, cells := mc, slots := ms, locals := 210 } s m args below meth c H locs cells slots (MQ below (Zi D cs A hz rz) args s mc ms A) (F0 m 57 ls [.int y0]) := by
  obtain ⟨hx, hb, hml, hown, hts, -⟩ := id C
  unfold B_X10_near_57 at hJ
  refine lv_istore (i := 5) (lv' := [(5, .int y0), (0, .ref t0), (1, .int x1), (2, .int x2), (3, .int x3), (4, .int x4)]) hx hb dX10_near_57 hl (by decide) rfl (fun ls hl => ?_)
  refine lv_aload_n hx hb dX10_near_59 rfl (lv_at hl 1 rfl) ?_
  refine lv_iload_n hx hb dX10_near_60 rfl (lv_at hl 2 rfl) ?_
  refine lv_iload_n hx hb dX10_near_61 rfl (lv_at hl 4 rfl) ?_
  refine lv_if_eq (tgt := 69) hx hb dX10_near_62 (by decide) (fun c25 => ?_) (fun c25 => ?_)
  · have hJ := it_pos c25 hJ
    refine lv_iload hx hb dX10_near_69 (lv_at hl 0 rfl) ?_
    exact sb_X10_near_71 C hz2 N t0 _ _ _ _ _ _ _ _ _ hJ hk0 w (lv_sub (l' := [(0, .ref t0), (1, .int x1), (2, .int x2), (3, .int x3), (4, .int x4), (5, .int y0)]) hl [1, 2, 3, 4, 5, 0] rfl)
  · have hJ := it_neg c25 hJ
    refine lv_iload_n hx hb dX10_near_65 rfl (lv_at hl 3 rfl) ?_
    refine lv_goto (tgt := 71) hx hb dX10_near_66 (by decide) ?_
    exact sb_X10_near_71 C hz2 N t0 _ _ _ _ _ _ _ _ _ hJ hk0 w (lv_sub (l' := [(0, .ref t0), (1, .int x1), (2, .int x2), (3, .int x3), (4, .int x4), (5, .int y0)]) hl [1, 2, 3, 4, 5, 0] rfl)
def B_X10_near_27 (N : Nat) (t0 : Nat) (h : Hp) (x1 : Int32) (x2 : Int32) (x3 : Int32) (y0 : Int32) : Option (Hp × Int32) := if y0 = (-1 : Int32) then (if x3 = 0 then (B_X10_near_57 N t0 h x1 x2 x3 y0 (-2147483648 : Int32)) else (B_X10_near_57 N t0 h x1 x2 x3 y0 (2147483647 : Int32))) else (dr h 30 (h.gr 1352 t0) (fun a28 => ck (¬ (y0 < 0 ∨ h.al a28 ≤ y0.toNatClampNeg)) (B_X10_near_57 N t0 h x1 x2 x3 y0 (h.bi a28 y0.toNatClampNeg))))
theorem mb_X10_near_27 (N : Nat) (t0 : Nat) (h : Hp) (x1 : Int32) (x2 : Int32) (x3 : Int32) (y0 : Int32) (hJ : B_X10_near_27 N t0 h x1 x2 x3 y0 = some (hz, rz)) : Mo h hz := by
  unfold B_X10_near_27 at hJ
  by_cases c26 : y0 = (-1 : Int32)
  · have hJ := it_pos c26 hJ
    by_cases c27 : x3 = 0
    · have hJ := it_pos c27 hJ
      exact mb_X10_near_57 N t0 _ _ _ _ _ _ hJ
    · have hJ := it_neg c27 hJ
      exact mb_X10_near_57 N t0 _ _ _ _ _ _ hJ
  · have hJ := it_neg c26 hJ
    obtain ⟨a28, ea28, -, hJ⟩ := dr_some hJ
    obtain ⟨-, hJ⟩ := ck_some hJ
    exact mb_X10_near_57 N t0 _ _ _ _ _ _ hJ
set_option maxRecDepth 100000 in
set_option maxHeartbeats 4000000 in
theorem sb_X10_near_27 (C : Cx p s m args meth c cX10_near 8 (some .int) RX10 D cs A h0.se) (hz2 : hz.nx ≤ h0.nx + mc ∧ hz.su ≤ h0.su + ms) (N : Nat) (t0 : Nat) (h : Hp) (x1 : Int32) (x2 : Int32) (x3 : Int32) (y0 : Int32) (hJ : B_X10_near_27 N t0 h x1 x2 x3 y0 = some (hz, rz)) (hk0 : h.kd t0 = 13) {H : Heap} {locs : List Loc} {cells slots : Nat} (w : Wo D cs A s h0 h H locs cells slots) {ls : Array Slot} (hl : lv_has ls 8 [(0, .ref t0), (1, .int x1), (2, .int x2), (3, .int x3)]) : W p l e { frames := 7, cells := mc, slots := ms, locals := 210 } s m args below meth c H locs cells slots (MQ below (Zi D cs A hz rz) args s mc ms A) (F0 m 27 ls [.int y0]) := by
  obtain ⟨hx, hb, hml, hown, hts, -⟩ := id C
  unfold B_X10_near_27 at hJ
  refine lv_istore (i := 4) (lv' := [(4, .int y0), (0, .ref t0), (1, .int x1), (2, .int x2), (3, .int x3)]) hx hb dX10_near_27 hl (by decide) rfl (fun ls hl => ?_)
  refine lv_iload hx hb dX10_near_29 (lv_at hl 0 rfl) ?_
  refine lv_iconst (v := (-1 : Int32)) hx hb dX10_near_31 (by decide) ?_
  refine lv_icmp_eq (tgt := 45) hx hb dX10_near_32 (by decide) (fun c26 => ?_) (fun c26 => ?_)
  · have hJ := it_pos c26 hJ
    refine lv_iload_n hx hb dX10_near_45 rfl (lv_at hl 4 rfl) ?_
    refine lv_if_eq (tgt := 54) hx hb dX10_near_46 (by decide) (fun c27 => ?_) (fun c27 => ?_)
    · have hJ := it_pos c27 hJ
      refine lv_ldcw (v := (-2147483648 : Int32)) hx hb hown (hts _ tw_8_3) dX10_near_54 ?_
      exact sb_X10_near_57 C hz2 N t0 _ _ _ _ _ _ hJ hk0 w (lv_sub (l' := [(0, .ref t0), (1, .int x1), (2, .int x2), (3, .int x3), (4, .int y0)]) hl [1, 2, 3, 4, 0] rfl)
    · have hJ := it_neg c27 hJ
      refine lv_ldc (v := (2147483647 : Int32)) hx hb hown (hts _ tw_7_154) dX10_near_49 ?_
      refine lv_goto (tgt := 57) hx hb dX10_near_51 (by decide) ?_
      exact sb_X10_near_57 C hz2 N t0 _ _ _ _ _ _ hJ hk0 w (lv_sub (l' := [(0, .ref t0), (1, .int x1), (2, .int x2), (3, .int x3), (4, .int y0)]) hl [1, 2, 3, 4, 0] rfl)
  · have hJ := it_neg c26 hJ
    refine lv_aload_n hx hb dX10_near_35 rfl (lv_at hl 1 rfl) ?_
    refine fg_1352 C w hk0 tw_6_215 dX10_near_36 ?_
    refine lv_iload hx hb dX10_near_39 (lv_at hl 0 rfl) ?_
    obtain ⟨a28, ea28, hka28, hJ⟩ := dr_some hJ
    rw [ea28]
    obtain ⟨hi29, hJ⟩ := ck_some hJ
    refine jr_ialdM C w hka28 hi29 dX10_near_41 ?_
    refine lv_goto (tgt := 57) hx hb dX10_near_42 (by decide) ?_
    exact sb_X10_near_57 C hz2 N t0 _ _ _ _ _ _ hJ hk0 w (lv_sub (l' := [(0, .ref t0), (1, .int x1), (2, .int x2), (3, .int x3), (4, .int y0)]) hl [1, 2, 3, 4, 0] rfl)
def B_X10_near_15 (N : Nat) (t0 : Nat) (h : Hp) (x1 : Int32) (x2 : Int32) (x3 : Int32) (y0 : Int32) : Option (Hp × Int32) := if y0 = 0 then ((J_X10_nearest N t0 h x1 x2 x3).bind (fun z => B_X10_near_27 N t0 z.1 x1 x2 x3 z.2)) else (some (h, (0 : Int32)))
theorem mb_X10_near_15 (N : Nat) (t0 : Nat) (h : Hp) (x1 : Int32) (x2 : Int32) (x3 : Int32) (y0 : Int32) (hJ : B_X10_near_15 N t0 h x1 x2 x3 y0 = some (hz, rz)) : Mo h hz := by
  unfold B_X10_near_15 at hJ
  by_cases c30 : y0 = 0
  · have hJ := it_pos c30 hJ
    obtain ⟨⟨h31, r32⟩, e33, hJ⟩ := ob_some hJ
    exact (mo_X10_nearest N t0 h x1 x2 x3 e33).tr (mb_X10_near_27 N t0 _ _ _ _ _ hJ)
  · have hJ := it_neg c30 hJ
    obtain ⟨rfl, -⟩ := rs2 hJ
    exact ⟨fun _ _ => rfl, Nat.le_refl _, Nat.le_refl _, rfl, fun _ _ => rfl⟩
set_option maxRecDepth 100000 in
set_option maxHeartbeats 4000000 in
theorem sb_X10_near_15 (C : Cx p s m args meth c cX10_near 8 (some .int) RX10 D cs A h0.se) (hz2 : hz.nx ≤ h0.nx + mc ∧ hz.su ≤ h0.su + ms) (N : Nat) (t0 : Nat) (h : Hp) (x1 : Int32) (x2 : Int32) (x3 : Int32) (y0 : Int32) (hJ : B_X10_near_15 N t0 h x1 x2 x3 y0 = some (hz, rz)) (hk0 : h.kd t0 = 13) {H : Heap} {locs : List Loc} {cells slots : Nat} (w : Wo D cs A s h0 h H locs cells slots) {ls : Array Slot} (hl : lv_has ls 8 [(0, .ref t0), (1, .int x1), (2, .int x2), (3, .int x3)]) : W p l e { frames := 7, cells := mc, slots := ms, locals := 210 } s m args below meth c H locs cells slots (MQ below (Zi D cs A hz rz) args s mc ms A) (F0 m 15 ls [.int y0]) := by
  obtain ⟨hx, hb, hml, hown, hts, -⟩ := id C
  unfold B_X10_near_15 at hJ
  refine lv_if_eq (tgt := 20) hx hb dX10_near_15 (by decide) (fun c30 => ?_) (fun c30 => ?_)
  · have hJ := it_pos c30 hJ
    refine lv_aload_n hx hb dX10_near_20 rfl (lv_at hl 0 rfl) ?_
    refine lv_iload_n hx hb dX10_near_21 rfl (lv_at hl 1 rfl) ?_
    refine lv_iload_n hx hb dX10_near_22 rfl (lv_at hl 2 rfl) ?_
    refine lv_iload_n hx hb dX10_near_23 rfl (lv_at hl 3 rfl) ?_
    obtain ⟨⟨h31, r32⟩, e33, hJ⟩ := ob_some hJ
    refine jc_Vi (As := [.int x1, .int x2, .int x3]) C w (cc_X10_nearest N t0 h x1 x2 x3 hk0 e33) (mo_X10_nearest N t0 h x1 x2 x3 e33) (mb_X10_near_27 N t0 _ _ _ _ _ hJ) hz2 hk0 (by decide) rfl (fs := fs13 h t0) rfl rfl ⟨tw_8_2, tw_7_239, tw_8_1, ts_53, tw_1_7⟩ cd_X10_nearest ⟨by decide, by decide⟩ hl.1 (by first | exact Nat.le_of_ble_eq_true rfl | simp [rf_cat, cat_i, cat_l, cat_r]) rfl dX10_near_24 (fun H locs w1 => ?_)
    have hk34 := kd_keep w (mo_X10_nearest N t0 h x1 x2 x3 e33) hk0 (by decide)
    have w := w1
    exact sb_X10_near_27 C hz2 N t0 _ _ _ _ _ hJ hk34 w hl
  · have hJ := it_neg c30 hJ
    refine lv_iconst (v := (0 : Int32)) hx hb dX10_near_18 (by decide) ?_
    obtain ⟨rfl, rfl⟩ := rs2 hJ
    exact jr_iret C w hz2 dX10_near_19
def B_X10_near_0 (N : Nat) (t0 : Nat) (h : Hp) (x1 : Int32) (x2 : Int32) (x3 : Int32) : Option (Hp × Int32) := (J_X10_isIdle N t0 (h.sgi 1313 t0 ((h.gi 1313 t0) + (1 : Int32))) x1).bind (fun z => B_X10_near_15 N t0 z.1 x1 x2 x3 z.2)
theorem mb_X10_near_0 (N : Nat) (t0 : Nat) (h : Hp) (x1 : Int32) (x2 : Int32) (x3 : Int32) (hJ : B_X10_near_0 N t0 h x1 x2 x3 = some (hz, rz)) : Mo h hz := by
  unfold B_X10_near_0 at hJ
  obtain ⟨⟨h35, r36⟩, e37, hJ⟩ := ob_some hJ
  exact (Mo.tr (show Mo h (h.sgi 1313 t0 ((h.gi 1313 t0) + (1 : Int32))) from ⟨fun _ _ => rfl, Nat.le_refl _, Nat.le_refl _, rfl, fun _ _ => rfl⟩) ((mo_X10_isIdle N t0 (h.sgi 1313 t0 ((h.gi 1313 t0) + (1 : Int32))) x1 e37).tr (mb_X10_near_15 N t0 _ _ _ _ _ hJ)))
set_option maxRecDepth 100000 in
set_option maxHeartbeats 4000000 in
theorem sb_X10_near_0 (C : Cx p s m args meth c cX10_near 8 (some .int) RX10 D cs A h0.se) (hz2 : hz.nx ≤ h0.nx + mc ∧ hz.su ≤ h0.su + ms) (N : Nat) (t0 : Nat) (h : Hp) (x1 : Int32) (x2 : Int32) (x3 : Int32) (hJ : B_X10_near_0 N t0 h x1 x2 x3 = some (hz, rz)) (hk0 : h.kd t0 = 13) {H : Heap} {locs : List Loc} {cells slots : Nat} (w : Wo D cs A s h0 h H locs cells slots) {ls : Array Slot} (hl : lv_has ls 8 [(0, .ref t0), (1, .int x1), (2, .int x2), (3, .int x3)]) : W p l e { frames := 7, cells := mc, slots := ms, locals := 210 } s m args below meth c H locs cells slots (MQ below (Zi D cs A hz rz) args s mc ms A) (F0 m 0 ls []) := by
  obtain ⟨hx, hb, hml, hown, hts, -⟩ := id C
  unfold B_X10_near_0 at hJ
  refine lv_aload_n hx hb dX10_near_0 rfl (lv_at hl 0 rfl) ?_
  refine lv_dup hx hb dX10_near_1 rfl ?_
  refine fg_1313 C w hk0 tw_6_176 dX10_near_2 ?_
  refine lv_iconst (v := (1 : Int32)) hx hb dX10_near_5 (by decide) ?_
  refine lv_iadd hx hb dX10_near_6 ?_
  refine fp_1313 (x := (h.gi 1313 t0) + (1 : Int32)) C w hk0 tw_6_176 dX10_near_7 (fun H locs w => ?_)
  refine lv_aload_n hx hb dX10_near_10 rfl (lv_at hl 0 rfl) ?_
  refine lv_iload_n hx hb dX10_near_11 rfl (lv_at hl 1 rfl) ?_
  obtain ⟨⟨h35, r36⟩, e37, hJ⟩ := ob_some hJ
  refine jc_Vi (As := [.int x1]) C w (cc_X10_isIdle N t0 (h.sgi 1313 t0 ((h.gi 1313 t0) + (1 : Int32))) x1 hk0 e37) (mo_X10_isIdle N t0 (h.sgi 1313 t0 ((h.gi 1313 t0) + (1 : Int32))) x1 e37) (mb_X10_near_15 N t0 _ _ _ _ _ hJ) hz2 hk0 (by decide) rfl (fs := fs13 (h.sgi 1313 t0 ((h.gi 1313 t0) + (1 : Int32))) t0) rfl rfl ⟨tw_7_174, tw_7_171, tw_7_173, ts_39, tw_1_7⟩ cd_X10_isIdle ⟨by decide, by decide⟩ hl.1 (by first | exact Nat.le_of_ble_eq_true rfl | simp [rf_cat, cat_i, cat_l, cat_r]) rfl dX10_near_12 (fun H locs w1 => ?_)
  have hk38 := kd_keep w (mo_X10_isIdle N t0 (h.sgi 1313 t0 ((h.gi 1313 t0) + (1 : Int32))) x1 e37) hk0 (by decide)
  have w := w1
  exact sb_X10_near_15 C hz2 N t0 _ _ _ _ _ hJ hk38 w hl
def J_X10_near (N : Nat) (t0 : Nat) (h : Hp) (x1 : Int32) (x2 : Int32) (x3 : Int32) : Option (Hp × Int32) := B_X10_near_0 N t0 h x1 x2 x3
theorem mo_X10_near (N : Nat) (t0 : Nat) (h : Hp) (x1 : Int32) (x2 : Int32) (x3 : Int32) (hJ : J_X10_near N t0 h x1 x2 x3 = some (hz, rz)) : Mo h hz := mb_X10_near_0 N t0 h x1 x2 x3 hJ
theorem cd_X10_near : Cd yX10_near 3 := ⟨by decide +kernel, by decide +kernel, by decide +kernel⟩
theorem cc_X10_near (N : Nat) (t0 : Nat) (h : Hp) (x1 : Int32) (x2 : Int32) (x3 : Int32) (hk0 : h.kd t0 = 13) (hJ : J_X10_near N t0 h x1 x2 x3 = some (hz, rz)) : Ci l yX10_near cX10_near 8 (some .int) 7 210 D cs h hz [.ref t0, .int x1, .int x2, .int x3] rz := by
  intro mc ms g1 g2
  refine je_any (by decide) (by simp [lg_sl, rf_cat, cat_i, cat_l, cat_r]) ?_
  intro p e s m args below meth c C hin2 w ls hl
  have hl : lv_has ls 8 [(0, .ref t0), (1, .int x1), (2, .int x2), (3, .int x3)] := hl
  exact sb_X10_near_0 C ⟨g1, g2⟩ N t0 h x1 x2 x3 hJ hk0 w hl
end G_X10_near
