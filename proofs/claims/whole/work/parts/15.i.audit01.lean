section G_X1_isAhead
variable {p : Program} {l : Launch} {e : Env} {s : State} {m : MethodId} {args : Array Value} {below : List Frame} {meth : Method} {c : Code} {D : va_G} {cs : C4} {A : Nat → Prop} {h0 hz : Hp} {mc ms : Nat} {rz : Int32}
def B_X1_isAhead_33 (N : Nat) (t0 : Nat) (h : Hp) (y0 : Int32) : Option (Hp × Int32) := ck (y0 = 0 ∨ y0 = 1) (some (h, y0))
theorem mb_X1_isAhead_33 (N : Nat) (t0 : Nat) (h : Hp) (y0 : Int32) (hJ : B_X1_isAhead_33 N t0 h y0 = some (hz, rz)) : Mo h hz := by
  unfold B_X1_isAhead_33 at hJ
  obtain ⟨-, hJ⟩ := ck_some hJ
  obtain ⟨rfl, -⟩ := rs2 hJ
  exact ⟨fun _ _ => rfl, Nat.le_refl _, Nat.le_refl _, rfl, fun _ _ => rfl⟩
set_option maxRecDepth 100000 in
set_option maxHeartbeats 4000000 in
theorem sb_X1_isAhead_33 (C : Cx p s m args meth c cX1_isAhead 3 (some .boolean) RX1 D cs A h0.se) (hz2 : hz.nx ≤ h0.nx + mc ∧ hz.su ≤ h0.su + ms) (N : Nat) (t0 : Nat) (h : Hp) (y0 : Int32) (hJ : B_X1_isAhead_33 N t0 h y0 = some (hz, rz)) (hk0 : h.kd t0 = 4) {H : Heap} {locs : List Loc} {cells slots : Nat} (w : Wo D cs A s h0 h H locs cells slots) {ls : Array Slot} (hl : lv_has ls 3 [(0, .ref t0)]) : W p l e { frames := 0, cells := mc, slots := ms, locals := 0 } s m args below meth c H locs cells slots (MQ below (Zi D cs A hz rz) args s mc ms A) (F0 m 33 ls [.int y0]) := by
  obtain ⟨hx, hb, hml, hown, hts, -⟩ := id C
  unfold B_X1_isAhead_33 at hJ
  obtain ⟨hzo1, hJ⟩ := ck_some hJ
  obtain ⟨rfl, rfl⟩ := rs2 hJ
  exact jr_zret C w hzo1 hz2 dX1_isAhead_33
def B_X1_isAhead_0 (N : Nat) (t0 : Nat) (h : Hp) (x1 : Int32) (x2 : Int32) : Option (Hp × Int32) := dr h 21 (h.fr 404 t0) (fun a2 => ck (¬ ((x2 * (h.fi 403 t0)) + ((x1.toUInt32 >>> ((6 : Int32).toUInt32 &&& Int32.toUInt32 31)).toInt32) < 0 ∨ h.al a2 ≤ ((x2 * (h.fi 403 t0)) + ((x1.toUInt32 >>> ((6 : Int32).toUInt32 &&& Int32.toUInt32 31)).toInt32)).toNatClampNeg)) (if (lg_cmp ((((h.aw a2 ((x2 * (h.fi 403 t0)) + ((x1.toUInt32 >>> ((6 : Int32).toUInt32 &&& Int32.toUInt32 31)).toInt32)).toNatClampNeg).toUInt64 >>> ((x1 &&& (63 : Int32)).toInt64.toUInt64 &&& Int64.toUInt64 63)).toInt64) &&& (1 : Int64)) (0 : Int64)) = 0 then (B_X1_isAhead_33 N t0 h (0 : Int32)) else (B_X1_isAhead_33 N t0 h (1 : Int32))))
theorem mb_X1_isAhead_0 (N : Nat) (t0 : Nat) (h : Hp) (x1 : Int32) (x2 : Int32) (hJ : B_X1_isAhead_0 N t0 h x1 x2 = some (hz, rz)) : Mo h hz := by
  unfold B_X1_isAhead_0 at hJ
  obtain ⟨a2, ea2, -, hJ⟩ := dr_some hJ
  obtain ⟨-, hJ⟩ := ck_some hJ
  by_cases c4 : (lg_cmp ((((h.aw a2 ((x2 * (h.fi 403 t0)) + ((x1.toUInt32 >>> ((6 : Int32).toUInt32 &&& Int32.toUInt32 31)).toInt32)).toNatClampNeg).toUInt64 >>> ((x1 &&& (63 : Int32)).toInt64.toUInt64 &&& Int64.toUInt64 63)).toInt64) &&& (1 : Int64)) (0 : Int64)) = 0
  · have hJ := it_pos c4 hJ
    exact mb_X1_isAhead_33 N t0 _ _ hJ
  · have hJ := it_neg c4 hJ
    exact mb_X1_isAhead_33 N t0 _ _ hJ
set_option maxRecDepth 100000 in
set_option maxHeartbeats 4000000 in
theorem sb_X1_isAhead_0 (C : Cx p s m args meth c cX1_isAhead 3 (some .boolean) RX1 D cs A h0.se) (hz2 : hz.nx ≤ h0.nx + mc ∧ hz.su ≤ h0.su + ms) (N : Nat) (t0 : Nat) (h : Hp) (x1 : Int32) (x2 : Int32) (hJ : B_X1_isAhead_0 N t0 h x1 x2 = some (hz, rz)) (hk0 : h.kd t0 = 4) {H : Heap} {locs : List Loc} {cells slots : Nat} (w : Wo D cs A s h0 h H locs cells slots) {ls : Array Slot} (hl : lv_has ls 3 [(0, .ref t0), (1, .int x1), (2, .int x2)]) : W p l e { frames := 0, cells := mc, slots := ms, locals := 0 } s m args below meth c H locs cells slots (MQ below (Zi D cs A hz rz) args s mc ms A) (F0 m 0 ls []) := by
  obtain ⟨hx, hb, hml, hown, hts, -⟩ := id C
  unfold B_X1_isAhead_0 at hJ
  refine lv_aload_n hx hb dX1_isAhead_0 rfl (lv_at hl 0 rfl) ?_
  refine fg_404 C w hk0 tw_3_17 dX1_isAhead_1 ?_
  refine lv_iload_n hx hb dX1_isAhead_4 rfl (lv_at hl 2 rfl) ?_
  refine lv_aload_n hx hb dX1_isAhead_5 rfl (lv_at hl 0 rfl) ?_
  refine fg_403 C w hk0 tw_3_16 dX1_isAhead_6 ?_
  refine lv_imul hx hb dX1_isAhead_9 ?_
  refine lv_iload_n hx hb dX1_isAhead_10 rfl (lv_at hl 1 rfl) ?_
  refine lv_bipush (v := (6 : Int32)) hx hb dX1_isAhead_11 (by decide) ?_
  refine lv_iushr hx hb dX1_isAhead_13 rfl ?_
  refine lv_iadd hx hb dX1_isAhead_14 ?_
  obtain ⟨a2, ea2, hka2, hJ⟩ := dr_some hJ
  rw [ea2]
  obtain ⟨hi3, hJ⟩ := ck_some hJ
  refine jr_lald C w hka2 hi3 dX1_isAhead_15 ?_
  refine lv_iload_n hx hb dX1_isAhead_16 rfl (lv_at hl 1 rfl) ?_
  refine lv_bipush (v := (63 : Int32)) hx hb dX1_isAhead_17 (by decide) ?_
  refine lv_iand hx hb dX1_isAhead_19 ?_
  refine lv_lushr hx hb dX1_isAhead_20 rfl ?_
  refine lv_lconst (v := (1 : Int64)) hx hb dX1_isAhead_21 (by decide) ?_
  refine lv_land hx hb dX1_isAhead_22 ?_
  refine lv_lconst (v := (0 : Int64)) hx hb dX1_isAhead_23 (by decide) ?_
  refine W.lcmp hx hb dX1_isAhead_24 ?_
  refine lv_if_eq (tgt := 32) hx hb dX1_isAhead_25 (by decide) (fun c4 => ?_) (fun c4 => ?_)
  · have hJ := it_pos c4 hJ
    refine lv_iconst (v := (0 : Int32)) hx hb dX1_isAhead_32 (by decide) ?_
    exact sb_X1_isAhead_33 C hz2 N t0 _ _ hJ hk0 w (lv_sub (l' := [(0, .ref t0)]) hl [0] rfl)
  · have hJ := it_neg c4 hJ
    refine lv_iconst (v := (1 : Int32)) hx hb dX1_isAhead_28 (by decide) ?_
    refine lv_goto (tgt := 33) hx hb dX1_isAhead_29 (by decide) ?_
    exact sb_X1_isAhead_33 C hz2 N t0 _ _ hJ hk0 w (lv_sub (l' := [(0, .ref t0)]) hl [0] rfl)
def J_X1_isAhead (N : Nat) (t0 : Nat) (h : Hp) (x1 : Int32) (x2 : Int32) : Option (Hp × Int32) := B_X1_isAhead_0 N t0 h x1 x2
theorem mo_X1_isAhead (N : Nat) (t0 : Nat) (h : Hp) (x1 : Int32) (x2 : Int32) (hJ : J_X1_isAhead N t0 h x1 x2 = some (hz, rz)) : Mo h hz := mb_X1_isAhead_0 N t0 h x1 x2 hJ
theorem cd_X1_isAhead : Cd yX1_isAhead 2 := ⟨by decide +kernel, by decide +kernel, by decide +kernel⟩
theorem cc_X1_isAhead (N : Nat) (t0 : Nat) (h : Hp) (x1 : Int32) (x2 : Int32) (hk0 : h.kd t0 = 4) (hJ : J_X1_isAhead N t0 h x1 x2 = some (hz, rz)) : Ci l yX1_isAhead cX1_isAhead 3 (some .boolean) 0 0 D cs h hz [.ref t0, .int x1, .int x2] rz := by
  intro mc ms g1 g2
  refine je_any (by decide) (by simp [lg_sl, rf_cat, cat_i, cat_l, cat_r]) ?_
  intro p e s m args below meth c C hin2 w ls hl
  have hl : lv_has ls 3 [(0, .ref t0), (1, .int x1), (2, .int x2)] := hl
  exact sb_X1_isAhead_0 C ⟨g1, g2⟩ N t0 h x1 x2 hJ hk0 w hl
end G_X1_isAhead
section G_X1_takeOver
variable {p : Program} {l : Launch} {e : Env} {s : State} {m : MethodId} {args : Array Value} {below : List Frame} {meth : Method} {c : Code} {D : va_G} {cs : C4} {A : Nat → Prop} {h0 hz : Hp} {mc ms : Nat}
def B_X1_takeOver_2 (N : Nat) (k2 : Hp → Int32 → Int32 → Int32 → Option (Hp × Unit)) (t0 : Nat) (h : Hp) (x1 : Int32) (x2 : Int32) (x3 : Int32) : Option (Hp × Unit) := if (h.fi 403 t0) ≤ x3 then (some (h, ())) else (dr h 21 (h.fr 404 t0) (fun a2 => ck (¬ ((x2 * (h.fi 403 t0)) + x3 < 0 ∨ h.al a2 ≤ ((x2 * (h.fi 403 t0)) + x3).toNatClampNeg)) (dr h 21 (h.fr 404 t0) (fun a4 => ck (¬ ((x1 * (h.fi 403 t0)) + x3 < 0 ∨ h.al a4 ≤ ((x1 * (h.fi 403 t0)) + x3).toNatClampNeg)) (ck (¬ ((x2 * (h.fi 403 t0)) + x3 < 0 ∨ h.al a2 ≤ ((x2 * (h.fi 403 t0)) + x3).toNatClampNeg)) (k2 (h.saw a2 ((x2 * (h.fi 403 t0)) + x3).toNatClampNeg ((h.aw a2 ((x2 * (h.fi 403 t0)) + x3).toNatClampNeg) ||| (h.aw a4 ((x1 * (h.fi 403 t0)) + x3).toNatClampNeg))) x1 x2 (x3 + (1 : Int32))))))))
theorem mb_X1_takeOver_2 (N : Nat) (k2 : Hp → Int32 → Int32 → Int32 → Option (Hp × Unit)) (t0 : Nat) (h : Hp) (x1 : Int32) (x2 : Int32) (x3 : Int32) (m2 : ∀ (h : Hp) (x1 : Int32) (x2 : Int32) (x3 : Int32), k2 h x1 x2 x3 = some (hz, ()) → Mo h hz) (hJ : B_X1_takeOver_2 N k2 t0 h x1 x2 x3 = some (hz, ())) : Mo h hz := by
  unfold B_X1_takeOver_2 at hJ
  by_cases c1 : (h.fi 403 t0) ≤ x3
  · have hJ := it_pos c1 hJ
    obtain ⟨rfl, -⟩ := rs2 hJ
    exact ⟨fun _ _ => rfl, Nat.le_refl _, Nat.le_refl _, rfl, fun _ _ => rfl⟩
  · have hJ := it_neg c1 hJ
    obtain ⟨a2, ea2, -, hJ⟩ := dr_some hJ
    obtain ⟨-, hJ⟩ := ck_some hJ
    obtain ⟨a4, ea4, -, hJ⟩ := dr_some hJ
    obtain ⟨-, hJ⟩ := ck_some hJ
    obtain ⟨-, hJ⟩ := ck_some hJ
    exact (Mo.tr (show Mo h (h.saw a2 ((x2 * (h.fi 403 t0)) + x3).toNatClampNeg ((h.aw a2 ((x2 * (h.fi 403 t0)) + x3).toNatClampNeg) ||| (h.aw a4 ((x1 * (h.fi 403 t0)) + x3).toNatClampNeg))) from ⟨fun _ _ => rfl, Nat.le_refl _, Nat.le_refl _, rfl, fun _ _ => rfl⟩) (m2 _ _ _ _ hJ))
set_option maxRecDepth 100000 in
set_option maxHeartbeats 4000000 in
theorem sb_X1_takeOver_2 (C : Cx p s m args meth c cX1_takeOver 4 none RX1 D cs A h0.se) (hz2 : hz.nx ≤ h0.nx + mc ∧ hz.su ≤ h0.su + ms) (N : Nat) (k2 : Hp → Int32 → Int32 → Int32 → Option (Hp × Unit)) (t0 : Nat) (m2 : ∀ (h : Hp) (x1 : Int32) (x2 : Int32) (x3 : Int32), k2 h x1 x2 x3 = some (hz, ()) → Mo h hz) (i2 : ∀ (h : Hp) (x1 : Int32) (x2 : Int32) (x3 : Int32) (H : Heap) (locs : List Loc) (cells slots : Nat) (ls : Array Slot), k2 h x1 x2 x3 = some (hz, ()) → h.kd t0 = 4 → Wo D cs A s h0 h H locs cells slots → lv_has ls 4 [(0, .ref t0), (1, .int x1), (2, .int x2), (3, .int x3)] → W p l e { frames := 0, cells := mc, slots := ms, locals := 0 } s m args below meth c H locs cells slots (MQ below (Zv D cs A hz) args s mc ms A) (F0 m 2 ls [])) (h : Hp) (x1 : Int32) (x2 : Int32) (x3 : Int32) (hJ : B_X1_takeOver_2 N k2 t0 h x1 x2 x3 = some (hz, ())) (hk0 : h.kd t0 = 4) {H : Heap} {locs : List Loc} {cells slots : Nat} (w : Wo D cs A s h0 h H locs cells slots) {ls : Array Slot} (hl : lv_has ls 4 [(0, .ref t0), (1, .int x1), (2, .int x2), (3, .int x3)]) : W p l e { frames := 0, cells := mc, slots := ms, locals := 0 } s m args below meth c H locs cells slots (MQ below (Zv D cs A hz) args s mc ms A) (F0 m 2 ls []) := by
  obtain ⟨hx, hb, hml, hown, hts, -⟩ := id C
  unfold B_X1_takeOver_2 at hJ
  refine lv_iload_n hx hb dX1_takeOver_2 rfl (lv_at hl 3 rfl) ?_
  refine lv_aload_n hx hb dX1_takeOver_3 rfl (lv_at hl 0 rfl) ?_
  refine fg_403 C w hk0 tw_3_16 dX1_takeOver_4 ?_
  refine lv_icmp_ge (tgt := 45) hx hb dX1_takeOver_7 (by decide) (fun c1 => ?_) (fun c1 => ?_)
  · have hJ := it_pos c1 hJ
    obtain ⟨rfl, -⟩ := rs2 hJ
    exact jr_vret C w hz2 dX1_takeOver_45
  · have hJ := it_neg c1 hJ
    refine lv_aload_n hx hb dX1_takeOver_10 rfl (lv_at hl 0 rfl) ?_
    refine fg_404 C w hk0 tw_3_17 dX1_takeOver_11 ?_
    refine lv_iload_n hx hb dX1_takeOver_14 rfl (lv_at hl 2 rfl) ?_
    refine lv_aload_n hx hb dX1_takeOver_15 rfl (lv_at hl 0 rfl) ?_
    refine fg_403 C w hk0 tw_3_16 dX1_takeOver_16 ?_
    refine lv_imul hx hb dX1_takeOver_19 ?_
    refine lv_iload_n hx hb dX1_takeOver_20 rfl (lv_at hl 3 rfl) ?_
    refine lv_iadd hx hb dX1_takeOver_21 ?_
    refine lv_dup2_11 hx hb dX1_takeOver_22 rfl (rf_cat _) ?_
    obtain ⟨a2, ea2, hka2, hJ⟩ := dr_some hJ
    rw [ea2]
    obtain ⟨hi3, hJ⟩ := ck_some hJ
    refine jr_lald C w hka2 hi3 dX1_takeOver_23 ?_
    refine lv_aload_n hx hb dX1_takeOver_24 rfl (lv_at hl 0 rfl) ?_
    refine fg_404 C w hk0 tw_3_17 dX1_takeOver_25 ?_
    refine lv_iload_n hx hb dX1_takeOver_28 rfl (lv_at hl 1 rfl) ?_
    refine lv_aload_n hx hb dX1_takeOver_29 rfl (lv_at hl 0 rfl) ?_
    refine fg_403 C w hk0 tw_3_16 dX1_takeOver_30 ?_
    refine lv_imul hx hb dX1_takeOver_33 ?_
    refine lv_iload_n hx hb dX1_takeOver_34 rfl (lv_at hl 3 rfl) ?_
    refine lv_iadd hx hb dX1_takeOver_35 ?_
    obtain ⟨a4, ea4, hka4, hJ⟩ := dr_some hJ
    rw [ea4]
    obtain ⟨hi5, hJ⟩ := ck_some hJ
    refine jr_lald C w hka4 hi5 dX1_takeOver_36 ?_
    refine lv_lor hx hb dX1_takeOver_37 ?_
    obtain ⟨hi6, hJ⟩ := ck_some hJ
    refine jr_last C w hka2 hi6 dX1_takeOver_38 (fun H locs w => ?_)
    refine lv_iinc (v := x3 + (1 : Int32)) (lv' := [(3, .int (x3 + (1 : Int32))), (0, .ref t0), (1, .int x1), (2, .int x2)]) hx hb dX1_takeOver_39 hl (k := 3) rfl rfl (by decide) rfl (fun ls hl => ?_)
    refine lv_goto (tgt := 2) hx hb dX1_takeOver_42 (by decide) ?_
    exact i2 _ _ _ _ _ _ _ _ _ hJ hk0 w (lv_sub (l' := [(0, .ref t0), (1, .int x1), (2, .int x2), (3, .int (x3 + (1 : Int32)))]) hl [1, 2, 3, 0] rfl)
def L_X1_takeOver_2 (N : Nat) (t0 : Nat) : Nat → Hp → Int32 → Int32 → Int32 → Option (Hp × Unit)
  | 0 => fun _ _ _ _ => none
  | n + 1 => fun h x1 x2 x3 => B_X1_takeOver_2 N (L_X1_takeOver_2 N t0 n) t0 h x1 x2 x3
theorem ml_X1_takeOver_2 (N : Nat) (t0 : Nat) : ∀ (n : Nat) (h : Hp) (x1 : Int32) (x2 : Int32) (x3 : Int32), L_X1_takeOver_2 N t0 n h x1 x2 x3 = some (hz, ()) → Mo h hz := by
  intro n
  induction n with
  | zero => intro h x1 x2 x3 hJ; cases hJ
  | succ n ih => intro h x1 x2 x3 hJ; exact mb_X1_takeOver_2 N (L_X1_takeOver_2 N t0 n) t0 h x1 x2 x3 ih hJ
theorem sl_X1_takeOver_2 (C : Cx p s m args meth c cX1_takeOver 4 none RX1 D cs A h0.se) (hz2 : hz.nx ≤ h0.nx + mc ∧ hz.su ≤ h0.su + ms) (N : Nat) (t0 : Nat) : ∀ n : Nat, ∀ (h : Hp) (x1 : Int32) (x2 : Int32) (x3 : Int32) (H : Heap) (locs : List Loc) (cells slots : Nat) (ls : Array Slot), L_X1_takeOver_2 N t0 n h x1 x2 x3 = some (hz, ()) → h.kd t0 = 4 → Wo D cs A s h0 h H locs cells slots → lv_has ls 4 [(0, .ref t0), (1, .int x1), (2, .int x2), (3, .int x3)] → W p l e { frames := 0, cells := mc, slots := ms, locals := 0 } s m args below meth c H locs cells slots (MQ below (Zv D cs A hz) args s mc ms A) (F0 m 2 ls []) := by
  intro n
  induction n with
  | zero => intro h x1 x2 x3 H locs cells slots ls hJ; cases hJ
  | succ n ih =>
    intro h x1 x2 x3 H locs cells slots ls hJ hk0 w hl
    exact sb_X1_takeOver_2 C hz2 N (L_X1_takeOver_2 N t0 n) t0 (ml_X1_takeOver_2 N t0 n) ih h x1 x2 x3 hJ hk0 w hl
def B_X1_takeOver_0 (N : Nat) (t0 : Nat) (h : Hp) (x1 : Int32) (x2 : Int32) : Option (Hp × Unit) := L_X1_takeOver_2 N t0 N h x1 x2 (0 : Int32)
theorem mb_X1_takeOver_0 (N : Nat) (t0 : Nat) (h : Hp) (x1 : Int32) (x2 : Int32) (hJ : B_X1_takeOver_0 N t0 h x1 x2 = some (hz, ())) : Mo h hz := by
  unfold B_X1_takeOver_0 at hJ
  exact ml_X1_takeOver_2 N t0 N _ _ _ _ hJ
set_option maxRecDepth 100000 in
set_option maxHeartbeats 4000000 in
theorem sb_X1_takeOver_0 (C : Cx p s m args meth c cX1_takeOver 4 none RX1 D cs A h0.se) (hz2 : hz.nx ≤ h0.nx + mc ∧ hz.su ≤ h0.su + ms) (N : Nat) (t0 : Nat) (h : Hp) (x1 : Int32) (x2 : Int32) (hJ : B_X1_takeOver_0 N t0 h x1 x2 = some (hz, ())) (hk0 : h.kd t0 = 4) {H : Heap} {locs : List Loc} {cells slots : Nat} (w : Wo D cs A s h0 h H locs cells slots) {ls : Array Slot} (hl : lv_has ls 4 [(0, .ref t0), (1, .int x1), (2, .int x2)]) : W p l e { frames := 0, cells := mc, slots := ms, locals := 0 } s m args below meth c H locs cells slots (MQ below (Zv D cs A hz) args s mc ms A) (F0 m 0 ls []) := by
  obtain ⟨hx, hb, hml, hown, hts, -⟩ := id C
  unfold B_X1_takeOver_0 at hJ
  refine lv_iconst (v := (0 : Int32)) hx hb dX1_takeOver_0 (by decide) ?_
  refine lv_istore_n (i := 3) (lv' := [(3, .int (0 : Int32)), (0, .ref t0), (1, .int x1), (2, .int x2)]) hx hb dX1_takeOver_1 rfl hl (by decide) rfl (fun ls hl => ?_)
  exact sl_X1_takeOver_2 C hz2 N t0 N _ _ _ _ _ _ _ _ _ hJ hk0 w (lv_sub (l' := [(0, .ref t0), (1, .int x1), (2, .int x2), (3, .int (0 : Int32))]) hl [1, 2, 3, 0] rfl)
def J_X1_takeOver (N : Nat) (t0 : Nat) (h : Hp) (x1 : Int32) (x2 : Int32) : Option (Hp × Unit) := B_X1_takeOver_0 N t0 h x1 x2
theorem mo_X1_takeOver (N : Nat) (t0 : Nat) (h : Hp) (x1 : Int32) (x2 : Int32) (hJ : J_X1_takeOver N t0 h x1 x2 = some (hz, ())) : Mo h hz := mb_X1_takeOver_0 N t0 h x1 x2 hJ
theorem cd_X1_takeOver : Cd yX1_takeOver 2 := ⟨by decide +kernel, by decide +kernel, by decide +kernel⟩
theorem cc_X1_takeOver (N : Nat) (t0 : Nat) (h : Hp) (x1 : Int32) (x2 : Int32) (hk0 : h.kd t0 = 4) (hJ : J_X1_takeOver N t0 h x1 x2 = some (hz, ())) : Cv l yX1_takeOver cX1_takeOver 4 none 0 0 D cs h hz [.ref t0, .int x1, .int x2] := by
  intro mc ms g1 g2
  refine je_any (by decide) (by simp [lg_sl, rf_cat, cat_i, cat_l, cat_r]) ?_
  intro p e s m args below meth c C hin2 w ls hl
  have hl : lv_has ls 4 [(0, .ref t0), (1, .int x1), (2, .int x2)] := hl
  exact sb_X1_takeOver_0 C ⟨g1, g2⟩ N t0 h x1 x2 hJ hk0 w hl
end G_X1_takeOver
section G_X1_onRings
variable {p : Program} {l : Launch} {e : Env} {s : State} {m : MethodId} {args : Array Value} {below : List Frame} {meth : Method} {c : Code} {D : va_G} {cs : C4} {A : Nat → Prop} {h0 hz : Hp} {mc ms : Nat} {rz : Int32}
def B_X1_onRings_35 (N : Nat) (k2 : Hp → Int32 → Option (Hp × Int32)) (k12 : Hp → Int32 → Int32 → Option (Hp × Int32)) (t0 : Nat) (h : Hp) (x1 : Int32) (x2 : Int32) : Option (Hp × Int32) := k12 h x1 (x2 + (1 : Int32))
theorem mb_X1_onRings_35 (N : Nat) (k2 : Hp → Int32 → Option (Hp × Int32)) (k12 : Hp → Int32 → Int32 → Option (Hp × Int32)) (t0 : Nat) (h : Hp) (x1 : Int32) (x2 : Int32) (m2 : ∀ (h : Hp) (x1 : Int32), k2 h x1 = some (hz, rz) → Mo h hz) (m12 : ∀ (h : Hp) (x1 : Int32) (x2 : Int32), k12 h x1 x2 = some (hz, rz) → Mo h hz) (hJ : B_X1_onRings_35 N k2 k12 t0 h x1 x2 = some (hz, rz)) : Mo h hz := by
  unfold B_X1_onRings_35 at hJ
  exact m12 _ _ _ hJ
set_option maxRecDepth 100000 in
set_option maxHeartbeats 4000000 in
theorem sb_X1_onRings_35 (C : Cx p s m args meth c cX1_onRings 3 (some .int) RX1 D cs A h0.se) (hz2 : hz.nx ≤ h0.nx + mc ∧ hz.su ≤ h0.su + ms) (N : Nat) (k2 : Hp → Int32 → Option (Hp × Int32)) (k12 : Hp → Int32 → Int32 → Option (Hp × Int32)) (t0 : Nat) (m2 : ∀ (h : Hp) (x1 : Int32), k2 h x1 = some (hz, rz) → Mo h hz) (m12 : ∀ (h : Hp) (x1 : Int32) (x2 : Int32), k12 h x1 x2 = some (hz, rz) → Mo h hz) (i2 : ∀ (h : Hp) (x1 : Int32) (H : Heap) (locs : List Loc) (cells slots : Nat) (ls : Array Slot), k2 h x1 = some (hz, rz) → h.kd t0 = 4 → Wo D cs A s h0 h H locs cells slots → lv_has ls 3 [(0, .ref t0), (1, .int x1)] → W p l e { frames := 1, cells := mc, slots := ms, locals := 30 } s m args below meth c H locs cells slots (MQ below (Zi D cs A hz rz) args s mc ms A) (F0 m 2 ls [])) (i12 : ∀ (h : Hp) (x1 : Int32) (x2 : Int32) (H : Heap) (locs : List Loc) (cells slots : Nat) (ls : Array Slot), k12 h x1 x2 = some (hz, rz) → h.kd t0 = 4 → Wo D cs A s h0 h H locs cells slots → lv_has ls 3 [(0, .ref t0), (1, .int x1), (2, .int x2)] → W p l e { frames := 1, cells := mc, slots := ms, locals := 30 } s m args below meth c H locs cells slots (MQ below (Zi D cs A hz rz) args s mc ms A) (F0 m 12 ls [])) (h : Hp) (x1 : Int32) (x2 : Int32) (hJ : B_X1_onRings_35 N k2 k12 t0 h x1 x2 = some (hz, rz)) (hk0 : h.kd t0 = 4) {H : Heap} {locs : List Loc} {cells slots : Nat} (w : Wo D cs A s h0 h H locs cells slots) {ls : Array Slot} (hl : lv_has ls 3 [(0, .ref t0), (1, .int x1), (2, .int x2)]) : W p l e { frames := 1, cells := mc, slots := ms, locals := 30 } s m args below meth c H locs cells slots (MQ below (Zi D cs A hz rz) args s mc ms A) (F0 m 35 ls []) := by
  obtain ⟨hx, hb, hml, hown, hts, -⟩ := id C
  unfold B_X1_onRings_35 at hJ
  refine lv_iinc (v := x2 + (1 : Int32)) (lv' := [(2, .int (x2 + (1 : Int32))), (0, .ref t0), (1, .int x1)]) hx hb dX1_onRings_35 hl (k := 2) rfl rfl (by decide) rfl (fun ls hl => ?_)
  refine lv_goto (tgt := 12) hx hb dX1_onRings_38 (by decide) ?_
  exact i12 _ _ _ _ _ _ _ _ hJ hk0 w (lv_sub (l' := [(0, .ref t0), (1, .int x1), (2, .int (x2 + (1 : Int32)))]) hl [1, 2, 0] rfl)
def B_X1_onRings_26 (N : Nat) (k2 : Hp → Int32 → Option (Hp × Int32)) (k12 : Hp → Int32 → Int32 → Option (Hp × Int32)) (t0 : Nat) (h : Hp) (x1 : Int32) (x2 : Int32) (y0 : Int32) : Option (Hp × Int32) := if y0 = 0 then (B_X1_onRings_35 N k2 k12 t0 h x1 x2) else ((J_X1_takeOver N t0 h x1 x2).bind (fun z => B_X1_onRings_35 N k2 k12 t0 z.1 x1 x2))
theorem mb_X1_onRings_26 (N : Nat) (k2 : Hp → Int32 → Option (Hp × Int32)) (k12 : Hp → Int32 → Int32 → Option (Hp × Int32)) (t0 : Nat) (h : Hp) (x1 : Int32) (x2 : Int32) (y0 : Int32) (m2 : ∀ (h : Hp) (x1 : Int32), k2 h x1 = some (hz, rz) → Mo h hz) (m12 : ∀ (h : Hp) (x1 : Int32) (x2 : Int32), k12 h x1 x2 = some (hz, rz) → Mo h hz) (hJ : B_X1_onRings_26 N k2 k12 t0 h x1 x2 y0 = some (hz, rz)) : Mo h hz := by
  unfold B_X1_onRings_26 at hJ
  by_cases c1 : y0 = 0
  · have hJ := it_pos c1 hJ
    exact mb_X1_onRings_35 N k2 k12 t0 _ _ _ m2 m12 hJ
  · have hJ := it_neg c1 hJ
    obtain ⟨⟨h2, r3⟩, e4, hJ⟩ := ob_some hJ
    exact (mo_X1_takeOver N t0 h x1 x2 e4).tr (mb_X1_onRings_35 N k2 k12 t0 _ _ _ m2 m12 hJ)
set_option maxRecDepth 100000 in
set_option maxHeartbeats 4000000 in
theorem sb_X1_onRings_26 (C : Cx p s m args meth c cX1_onRings 3 (some .int) RX1 D cs A h0.se) (hz2 : hz.nx ≤ h0.nx + mc ∧ hz.su ≤ h0.su + ms) (N : Nat) (k2 : Hp → Int32 → Option (Hp × Int32)) (k12 : Hp → Int32 → Int32 → Option (Hp × Int32)) (t0 : Nat) (m2 : ∀ (h : Hp) (x1 : Int32), k2 h x1 = some (hz, rz) → Mo h hz) (m12 : ∀ (h : Hp) (x1 : Int32) (x2 : Int32), k12 h x1 x2 = some (hz, rz) → Mo h hz) (i2 : ∀ (h : Hp) (x1 : Int32) (H : Heap) (locs : List Loc) (cells slots : Nat) (ls : Array Slot), k2 h x1 = some (hz, rz) → h.kd t0 = 4 → Wo D cs A s h0 h H locs cells slots → lv_has ls 3 [(0, .ref t0), (1, .int x1)] → W p l e { frames := 1, cells := mc, slots := ms, locals := 30 } s m args below meth c H locs cells slots (MQ below (Zi D cs A hz rz) args s mc ms A) (F0 m 2 ls [])) (i12 : ∀ (h : Hp) (x1 : Int32) (x2 : Int32) (H : Heap) (locs : List Loc) (cells slots : Nat) (ls : Array Slot), k12 h x1 x2 = some (hz, rz) → h.kd t0 = 4 → Wo D cs A s h0 h H locs cells slots → lv_has ls 3 [(0, .ref t0), (1, .int x1), (2, .int x2)] → W p l e { frames := 1, cells := mc, slots := ms, locals := 30 } s m args below meth c H locs cells slots (MQ below (Zi D cs A hz rz) args s mc ms A) (F0 m 12 ls [])) (h : Hp) (x1 : Int32) (x2 : Int32) (y0 : Int32) (hJ : B_X1_onRings_26 N k2 k12 t0 h x1 x2 y0 = some (hz, rz)) (hk0 : h.kd t0 = 4) {H : Heap} {locs : List Loc} {cells slots : Nat} (w : Wo D cs A s h0 h H locs cells slots) {ls : Array Slot} (hl : lv_has ls 3 [(0, .ref t0), (1, .int x1), (2, .int x2)]) : W p l e { frames := 1, cells := mc, slots := ms, locals := 30 } s m args below meth c H locs cells slots (MQ below (Zi D cs A hz rz) args s mc ms A) (F0 m 26 ls [.int y0]) := by
  obtain ⟨hx, hb, hml, hown, hts, -⟩ := id C
  unfold B_X1_onRings_26 at hJ
  refine lv_if_eq (tgt := 35) hx hb dX1_onRings_26 (by decide) (fun c1 => ?_) (fun c1 => ?_)
  · have hJ := it_pos c1 hJ
    exact sb_X1_onRings_35 C hz2 N k2 k12 t0 m2 m12 i2 i12 _ _ _ hJ hk0 w hl
  · have hJ := it_neg c1 hJ
    refine lv_aload_n hx hb dX1_onRings_29 rfl (lv_at hl 0 rfl) ?_
    refine lv_iload_n hx hb dX1_onRings_30 rfl (lv_at hl 1 rfl) ?_
    refine lv_iload_n hx hb dX1_onRings_31 rfl (lv_at hl 2 rfl) ?_
    obtain ⟨⟨h2, r3⟩, e4, hJ⟩ := ob_some hJ
    refine jc_Vv (As := [.int x1, .int x2]) C w (cc_X1_takeOver N t0 h x1 x2 hk0 e4) (mo_X1_takeOver N t0 h x1 x2 e4) (mb_X1_onRings_35 N k2 k12 t0 _ _ _ m2 m12 hJ) hz2 hk0 (by decide) rfl (fs := fs4 h t0) rfl rfl ⟨tw_5_102, tw_5_99, tw_5_100, tw_5_101, tw_1_34⟩ cd_X1_takeOver ⟨by decide, by decide⟩ hl.1 (by first | exact Nat.le_of_ble_eq_true rfl | simp [rf_cat, cat_i, cat_l, cat_r]) rfl dX1_onRings_32 (fun H locs w1 => ?_)
    have hk5 := kd_keep w (mo_X1_takeOver N t0 h x1 x2 e4) hk0 (by decide)
    have w := w1
    exact sb_X1_onRings_35 C hz2 N k2 k12 t0 m2 m12 i2 i12 _ _ _ hJ hk5 w hl
def B_X1_onRings_12 (N : Nat) (k2 : Hp → Int32 → Option (Hp × Int32)) (k12 : Hp → Int32 → Int32 → Option (Hp × Int32)) (t0 : Nat) (h : Hp) (x1 : Int32) (x2 : Int32) : Option (Hp × Int32) := if (h.fi 402 t0) ≤ x2 then (k2 h (x1 + (1 : Int32))) else ((J_X1_isAhead N t0 h x1 x2).bind (fun z => B_X1_onRings_26 N k2 k12 t0 z.1 x1 x2 z.2))
theorem mb_X1_onRings_12 (N : Nat) (k2 : Hp → Int32 → Option (Hp × Int32)) (k12 : Hp → Int32 → Int32 → Option (Hp × Int32)) (t0 : Nat) (h : Hp) (x1 : Int32) (x2 : Int32) (m2 : ∀ (h : Hp) (x1 : Int32), k2 h x1 = some (hz, rz) → Mo h hz) (m12 : ∀ (h : Hp) (x1 : Int32) (x2 : Int32), k12 h x1 x2 = some (hz, rz) → Mo h hz) (hJ : B_X1_onRings_12 N k2 k12 t0 h x1 x2 = some (hz, rz)) : Mo h hz := by
  unfold B_X1_onRings_12 at hJ
  by_cases c6 : (h.fi 402 t0) ≤ x2
  · have hJ := it_pos c6 hJ
    exact m2 _ _ hJ
  · have hJ := it_neg c6 hJ
    obtain ⟨⟨h7, r8⟩, e9, hJ⟩ := ob_some hJ
    exact (mo_X1_isAhead N t0 h x1 x2 e9).tr (mb_X1_onRings_26 N k2 k12 t0 _ _ _ _ m2 m12 hJ)
set_option maxRecDepth 100000 in
set_option maxHeartbeats 4000000 in
theorem sb_X1_onRings_12 (C : Cx p s m args meth c cX1_onRings 3 (some .int) RX1 D cs A h0.se) (hz2 : hz.nx ≤ h0.nx + mc ∧ hz.su ≤ h0.su + ms) (N : Nat) (k2 : Hp → Int32 → Option (Hp × Int32)) (k12 : Hp → Int32 → Int32 → Option (Hp × Int32)) (t0 : Nat) (m2 : ∀ (h : Hp) (x1 : Int32), k2 h x1 = some (hz, rz) → Mo h hz) (m12 : ∀ (h : Hp) (x1 : Int32) (x2 : Int32), k12 h x1 x2 = some (hz, rz) → Mo h hz) (i2 : ∀ (h : Hp) (x1 : Int32) (H : Heap) (locs : List Loc) (cells slots : Nat) (ls : Array Slot), k2 h x1 = some (hz, rz) → h.kd t0 = 4 → Wo D cs A s h0 h H locs cells slots → lv_has ls 3 [(0, .ref t0), (1, .int x1)] → W p l e { frames := 1, cells := mc, slots := ms, locals := 30 } s m args below meth c H locs cells slots (MQ below (Zi D cs A hz rz) args s mc ms A) (F0 m 2 ls [])) (i12 : ∀ (h : Hp) (x1 : Int32) (x2 : Int32) (H : Heap) (locs : List Loc) (cells slots : Nat) (ls : Array Slot), k12 h x1 x2 = some (hz, rz) → h.kd t0 = 4 → Wo D cs A s h0 h H locs cells slots → lv_has ls 3 [(0, .ref t0), (1, .int x1), (2, .int x2)] → W p l e { frames := 1, cells := mc, slots := ms, locals := 30 } s m args below meth c H locs cells slots (MQ below (Zi D cs A hz rz) args s mc ms A) (F0 m 12 ls [])) (h : Hp) (x1 : Int32) (x2 : Int32) (hJ : B_X1_onRings_12 N k2 k12 t0 h x1 x2 = some (hz, rz)) (hk0 : h.kd t0 = 4) {H : Heap} {locs : List Loc} {cells slots : Nat} (w : Wo D cs A s h0 h H locs cells slots) {ls : Array Slot} (hl : lv_has ls 3 [(0, .ref t0), (1, .int x1), (2, .int x2)]) : W p l e { frames := 1, cells := mc, slots := ms, locals := 30 } s m args below meth c H locs cells slots (MQ below (Zi D cs A hz rz) args s mc ms A) (F0 m 12 ls []) := by
  obtain ⟨hx, hb, hml, hown, hts, -⟩ := id C
  unfold B_X1_onRings_12 at hJ
  refine lv_iload_n hx hb dX1_onRings_12 rfl (lv_at hl 2 rfl) ?_
  refine lv_aload_n hx hb dX1_onRings_13 rfl (lv_at hl 0 rfl) ?_
  refine fg_402 C w hk0 tw_3_15 dX1_onRings_14 ?_
  refine lv_icmp_ge (tgt := 41) hx hb dX1_onRings_17 (by decide) (fun c6 => ?_) (fun c6 => ?_)
  · have hJ := it_pos c6 hJ
    refine lv_iinc (v := x1 + (1 : Int32)) (lv' := [(1, .int (x1 + (1 : Int32))), (0, .ref t0), (2, .int x2)]) hx hb dX1_onRings_41 hl (k := 1) rfl rfl (by decide) rfl (fun ls hl => ?_)
    refine lv_goto (tgt := 2) hx hb dX1_onRings_44 (by decide) ?_
    exact i2 _ _ _ _ _ _ _ hJ hk0 w (lv_sub (l' := [(0, .ref t0), (1, .int (x1 + (1 : Int32)))]) hl [1, 0] rfl)
  · have hJ := it_neg c6 hJ
    refine lv_aload_n hx hb dX1_onRings_20 rfl (lv_at hl 0 rfl) ?_
    refine lv_iload_n hx hb dX1_onRings_21 rfl (lv_at hl 1 rfl) ?_
    refine lv_iload_n hx hb dX1_onRings_22 rfl (lv_at hl 2 rfl) ?_
    obtain ⟨⟨h7, r8⟩, e9, hJ⟩ := ob_some hJ
    refine jc_Vi (As := [.int x1, .int x2]) C w (cc_X1_isAhead N t0 h x1 x2 hk0 e9) (mo_X1_isAhead N t0 h x1 x2 e9) (mb_X1_onRings_26 N k2 k12 t0 _ _ _ _ m2 m12 hJ) hz2 hk0 (by decide) rfl (fs := fs4 h t0) rfl rfl ⟨tw_5_98, tw_5_95, tw_5_96, tw_5_97, tw_1_34⟩ cd_X1_isAhead ⟨by decide, by decide⟩ hl.1 (by first | exact Nat.le_of_ble_eq_true rfl | simp [rf_cat, cat_i, cat_l, cat_r]) rfl dX1_onRings_23 (fun H locs w1 => ?_)
    have hk10 := kd_keep w (mo_X1_isAhead N t0 h x1 x2 e9) hk0 (by decide)
    have w := w1
    exact sb_X1_onRings_26 C hz2 N k2 k12 t0 m2 m12 i2 i12 _ _ _ _ hJ hk10 w hl
def L_X1_onRings_12 (N : Nat) (k2 : Hp → Int32 → Option (Hp × Int32)) (t0 : Nat) : Nat → Hp → Int32 → Int32 → Option (Hp × Int32)
  | 0 => fun _ _ _ => none
  | n + 1 => fun h x1 x2 => B_X1_onRings_12 N k2 (L_X1_onRings_12 N k2 t0 n) t0 h x1 x2
theorem ml_X1_onRings_12 (N : Nat) (k2 : Hp → Int32 → Option (Hp × Int32)) (t0 : Nat) (m2 : ∀ (h : Hp) (x1 : Int32), k2 h x1 = some (hz, rz) → Mo h hz) : ∀ (n : Nat) (h : Hp) (x1 : Int32) (x2 : Int32), L_X1_onRings_12 N k2 t0 n h x1 x2 = some (hz, rz) → Mo h hz := by
  intro n
  induction n with
  | zero => intro h x1 x2 hJ; cases hJ
  | succ n ih => intro h x1 x2 hJ; exact mb_X1_onRings_12 N k2 (L_X1_onRings_12 N k2 t0 n) t0 h x1 x2 m2 ih hJ
theorem sl_X1_onRings_12 (C : Cx p s m args meth c cX1_onRings 3 (some .int) RX1 D cs A h0.se) (hz2 : hz.nx ≤ h0.nx + mc ∧ hz.su ≤ h0.su + ms) (N : Nat) (k2 : Hp → Int32 → Option (Hp × Int32)) (t0 : Nat) (m2 : ∀ (h : Hp) (x1 : Int32), k2 h x1 = some (hz, rz) → Mo h hz) (i2 : ∀ (h : Hp) (x1 : Int32) (H : Heap) (locs : List Loc) (cells slots : Nat) (ls : Array Slot), k2 h x1 = some (hz, rz) → h.kd t0 = 4 → Wo D cs A s h0 h H locs cells slots → lv_has ls 3 [(0, .ref t0), (1, .int x1)] → W p l e { frames := 1, cells := mc, slots := ms, locals := 30 } s m args below meth c H locs cells slots (MQ below (Zi D cs A hz rz) args s mc ms A) (F0 m 2 ls [])) : ∀ n : Nat, ∀ (h : Hp) (x1 : Int32) (x2 : Int32) (H : Heap) (locs : List Loc) (cells slots : Nat) (ls : Array Slot), L_X1_onRings_12 N k2 t0 n h x1 x2 = some (hz, rz) → h.kd t0 = 4 → Wo D cs A s h0 h H locs cells slots → lv_has ls 3 [(0, .ref t0), (1, .int x1), (2, .int x2)] → W p l e { frames := 1, cells := mc, slots := ms, locals := 30 } s m args below meth c H locs cells slots (MQ below (Zi D cs A hz rz) args s mc ms A) (F0 m 12 ls []) := by
  intro n
  induction n with
  | zero => intro h x1 x2 H locs cells slots ls hJ; cases hJ
  | succ n ih =>
    intro h x1 x2 H locs cells slots ls hJ hk0 w hl
    exact sb_X1_onRings_12 C hz2 N k2 (L_X1_onRings_12 N k2 t0 n) t0 m2 (ml_X1_onRings_12 N k2 t0 m2 n) i2 ih h x1 x2 hJ hk0 w hl
def B_X1_onRings_71 (N : Nat) (k51 : Hp → Int32 → Int32 → Option (Hp × Int32)) (t0 : Nat) (h : Hp) (x1 : Int32) (x2 : Int32) : Option (Hp × Int32) := k51 h x1 (x2 + (1 : Int32))
theorem mb_X1_onRings_71 (N : Nat) (k51 : Hp → Int32 → Int32 → Option (Hp × Int32)) (t0 : Nat) (h : Hp) (x1 : Int32) (x2 : Int32) (m51 : ∀ (h : Hp) (x1 : Int32) (x2 : Int32), k51 h x1 x2 = some (hz, rz) → Mo h hz) (hJ : B_X1_onRings_71 N k51 t0 h x1 x2 = some (hz, rz)) : Mo h hz := by
  unfold B_X1_onRings_71 at hJ
  exact m51 _ _ _ hJ
set_option maxRecDepth 100000 in
set_option maxHeartbeats 4000000 in
theorem sb_X1_onRings_71 (C : Cx p s m args meth c cX1_onRings 3 (some .int) RX1 D cs A h0.se) (hz2 : hz.nx ≤ h0.nx + mc ∧ hz.su ≤ h0.su + ms) (N : Nat) (k51 : Hp → Int32 → Int32 → Option (Hp × Int32)) (t0 : Nat) (m51 : ∀ (h : Hp) (x1 : Int32) (x2 : Int32), k51 h x1 x2 = some (hz, rz) → Mo h hz) (i51 : ∀ (h : Hp) (x1 : Int32) (x2 : Int32) (H : Heap) (locs : List Loc) (cells slots : Nat) (ls : Array Slot), k51 h x1 x2 = some (hz, rz) → h.kd t0 = 4 → Wo D cs A s h0 h H locs cells slots → lv_has ls 3 [(0, .ref t0), (1, .int x1), (2, .int x2)] → W p l e { frames := 1, cells := mc, slots := ms, locals := 30 } s m args below meth c H locs cells slots (MQ below (Zi D cs A hz rz) args s mc ms A) (F0 m 51 ls [])) (h : Hp) (x1 : Int32) (x2 : Int32) (hJ : B_X1_onRings_71 N k51 t0 h x1 x2 = some (hz, rz)) (hk0 : h.kd t0 = 4) {H : Heap} {locs : List Loc} {cells slots : Nat} (w : Wo D cs A s h0 h H locs cells slots) {ls : Array Slot} (hl : lv_has ls 3 [(0, .ref t0), (1, .int x1), (2, .int x2)]) : W p l e { frames := 1, cells := mc, slots := ms, locals := 30 } s m args below meth c H locs cells slots (MQ below (Zi D cs A hz rz) args s mc ms A) (F0 m 71 ls []) := by
  obtain ⟨hx, hb, hml, hown, hts, -⟩ := id C
  unfold B_X1_onRings_71 at hJ
  refine lv_iinc (v := x2 + (1 : Int32)) (lv' := [(2, .int (x2 + (1 : Int32))), (0, .ref t0), (1, .int x1)]) hx hb dX1_onRings_71 hl (k := 2) rfl rfl (by decide) rfl (fun ls hl => ?_)
  refine lv_goto (tgt := 51) hx hb dX1_onRings_74 (by decide) ?_
  exact i51 _ _ _ _ _ _ _ _ hJ hk0 w (lv_sub (l' := [(0, .ref t0), (1, .int x1), (2, .int (x2 + (1 : Int32)))]) hl [1, 2, 0] rfl)
def B_X1_onRings_65 (N : Nat) (k51 : Hp → Int32 → Int32 → Option (Hp × Int32)) (t0 : Nat) (h : Hp) (x1 : Int32) (x2 : Int32) (y0 : Int32) : Option (Hp × Int32) := if y0 = 0 then (B_X1_onRings_71 N k51 t0 h x1 x2) else (B_X1_onRings_71 N k51 t0 h (x1 + (1 : Int32)) x2)
theorem mb_X1_onRings_65 (N : Nat) (k51 : Hp → Int32 → Int32 → Option (Hp × Int32)) (t0 : Nat) (h : Hp) (x1 : Int32) (x2 : Int32) (y0 : Int32) (m51 : ∀ (h : Hp) (x1 : Int32) (x2 : Int32), k51 h x1 x2 = some (hz, rz) → Mo h hz) (hJ : B_X1_onRings_65 N k51 t0 h x1 x2 y0 = some (hz, rz)) : Mo h hz := by
  unfold B_X1_onRings_65 at hJ
  by_cases c11 : y0 = 0
  · have hJ := it_pos c11 hJ
    exact mb_X1_onRings_71 N k51 t0 _ _ _ m51 hJ
  · have hJ := it_neg c11 hJ
    exact mb_X1_onRings_71 N k51 t0 _ _ _ m51 hJ
set_option maxRecDepth 100000 in
set_option maxHeartbeats 4000000 in
theorem sb_X1_onRings_65 (C : Cx p s m args meth c cX1_onRings 3 (some .int) RX1 D cs A h0.se) (hz2 : hz.nx ≤ h0.nx + mc ∧ hz.su ≤ h0.su + ms) (N : Nat) (k51 : Hp → Int32 → Int32 → Option (Hp × Int32)) (t0 : Nat) (m51 : ∀ (h : Hp) (x1 : Int32) (x2 : Int32), k51 h x1 x2 = some (hz, rz) → Mo h hz) (i51 : ∀ (h : Hp) (x1 : Int32) (x2 : Int32) (H : Heap) (locs : List Loc) (cells slots : Nat) (ls : Array Slot), k51 h x1 x2 = some (hz, rz) → h.kd t0 = 4 → Wo D cs A s h0 h H locs cells slots → lv_has ls 3 [(0, .ref t0), (1, .int x1), (2, .int x2)] → W p l e { frames := 1, cells := mc, slots := ms, locals := 30 } s m args below meth c H locs cells slots (MQ below (Zi D cs A hz rz) args s mc ms A) (F0 m 51 ls [])) (h : Hp) (x1 : Int32) (x2 : Int32) (y0 : Int32) (hJ : B_X1_onRings_65 N k51 t0 h x1 x2 y0 = some (hz, rz)) (hk0 : h.kd t0 = 4) {H : Heap} {locs : List Loc} {cells slots : Nat} (w : Wo D cs A s h0 h H locs cells slots) {ls : Array Slot} (hl : lv_has ls 3 [(0, .ref t0), (1, .int x1), (2, .int x2)]) : W p l e { frames := 1, cells := mc, slots := ms, locals := 30 } s m args below meth c H locs cells slots (MQ below (Zi D cs A hz rz) args s mc ms A) (F0 m 65 ls [.int y0]) := by
  obtain ⟨hx, hb, hml, hown, hts, -⟩ := id C
  unfold B_X1_onRings_65 at hJ
  refine lv_if_eq (tgt := 71) hx hb dX1_onRings_65 (by decide) (fun c11 => ?_) (fun c11 => ?_)
  · have hJ := it_pos c11 hJ
    exact sb_X1_onRings_71 C hz2 N k51 t0 m51 i51 _ _ _ hJ hk0 w hl
  · have hJ := it_neg c11 hJ
    refine lv_iinc (v := x1 + (1 : Int32)) (lv' := [(1, .int (x1 + (1 : Int32))), (0, .ref t0), (2, .int x2)]) hx hb dX1_onRings_68 hl (k := 1) rfl rfl (by decide) rfl (fun ls hl => ?_)
    exact sb_X1_onRings_71 C hz2 N k51 t0 m51 i51 _ _ _ hJ hk0 w (lv_sub (l' := [(0, .ref t0), (1, .int (x1 + (1 : Int32))), (2, .int x2)]) hl [1, 0, 2] rfl)
def B_X1_onRings_51 (N : Nat) (k51 : Hp → Int32 → Int32 → Option (Hp × Int32)) (t0 : Nat) (h : Hp) (x1 : Int32) (x2 : Int32) : Option (Hp × Int32) := if (h.fi 402 t0) ≤ x2 then (some (h, x1)) else ((J_X1_isAhead N t0 h x2 x2).bind (fun z => B_X1_onRings_65 N k51 t0 z.1 x1 x2 z.2))
theorem mb_X1_onRings_51 (N : Nat) (k51 : Hp → Int32 → Int32 → Option (Hp × Int32)) (t0 : Nat) (h : Hp) (x1 : Int32) (x2 : Int32) (m51 : ∀ (h : Hp) (x1 : Int32) (x2 : Int32), k51 h x1 x2 = some (hz, rz) → Mo h hz) (hJ : B_X1_onRings_51 N k51 t0 h x1 x2 = some (hz, rz)) : Mo h hz := by
  unfold B_X1_onRings_51 at hJ
  by_cases c12 : (h.fi 402 t0) ≤ x2
  · have hJ := it_pos c12 hJ
    obtain ⟨rfl, -⟩ := rs2 hJ
    exact ⟨fun _ _ => rfl, Nat.le_refl _, Nat.le_refl _, rfl, fun _ _ => rfl⟩
  · have hJ := it_neg c12 hJ
    obtain ⟨⟨h13, r14⟩, e15, hJ⟩ := ob_some hJ
    exact (mo_X1_isAhead N t0 h x2 x2 e15).tr (mb_X1_onRings_65 N k51 t0 _ _ _ _ m51 hJ)
set_option maxRecDepth 100000 in
set_option maxHeartbeats 4000000 in
theorem sb_X1_onRings_51 (C : Cx p s m args meth c cX1_onRings 3 (some .int) RX1 D cs A h0.se) (hz2 : hz.nx ≤ h0.nx + mc ∧ hz.su ≤ h0.su + ms) (N : Nat) (k51 : Hp → Int32 → Int32 → Option (Hp × Int32)) (t0 : Nat) (m51 : ∀ (h : Hp) (x1 : Int32) (x2 : Int32), k51 h x1 x2 = some (hz, rz) → Mo h hz) (i51 : ∀ (h : Hp) (x1 : Int32) (x2 : Int32) (H : Heap) (locs : List Loc) (cells slots : Nat) (ls : Array Slot), k51 h x1 x2 = some (hz, rz) → h.kd t0 = 4 → Wo D cs A s h0 h H locs cells slots → lv_has ls 3 [(0, .ref t0), (1, .int x1), (2, .int x2)] → W p l e { frames := 1, cells := mc, slots := ms, locals := 30 } s m args below meth c H locs cells slots (MQ below (Zi D cs A hz rz) args s mc ms A) (F0 m 51 ls [])) (h : Hp) (x1 : Int32) (x2 : Int32) (hJ : B_X1_onRings_51 N k51 t0 h x1 x2 = some (hz, rz)) (hk0 : h.kd t0 = 4) {H : Heap} {locs : List Loc} {cells slots : Nat} (w : Wo D cs A s h0 h H locs cells slots) {ls : Array Slot} (hl : lv_has ls 3 [(0, .ref t0), (1, .int x1), (2, .int x2)]) : W p l e { frames := 1, cells := mc, slots := ms, locals := 30 } s m args below meth c H locs cells slots (MQ below (Zi D cs A hz rz) args s mc ms A) (F0 m 51 ls []) := by
  obtain ⟨hx, hb, hml, hown, hts, -⟩ := id C
  unfold B_X1_onRings_51 at hJ
  refine lv_iload_n hx hb dX1_onRings_51 rfl (lv_at hl 2 rfl) ?_
  refine lv_aload_n hx hb dX1_onRings_52 rfl (lv_at hl 0 rfl) ?_
  refine fg_402 C w hk0 tw_3_15 dX1_onRings_53 ?_
  refine lv_icmp_ge (tgt := 77) hx hb dX1_onRings_56 (by decide) (fun c12 => ?_) (fun c12 => ?_)
  · have hJ := it_pos c12 hJ
    refine lv_iload_n hx hb dX1_onRings_77 rfl (lv_at hl 1 rfl) ?_
    obtain ⟨rfl, rfl⟩ := rs2 hJ
    exact jr_iret C w hz2 dX1_onRings_78
  · have hJ := it_neg c12 hJ
    refine lv_aload_n hx hb dX1_onRings_59 rfl (lv_at hl 0 rfl) ?_
    refine lv_iload_n hx hb dX1_onRings_60 rfl (lv_at hl 2 rfl) ?_
    refine lv_iload_n hx hb dX1_onRings_61 rfl (lv_at hl 2 rfl) ?_
    obtain ⟨⟨h13, r14⟩, e15, hJ⟩ := ob_some hJ
    refine jc_Vi (As := [.int x2, .int x2]) C w (cc_X1_isAhead N t0 h x2 x2 hk0 e15) (mo_X1_isAhead N t0 h x2 x2 e15) (mb_X1_onRings_65 N k51 t0 _ _ _ _ m51 hJ) hz2 hk0 (by decide) rfl (fs := fs4 h t0) rfl rfl ⟨tw_5_98, tw_5_95, tw_5_96, tw_5_97, tw_1_34⟩ cd_X1_isAhead ⟨by decide, by decide⟩ hl.1 (by first | exact Nat.le_of_ble_eq_true rfl | simp [rf_cat, cat_i, cat_l, cat_r]) rfl dX1_onRings_62 (fun H locs w1 => ?_)
    have hk16 := kd_keep w (mo_X1_isAhead N t0 h x2 x2 e15) hk0 (by decide)
    have w := w1
    exact sb_X1_onRings_65 C hz2 N k51 t0 m51 i51 _ _ _ _ hJ hk16 w hl
def L_X1_onRings_51 (N : Nat) (t0 : Nat) : Nat → Hp → Int32 → Int32 → Option (Hp × Int32)
  | 0 => fun _ _ _ => none
  | n + 1 => fun h x1 x2 => B_X1_onRings_51 N (L_X1_onRings_51 N t0 n) t0 h x1 x2
theorem ml_X1_onRings_51 (N : Nat) (t0 : Nat) : ∀ (n : Nat) (h : Hp) (x1 : Int32) (x2 : Int32), L_X1_onRings_51 N t0 n h x1 x2 = some (hz, rz) → Mo h hz := by
  intro n
  induction n with
  | zero => intro h x1 x2 hJ; cases hJ
  | succ n ih => intro h x1 x2 hJ; exact mb_X1_onRings_51 N (L_X1_onRings_51 N t0 n) t0 h x1 x2 ih hJ
theorem sl_X1_onRings_51 (C : Cx p s m args meth c cX1_onRings 3 (some .int) RX1 D cs A h0.se) (hz2 : hz.nx ≤ h0.nx + mc ∧ hz.su ≤ h0.su + ms) (N : Nat) (t0 : Nat) : ∀ n : Nat, ∀ (h : Hp) (x1 : Int32) (x2 : Int32) (H : Heap) (locs : List Loc) (cells slots : Nat) (ls : Array Slot), L_X1_onRings_51 N t0 n h x1 x2 = some (hz, rz) → h.kd t0 = 4 → Wo D cs A s h0 h H locs cells slots → lv_has ls 3 [(0, .ref t0), (1, .int x1), (2, .int x2)] → W p l e { frames := 1, cells := mc, slots := ms, locals := 30 } s m args below meth c H locs cells slots (MQ below (Zi D cs A hz rz) args s mc ms A) (F0 m 51 ls []) := by
  intro n
  induction n with
  | zero => intro h x1 x2 H locs cells slots ls hJ; cases hJ
  | succ n ih =>
    intro h x1 x2 H locs cells slots ls hJ hk0 w hl
    exact sb_X1_onRings_51 C hz2 N (L_X1_onRings_51 N t0 n) t0 (ml_X1_onRings_51 N t0 n) ih h x1 x2 hJ hk0 w hl
def B_X1_onRings_2 (N : Nat) (k2 : Hp → Int32 → Option (Hp × Int32)) (t0 : Nat) (h : Hp) (x1 : Int32) : Option (Hp × Int32) := if (h.fi 402 t0) ≤ x1 then (L_X1_onRings_51 N t0 N h (0 : Int32) (0 : Int32)) else (L_X1_onRings_12 N k2 t0 N h x1 (0 : Int32))
theorem mb_X1_onRings_2 (N : Nat) (k2 : Hp → Int32 → Option (Hp × Int32)) (t0 : Nat) (h : Hp) (x1 : Int32) (m2 : ∀ (h : Hp) (x1 : Int32), k2 h x1 = some (hz, rz) → Mo h hz) (hJ : B_X1_onRings_2 N k2 t0 h x1 = some (hz, rz)) : Mo h hz := by
  unfold B_X1_onRings_2 at hJ
  by_cases c17 : (h.fi 402 t0) ≤ x1
  · have hJ := it_pos c17 hJ
    exact ml_X1_onRings_51 N t0 N _ _ _ hJ
  · have hJ := it_neg c17 hJ
    exact ml_X1_onRings_12 N k2 t0 m2 N _ _ _ hJ
set_option maxRecDepth 100000 in
set_option maxHeartbeats 4000000 in
theorem sb_X1_onRings_2 (C : Cx p s m args meth c cX1_onRings 3 (some .int) RX1 D cs A h0.se) (hz2 : hz.nx ≤ h0.nx + mc ∧ hz.su ≤ h0.su + ms) (N : Nat) (k2 : Hp → Int32 → Option (Hp × Int32)) (t0 : Nat) (m2 : ∀ (h : Hp) (x1 : Int32), k2 h x1 = some (hz, rz) → Mo h hz) (i2 : ∀ (h : Hp) (x1 : Int32) (H : Heap) (locs : List Loc) (cells slots : Nat) (ls : Array Slot), k2 h x1 = some (hz, rz) → h.kd t0 = 4 → Wo D cs A s h0 h H locs cells slots → lv_has ls 3 [(0, .ref t0), (1, .int x1)] → W p l e { frames := 1, cells := mc, slots := ms, locals := 30 } s m args below meth c H locs cells slots (MQ below (Zi D cs A hz rz) args s mc ms A) (F0 m 2 ls [])) (h : Hp) (x1 : Int32) (hJ : B_X1_onRings_2 N k2 t0 h x1 = some (hz, rz)) (hk0 : h.kd t0 = 4) {H : Heap} {locs : List Loc} {cells slots : Nat} (w : Wo D cs A s h0 h H locs cells slots) {ls : Array Slot} (hl : lv_has ls 3 [(0, .ref t0), (1, .int x1)]) : W p l e { frames := 1, cells := mc, slots := ms, locals := 30 } s m args below meth c H locs cells slots (MQ below (Zi D cs A hz rz) args s mc ms A) (F0 m 2 ls []) := by
  obtain ⟨hx, hb, hml, hown, hts, -⟩ := id C
  unfold B_X1_onRings_2 at hJ
  refine lv_iload_n hx hb dX1_onRings_2 rfl (lv_at hl 1 rfl) ?_
  refine lv_aload_n hx hb dX1_onRings_3 rfl (lv_at hl 0 rfl) ?_
  refine fg_402 C w hk0 tw_3_15 dX1_onRings_4 ?_
  refine lv_icmp_ge (tgt := 47) hx hb dX1_onRings_7 (by decide) (fun c17 => ?_) (fun c17 => ?_)
  · have hJ := it_pos c17 hJ
    refine lv_iconst (v := (0 : Int32)) hx hb dX1_onRings_47 (by decide) ?_
    refine lv_istore_n (i := 1) (lv' := [(1, .int (0 : Int32)), (0, .ref t0)]) hx hb dX1_onRings_48 rfl hl (by decide) rfl (fun ls hl => ?_)
    refine lv_iconst (v := (0 : Int32)) hx hb dX1_onRings_49 (by decide) ?_
    refine lv_istore_n (i := 2) (lv' := [(2, .int (0 : Int32)), (1, .int (0 : Int32)), (0, .ref t0)]) hx hb dX1_onRings_50 rfl hl (by decide) rfl (fun ls hl => ?_)
    exact sl_X1_onRings_51 C hz2 N t0 N _ _ _ _ _ _ _ _ hJ hk0 w (lv_sub (l' := [(0, .ref t0), (1, .int (0 : Int32)), (2, .int (0 : Int32))]) hl [2, 1, 0] rfl)
  · have hJ := it_neg c17 hJ
    refine lv_iconst (v := (0 : Int32)) hx hb dX1_onRings_10 (by decide) ?_
    refine lv_istore_n (i := 2) (lv' := [(2, .int (0 : Int32)), (0, .ref t0), (1, .int x1)]) hx hb dX1_onRings_11 rfl hl (by decide) rfl (fun ls hl => ?_)
    exact sl_X1_onRings_12 C hz2 N k2 t0 m2 i2 N _ _ _ _ _ _ _ _ hJ hk0 w (lv_sub (l' := [(0, .ref t0), (1, .int x1), (2, .int (0 : Int32))]) hl [1, 2, 0] rfl)
def L_X1_onRings_2 (N : Nat) (t0 : Nat) : Nat → Hp → Int32 → Option (Hp × Int32)
  | 0 => fun _ _ => none
  | n + 1 => fun h x1 => B_X1_onRings_2 N (L_X1_onRings_2 N t0 n) t0 h x1
theorem ml_X1_onRings_2 (N : Nat) (t0 : Nat) : ∀ (n : Nat) (h : Hp) (x1 : Int32), L_X1_onRings_2 N t0 n h x1 = some (hz, rz) → Mo h hz := by
  intro n
  induction n with
  | zero => intro h x1 hJ; cases hJ
  | succ n ih => intro h x1 hJ; exact mb_X1_onRings_2 N (L_X1_onRings_2 N t0 n) t0 h x1 ih hJ
theorem sl_X1_onRings_2 (C : Cx p s m args meth c cX1_onRings 3 (some .int) RX1 D cs A h0.se) (hz2 : hz.nx ≤ h0.nx + mc ∧ hz.su ≤ h0.su + ms) (N : Nat) (t0 : Nat) : ∀ n : Nat, ∀ (h : Hp) (x1 : Int32) (H : Heap) (locs : List Loc) (cells slots : Nat) (ls : Array Slot), L_X1_onRings_2 N t0 n h x1 = some (hz, rz) → h.kd t0 = 4 → Wo D cs A s h0 h H locs cells slots → lv_has ls 3 [(0, .ref t0), (1, .int x1)] → W p l e { frames := 1, cells := mc, slots := ms, locals := 30 } s m args below meth c H locs cells slots (MQ below (Zi D cs A hz rz) args s mc ms A) (F0 m 2 ls []) := by
  intro n
  induction n with
  | zero => intro h x1 H locs cells slots ls hJ; cases hJ
  | succ n ih =>
    intro h x1 H locs cells slots ls hJ hk0 w hl
    exact sb_X1_onRings_2 C hz2 N (L_X1_onRings_2 N t0 n) t0 (ml_X1_onRings_2 N t0 n) ih h x1 hJ hk0 w hl
def B_X1_onRings_0 (N : Nat) (t0 : Nat) (h : Hp) : Option (Hp × Int32) := L_X1_onRings_2 N t0 N h (0 : Int32)
theorem mb_X1_onRings_0 (N : Nat) (t0 : Nat) (h : Hp) (hJ : B_X1_onRings_0 N t0 h = some (hz, rz)) : Mo h hz := by
  unfold B_X1_onRings_0 at hJ
  exact ml_X1_onRings_2 N t0 N _ _ hJ
set_option maxRecDepth 100000 in
set_option maxHeartbeats 4000000 in
theorem sb_X1_onRings_0 (C : Cx p s m args meth c cX1_onRings 3 (some .int) RX1 D cs A h0.se) (hz2 : hz.nx ≤ h0.nx + mc ∧ hz.su ≤ h0.su + ms) (N : Nat) (t0 : Nat) (h : Hp) (hJ : B_X1_onRings_0 N t0 h = some (hz, rz)) (hk0 : h.kd t0 = 4) {H : Heap} {locs : List Loc} {cells slots : Nat} (w : Wo D cs A s h0 h H locs cells slots) {ls : Array Slot} (hl : lv_has ls 3 [(0, .ref t0)]) : W p l e { frames := 1, cells := mc, slots := ms, locals := 30 } s m args below meth c H locs cells slots (MQ below (Zi D cs A hz rz) args s mc ms A) (F0 m 0 ls []) := by
  obtain ⟨hx, hb, hml, hown, hts, -⟩ := id C
  unfold B_X1_onRings_0 at hJ
  refine lv_iconst (v := (0 : Int32)) hx hb dX1_onRings_0 (by decide) ?_
  refine lv_istore_n (i := 1) (lv' := [(1, .int (0 : Int32)), (0, .ref t0)]) hx hb dX1_onRings_1 rfl hl (by decide) rfl (fun ls hl => ?_)
  exact sl_X1_onRings_2 C hz2 N t0 N _ _ _ _ _ _ _ hJ hk0 w (lv_sub (l' := [(0, .ref t0), (1, .int (0 : Int32))]) hl [1, 0] rfl)
def J_X1_onRings (N : Nat) (t0 : Nat) (h : Hp) : Option (Hp × Int32) := B_X1_onRings_0 N t0 h
theorem mo_X1_onRings (N : Nat) (t0 : Nat) (h : Hp) (hJ : J_X1_onRings N t0 h = some (hz, rz)) : Mo h hz := mb_X1_onRings_0 N t0 h hJ
theorem cd_X1_onRings : Cd yX1_onRings 0 := ⟨by decide +kernel, by decide +kernel, by decide +kernel⟩
theorem cc_X1_onRings (N : Nat) (t0 : Nat) (h : Hp) (hk0 : h.kd t0 = 4) (hJ : J_X1_onRings N t0 h = some (hz, rz)) : Ci l yX1_onRings cX1_onRings 3 (some .int) 1 30 D cs h hz [.ref t0] rz := by
  intro mc ms g1 g2
  refine je_any (by decide) (by simp [lg_sl, rf_cat, cat_i, cat_l, cat_r]) ?_
  intro p e s m args below meth c C hin2 w ls hl
  have hl : lv_has ls 3 [(0, .ref t0)] := hl
  exact sb_X1_onRings_0 C ⟨g1, g2⟩ N t0 h hJ hk0 w hl
end G_X1_onRings
