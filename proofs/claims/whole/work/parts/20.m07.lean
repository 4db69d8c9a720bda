section G_X10_isFree
variable {p : Program} {l : Launch} {e : Env} {s : State} {m : MethodId} {args : Array Value} {below : List Frame} {meth : Method} {c : Code} {D : va_G} {cs : C4} {A : Nat → Prop} {h0 hz : Hp} {mc ms : Nat} {rz : Int32}
def B_X10_isFree_33 (N : Nat) (k2 : Hp → Int32 → Int32 → Option (Hp × Int32)) (t0 : Nat) (h : Hp) (x1 : Int32) (x2 : Int32) : Option (Hp × Int32) := k2 h x1 (x2 + (1 : Int32))
theorem mb_X10_isFree_33 (N : Nat) (k2 : Hp → Int32 → Int32 → Option (Hp × Int32)) (t0 : Nat) (h : Hp) (x1 : Int32) (x2 : Int32) (m2 : ∀ (h : Hp) (x1 : Int32) (x2 : Int32), k2 h x1 x2 = some (hz, rz) → Mo h hz) (hJ : B_X10_isFree_33 N k2 t0 h x1 x2 = some (hz, rz)) : Mo h hz := by
  unfold B_X10_isFree_33 at hJ
  exact m2 _ _ _ hJ
set_option maxRecDepth 100000 in
set_option maxHeartbeats 4000000 in
theorem sb_X10_isFree_33 (C : Cx p s m args meth c cX10_isFree 3 (some .boolean) RX10 D cs A h0.se) (hz2 : hz.nx ≤ h0.nx + mc ∧ hz.su ≤ h0.su + ms) (N : Nat) (k2 : Hp → Int32 → Int32 → Option (Hp × Int32)) (t0 : Nat) (m2 : ∀ (h : Hp) (x1 : Int32) (x2 : Int32), k2 h x1 x2 = some (hz, rz) → Mo h hz) (i2 : ∀ (h : Hp) (x1 : Int32) (x2 : Int32) (H : Heap) (locs : List Loc) (cells slots : Nat) (ls : Array Slot), k2 h x1 x2 = some (hz, rz) → h.kd t0 = 13 → Wo D cs A s h0 h H locs cells slots → lv_has ls 3 [(0, .ref t0), (1, .int x1), (2, .int x2)] → W p l e { frames := 1, cells := mc, slots := ms, locals := 30 } s m args below meth c H locs cells slots (MQ below (Zi D cs A hz rz) args s mc ms A) (F0 m 2 ls [])) (h : Hp) (x1 : Int32) (x2 : Int32) (hJ : B_X10_isFree_33 N k2 t0 h x1 x2 = some (hz, rz)) (hk0 : h.kd t0 = 13) {H : Heap} {locs : List Loc} {cells slots : Nat} (w : Wo D cs A s h0 h H locs cells slots) {ls : Array Slot} (hl : lv_has ls 3 [(0, .ref t0), (1, .int x1), (2, .int x2)]) : W p l e { frames := 1, cells := mc, slots := ms, locals := 30 } s m args below meth c H locs cells slots (MQ below (Zi D cs A hz rz) args s mc ms A) (F0 m 33 ls []) := by
  obtain ⟨hx, hb, hml, hown, hts, -⟩ := id C
  unfold B_X10_isFree_33 at hJ
  refine lv_iinc (v := x2 + (1 : Int32)) (lv' := [(2, .int (x2 + (1 : Int32))), (0, .ref t0), (1, .int x1)]) hx hb dX10_isFree_33 hl (k := 2) rfl rfl (by decide) rfl (fun ls hl => ?_)
  refine lv_goto (tgt := 2) hx hb dX10_isFree_36 (by decide) ?_
  exact i2 _ _ _ _ _ _ _ _ hJ hk0 w (lv_sub (l' := [(0, .ref t0), (1, .int x1), (2, .int (x2 + (1 : Int32)))]) hl [1, 2, 0] rfl)
def B_X10_isFree_28 (N : Nat) (k2 : Hp → Int32 → Int32 → Option (Hp × Int32)) (t0 : Nat) (h : Hp) (x1 : Int32) (x2 : Int32) (y0 : Int32) : Option (Hp × Int32) := if y0 = 0 then (B_X10_isFree_33 N k2 t0 h x1 x2) else (some (h, (0 : Int32)))
theorem mb_X10_isFree_28 (N : Nat) (k2 : Hp → Int32 → Int32 → Option (Hp × Int32)) (t0 : Nat) (h : Hp) (x1 : Int32) (x2 : Int32) (y0 : Int32) (m2 : ∀ (h : Hp) (x1 : Int32) (x2 : Int32), k2 h x1 x2 = some (hz, rz) → Mo h hz) (hJ : B_X10_isFree_28 N k2 t0 h x1 x2 y0 = some (hz, rz)) : Mo h hz := by
  unfold B_X10_isFree_28 at hJ
  by_cases c1 : y0 = 0
  · have hJ := it_pos c1 hJ
    exact mb_X10_isFree_33 N k2 t0 _ _ _ m2 hJ
  · have hJ := it_neg c1 hJ
    obtain ⟨rfl, -⟩ := rs2 hJ
    exact ⟨fun _ _ => rfl, Nat.le_refl _, Nat.le_refl _, rfl, fun _ _ => rfl⟩
set_option maxRecDepth 100000 in
set_option maxHeartbeats 4000000 in
theorem sb_X10_isFree_28 (C : Cx p s m args meth c cX10_isFree 3 (some .boolean) RX10 D cs A h0.se) (hz2 : hz.nx ≤ h0.nx + mc ∧ hz.su ≤ h0.su + ms) (N : Nat) (k2 : Hp → Int32 → Int32 → Option (Hp × Int32)) (t0 : Nat) (m2 : ∀ (h : Hp) (x1 : Int32) (x2 : Int32), k2 h x1 x2 = some (hz, rz) → Mo h hz) (i2 : ∀ (h : Hp) (x1 : Int32) (x2 : Int32) (H : Heap) (locs : List Loc) (cells slots : Nat) (ls : Array Slot), k2 h x1 x2 = some (hz, rz) → h.kd t0 = 13 → Wo D cs A s h0 h H locs cells slots → lv_has ls 3 [(0, .ref t0), (1, .int x1), (2, .int x2)] → W p l e { frames := 1, cells := mc, slots := ms, locals := 30 } s m args below meth c H locs cells slots (MQ below (Zi D cs A hz rz) args s mc ms A) (F0 m 2 ls [])) (h : Hp) (x1 : Int32) (x2 : Int32) (y0 : Int32) (hJ : B_X10_isFree_28 N k2 t0 h x1 x2 y0 = some (hz, rz)) (hk0 : h.kd t0 = 13) {H : Heap} {locs : List Loc} {cells slots : Nat} (w : Wo D cs A s h0 h H locs cells slots) {ls : Array Slot} (hl : lv_has ls 3 [(0, .ref t0), (1, .int x1), (2, .int x2)]) : W p l e { frames := 1, cells := mc, slots := ms, locals := 30 } s m args below meth c H locs cells slots (MQ below (Zi D cs A hz rz) args s mc ms A) (F0 m 28 ls [.int y0]) := by
  obtain ⟨hx, hb, hml, hown, hts, -⟩ := id C
  unfold B_X10_isFree_28 at hJ
  refine lv_if_eq (tgt := 33) hx hb dX10_isFree_28 (by decide) (fun c1 => ?_) (fun c1 => ?_)
  · have hJ := it_pos c1 hJ
    exact sb_X10_isFree_33 C hz2 N k2 t0 m2 i2 _ _ _ hJ hk0 w hl
  · have hJ := it_neg c1 hJ
    refine lv_iconst (v := (0 : Int32)) hx hb dX10_isFree_31 (by decide) ?_
    obtain ⟨rfl, rfl⟩ := rs2 hJ
    exact jr_zret C w (Or.inl rfl) hz2 dX10_isFree_32
def B_X10_isFree_2 (N : Nat) (k2 : Hp → Int32 → Int32 → Option (Hp × Int32)) (t0 : Nat) (h : Hp) (x1 : Int32) (x2 : Int32) : Option (Hp × Int32) := if (h.gi 1311 t0) < x2 then (some (h, (1 : Int32))) else (dr h 32 (h.gr 1366 t0) (fun a3 => ck (¬ (x2 < 0 ∨ h.al a3 ≤ x2.toNatClampNeg)) (if (h.bi a3 x2.toNatClampNeg) = 0 then ((J_X10_has N h (h.gr 1356 t0) x2 x1).bind (fun z => B_X10_isFree_28 N k2 t0 z.1 x1 x2 z.2)) else (B_X10_isFree_33 N k2 t0 h x1 x2))))
theorem mb_X10_isFree_2 (N : Nat) (k2 : Hp → Int32 → Int32 → Option (Hp × Int32)) (t0 : Nat) (h : Hp) (x1 : Int32) (x2 : Int32) (m2 : ∀ (h : Hp) (x1 : Int32) (x2 : Int32), k2 h x1 x2 = some (hz, rz) → Mo h hz) (hJ : B_X10_isFree_2 N k2 t0 h x1 x2 = some (hz, rz)) : Mo h hz := by
  unfold B_X10_isFree_2 at hJ
  by_cases c2 : (h.gi 1311 t0) < x2
  · have hJ := it_pos c2 hJ
    obtain ⟨rfl, -⟩ := rs2 hJ
    exact ⟨fun _ _ => rfl, Nat.le_refl _, Nat.le_refl _, rfl, fun _ _ => rfl⟩
  · have hJ := it_neg c2 hJ
    obtain ⟨a3, ea3, -, hJ⟩ := dr_some hJ
    obtain ⟨-, hJ⟩ := ck_some hJ
    by_cases c5 : (h.bi a3 x2.toNatClampNeg) = 0
    · have hJ := it_pos c5 hJ
      obtain ⟨⟨h6, r7⟩, e8, hJ⟩ := ob_some hJ
      exact (mo_X10_has N h (h.gr 1356 t0) x2 x1 e8).tr (mb_X10_isFree_28 N k2 t0 _ _ _ _ m2 hJ)
    · have hJ := it_neg c5 hJ
      exact mb_X10_isFree_33 N k2 t0 _ _ _ m2 hJ
set_option maxRecDepth 100000 in
set_option maxHeartbeats 4000000 in
theorem sb_X10_isFree_2 (C : Cx p s m args meth c cX10_isFree 3 (some .boolean) RX10 D cs A h0.se) (hz2 : hz.nx ≤ h0.nx + mc ∧ hz.su ≤ h0.su + ms) (N : Nat) (k2 : Hp → Int32 → Int32 → Option (Hp × Int32)) (t0 : Nat) (m2 : ∀ (h : Hp) (x1 : Int32) (x2 : Int32), k2 h x1 x2 = some (hz, rz) → Mo h hz) (i2 : ∀ (h : Hp) (x1 : Int32) (x2 : Int32) (H : Heap) (locs : List Loc) (cells slots : Nat) (ls : Array Slot), k2 h x1 x2 = some (hz, rz) → h.kd t0 = 13 → Wo D cs A s h0 h H locs cells slots → lv_has ls 3 [(0, .ref t0), (1, .int x1), (2, .int x2)] → W p l e { frames := 1, cells := mc, slots := ms, locals := 30 } s m args below meth c H locs cells slots (MQ below (Zi D cs A hz rz) args s mc ms A) (F0 m 2 ls [])) (h : Hp) (x1 : Int32) (x2 : Int32) (hJ : B_X10_isFree_2 N k2 t0 h x1 x2 = some (hz, rz)) (hk0 : h.kd t0 = 13) {H : Heap} {locs : List Loc} {cells slots : Nat} (w : Wo D cs A s h0 h H locs cells slots) {ls : Array Slot} (hl : lv_has ls 3 [(0, .ref t0), (1, .int x1), (2, .int x2)]) : W p l e { frames := 1, cells := mc, slots := ms, locals := 30 } s m args below meth c H locs cells slots (MQ below (Zi D cs A hz rz) args s mc ms A) (F0 m 2 ls []) := by
  obtain ⟨hx, hb, hml, hown, hts, -⟩ := id C
  unfold B_X10_isFree_2 at hJ
  refine lv_iload_n hx hb dX10_isFree_2 rfl (lv_at hl 2 rfl) ?_
  refine lv_aload_n hx hb dX10_isFree_3 rfl (lv_at hl 0 rfl) ?_
  refine fg_1311 C w hk0 tw_6_174 dX10_isFree_4 ?_
  refine lv_icmp_gt (tgt := 39) hx hb dX10_isFree_7 (by decide) (fun c2 => ?_) (fun c2 => ?_)
  · have hJ := it_pos c2 hJ
    refine lv_iconst (v := (1 : Int32)) hx hb dX10_isFree_39 (by decide) ?_
    obtain ⟨rfl, rfl⟩ := rs2 hJ
    exact jr_zret C w (Or.inr rfl) hz2 dX10_isFree_40
  · have hJ := it_neg c2 hJ
    refine lv_aload_n hx hb dX10_isFree_10 rfl (lv_at hl 0 rfl) ?_
    refine fg_1366 C w hk0 tw_6_229 dX10_isFree_11 ?_
    refine lv_iload_n hx hb dX10_isFree_14 rfl (lv_at hl 2 rfl) ?_
    obtain ⟨a3, ea3, hka3, hJ⟩ := dr_some hJ
    rw [ea3]
    obtain ⟨hi4, hJ⟩ := ck_some hJ
    refine jr_zaldM C w hka3 hi4 dX10_isFree_15 ?_
    refine lv_if_ne (tgt := 33) hx hb dX10_isFree_16 (by decide) (fun c5 => ?_) (fun c5 => ?_)
    · have hJ := it_neg c5 hJ
      exact sb_X10_isFree_33 C hz2 N k2 t0 m2 i2 _ _ _ hJ hk0 w hl
    · have hJ := it_pos c5 hJ
      refine lv_aload_n hx hb dX10_isFree_19 rfl (lv_at hl 0 rfl) ?_
      refine fg_1356 C w hk0 tw_6_219 dX10_isFree_20 ?_
      refine lv_iload_n hx hb dX10_isFree_23 rfl (lv_at hl 2 rfl) ?_
      refine lv_iload_n hx hb dX10_isFree_24 rfl (lv_at hl 1 rfl) ?_
      obtain ⟨⟨h6, r7⟩, e8, hJ⟩ := ob_some hJ
      refine jc_Si (As := [va_rf (h.gr 1356 t0), .int x2, .int x1]) C w (cc_X10_has N h (h.gr 1356 t0) x2 x1 e8) (mo_X10_has N h (h.gr 1356 t0) x2 x1 e8) (mb_X10_isFree_28 N k2 t0 _ _ _ _ m2 hJ) hz2 ⟨tw_8_131, tw_8_129, tw_8_130, tw_1_7⟩ cd_X10_has ⟨by decide, by decide⟩ hl.1 (by first | exact Nat.le_of_ble_eq_true rfl | simp [rf_cat, cat_i, cat_l, cat_r]) rfl dX10_isFree_25 (fun H locs w1 => ?_)
      have hk9 := kd_keep w (mo_X10_has N h (h.gr 1356 t0) x2 x1 e8) hk0 (by decide)
      have w := w1
      exact sb_X10_isFree_28 C hz2 N k2 t0 m2 i2 _ _ _ _ hJ hk9 w hl
def L_X10_isFree_2 (N : Nat) (t0 : Nat) : Nat → Hp → Int32 → Int32 → Option (Hp × Int32)
  | 0 => fun _ _ _ => none
  | n + 1 => fun h x1 x2 => B_X10_isFree_2 N (L_X10_isFree_2 N t0 n) t0 h x1 x2
theorem ml_X10_isFree_2 (N : Nat) (t0 : Nat) : ∀ (n : Nat) (h : Hp) (x1 : Int32) (x2 : Int32), L_X10_isFree_2 N t0 n h x1 x2 = some (hz, rz) → Mo h hz := by
  intro n
  induction n with
  | zero => intro h x1 x2 hJ; cases hJ
  | succ n ih => intro h x1 x2 hJ; exact mb_X10_isFree_2 N (L_X10_isFree_2 N t0 n) t0 h x1 x2 ih hJ
theorem sl_X10_isFree_2 (C : Cx p s m args meth c cX10_isFree 3 (some .boolean) RX10 D cs A h0.se) (hz2 : hz.nx ≤ h0.nx + mc ∧ hz.su ≤ h0.su + ms) (N : Nat) (t0 : Nat) : ∀ n : Nat, ∀ (h : Hp) (x1 : Int32) (x2 : Int32) (H : Heap) (locs : List Loc) (cells slots : Nat) (ls : Array Slot), L_X10_isFree_2 N t0 n h x1 x2 = some (hz, rz) → h.kd t0 = 13 → Wo D cs A s h0 h H locs cells slots → lv_has ls 3 [(0, .ref t0), (1, .int x1), (2, .int x2)] → W p l e { frames := 1, cells := mc, slots := ms, locals := 30 } s m args below meth c H locs cells slots (MQ below (Zi D cs A hz rz) args s mc ms A) (F0 m 2 ls []) := by
  intro n
  induction n with
  | zero => intro h x1 x2 H locs cells slots ls hJ; cases hJ
  | succ n ih =>
    intro h x1 x2 H locs cells slots ls hJ hk0 w hl
    exact sb_X10_isFree_2 C hz2 N (L_X10_isFree_2 N t0 n) t0 (ml_X10_isFree_2 N t0 n) ih h x1 x2 hJ hk0 w hl
def B_X10_isFree_0 (N : Nat) (t0 : Nat) (h : Hp) (x1 : Int32) : Option (Hp × Int32) := L_X10_isFree_2 N t0 N h x1 (1 : Int32)
theorem mb_X10_isFree_0 (N : Nat) (t0 : Nat) (h : Hp) (x1 : Int32) (hJ : B_X10_isFree_0 N t0 h x1 = some (hz, rz)) : Mo h hz := by
  unfold B_X10_isFree_0 at hJ
  exact ml_X10_isFree_2 N t0 N _ _ _ hJ
set_option maxRecDepth 100000 in
set_option maxHeartbeats 4000000 in
theorem sb_X10_isFree_0 (C : Cx p s m args meth c cX10_isFree 3 (some .boolean) RX10 D cs A h0.se) (hz2 : hz.nx ≤ h0.nx + mc ∧ hz.su ≤ h0.su + ms) (N : Nat) (t0 : Nat) (h : Hp) (x1 : Int32) (hJ : B_X10_isFree_0 N t0 h x1 = some (hz, rz)) (hk0 : h.kd t0 = 13) {H : Heap} {locs : List Loc} {cells slots : Nat} (w : Wo D cs A s h0 h H locs cells slots) {ls : Array Slot} (hl : lv_has ls 3 [(0, .ref t0), (1, .int x1)]) : W p l e { frames := 1, cells := mc, slots := ms, locals := 30 } s m args below meth c H locs cells slots (MQ below (Zi D cs A hz rz) args s mc ms A) (F0 m 0 ls []) := by
  obtain ⟨hx, hb, hml, hown, hts, -⟩ := id C
  unfold B_X10_isFree_0 at hJ
  refine lv_iconst (v := (1 : Int32)) hx hb dX10_isFree_0 (by decide) ?_
  refine lv_istore_n (i := 2) (lv' := [(2, .int (1 : Int32)), (0, .ref t0), (1, .int x1)]) hx hb dX10_isFree_1 rfl hl (by decide) rfl (fun ls hl => ?_)
  exact sl_X10_isFree_2 C hz2 N t0 N _ _ _ _ _ _ _ _ hJ hk0 w (lv_sub (l' := [(0, .ref t0), (1, .int x1), (2, .int (1 : Int32))]) hl [1, 2, 0] rfl)
def J_X10_isFree (N : Nat) (t0 : Nat) (h : Hp) (x1 : Int32) : Option (Hp × Int32) := B_X10_isFree_0 N t0 h x1
theorem mo_X10_isFree (N : Nat) (t0 : Nat) (h : Hp) (x1 : Int32) (hJ : J_X10_isFree N t0 h x1 = some (hz, rz)) : Mo h hz := mb_X10_isFree_0 N t0 h x1 hJ
theorem cd_X10_isFree : Cd yX10_isFree 1 := ⟨by decide +kernel, by decide +kernel, by decide +kernel⟩
theorem cc_X10_isFree (N : Nat) (t0 : Nat) (h : Hp) (x1 : Int32) (hk0 : h.kd t0 = 13) (hJ : J_X10_isFree N t0 h x1 = some (hz, rz)) : Ci l yX10_isFree cX10_isFree 3 (some .boolean) 1 30 D cs h hz [.ref t0, .int x1] rz := by
  intro mc ms g1 g2
  refine je_any (by decide) (by simp [lg_sl, rf_cat, cat_i, cat_l, cat_r]) ?_
  intro p e s m args below meth c C hin2 w ls hl
  have hl : lv_has ls 3 [(0, .ref t0), (1, .int x1)] := hl
  exact sb_X10_isFree_0 C ⟨g1, g2⟩ N t0 h x1 hJ hk0 w hl
end G_X10_isFree
section G_X10_onRings
variable {p : Program} {l : Launch} {e : Env} {s : State} {m : MethodId} {args : Array Value} {below : List Frame} {meth : Method} {c : Code} {D : va_G} {cs : C4} {A : Nat → Prop} {h0 hz : Hp} {mc ms : Nat} {rz : Int32}
def B_X10_onRings_103 (N : Nat) (k31 : Hp → Int32 → Option (Hp × Int32)) (k41 : Hp → Int32 → Int32 → Option (Hp × Int32)) (t0 : Nat) (h : Hp) (x1 : Int32) (x2 : Int32) : Option (Hp × Int32) := k41 h x1 (x2 + (1 : Int32))
theorem mb_X10_onRings_103 (N : Nat) (k31 : Hp → Int32 → Option (Hp × Int32)) (k41 : Hp → Int32 → Int32 → Option (Hp × Int32)) (t0 : Nat) (h : Hp) (x1 : Int32) (x2 : Int32) (m31 : ∀ (h : Hp) (x1 : Int32), k31 h x1 = some (hz, rz) → Mo h hz) (m41 : ∀ (h : Hp) (x1 : Int32) (x2 : Int32), k41 h x1 x2 = some (hz, rz) → Mo h hz) (hJ : B_X10_onRings_103 N k31 k41 t0 h x1 x2 = some (hz, rz)) : Mo h hz := by
  unfold B_X10_onRings_103 at hJ
  exact m41 _ _ _ hJ
set_option maxRecDepth 100000 in
set_option maxHeartbeats 4000000 in
theorem sb_X10_onRings_103 (C : Cx p s m args meth c cX10_onRings 4 (some .int) RX10 D cs A h0.se) (hz2 : hz.nx ≤ h0.nx + mc ∧ hz.su ≤ h0.su + ms) (N : Nat) (k31 : Hp → Int32 → Option (Hp × Int32)) (k41 : Hp → Int32 → Int32 → Option (Hp × Int32)) (t0 : Nat) (m31 : ∀ (h : Hp) (x1 : Int32), k31 h x1 = some (hz, rz) → Mo h hz) (m41 : ∀ (h : Hp) (x1 : Int32) (x2 : Int32), k41 h x1 x2 = some (hz, rz) → Mo h hz) (i31 : ∀ (h : Hp) (x1 : Int32) (H : Heap) (locs : List Loc) (cells slots : Nat) (ls : Array Slot), k31 h x1 = some (hz, rz) → h.kd t0 = 13 → Wo D cs A s h0 h H locs cells slots → lv_has ls 4 [(0, .ref t0), (1, .int x1)] → W p l e { frames := 1, cells := mc, slots := ms, locals := 30 } s m args below meth c H locs cells slots (MQ below (Zi D cs A hz rz) args s mc ms A) (F0 m 31 ls [])) (i41 : ∀ (h : Hp) (x1 : Int32) (x2 : Int32) (H : Heap) (locs : List Loc) (cells slots : Nat) (ls : Array Slot), k41 h x1 x2 = some (hz, rz) → h.kd t0 = 13 → Wo D cs A s h0 h H locs cells slots → lv_has ls 4 [(0, .ref t0), (1, .int x1), (2, .int x2)] → W p l e { frames := 1, cells := mc, slots := ms, locals := 30 } s m args below meth c H locs cells slots (MQ below (Zi D cs A hz rz) args s mc ms A) (F0 m 41 ls [])) (h : Hp) (x1 : Int32) (x2 : Int32) (hJ : B_X10_onRings_103 N k31 k41 t0 h x1 x2 = some (hz, rz)) (hk0 : h.kd t0 = 13) {H : Heap} {locs : List Loc} {cells slots : Nat} (w : Wo D cs A s h0 h H locs cells slots) {ls : Array Slot} (hl : lv_has ls 4 [(0, .ref t0), (1, .int x1), (2, .int x2)]) : W p l e { frames := 1, cells := mc, slots := ms, locals := 30 } s m args below meth c H locs cells slots (MQ below (Zi D cs A hz rz) args s mc ms A) (F0 m 103 ls []) := by
  obtain ⟨hx, hb, hml, hown, hts, -⟩ := id C
  unfold B_X10_onRings_103 at hJ
  refine lv_iinc (v := x2 + (1 : Int32)) (lv' := [(2, .int (x2 + (1 : Int32))), (0, .ref t0), (1, .int x1)]) hx hb dX10_onRings_103 hl (k := 2) rfl rfl (by decide) rfl (fun ls hl => ?_)
  refine lv_goto (tgt := 41) hx hb dX10_onRings_106 (by decide) ?_
  exact i41 _ _ _ _ _ _ _ _ hJ hk0 w (lv_sub (l' := [(0, .ref t0), (1, .int x1), (2, .int (x2 + (1 : Int32)))]) hl [1, 2, 0] rfl)
def B_X10_onRings_66 (N : Nat) (k31 : Hp → Int32 → Option (Hp × Int32)) (k41 : Hp → Int32 → Int32 → Option (Hp × Int32)) (k66 : Hp → Int32 → Int32 → Int32 → Option (Hp × Int32)) (t0 : Nat) (h : Hp) (x1 : Int32) (x2 : Int32) (x3 : Int32) : Option (Hp × Int32) := if (9 : Int32) ≤ x3 then (B_X10_onRings_103 N k31 k41 t0 h x1 x2) else (dr h 31 (h.gr 1357 t0) (fun a2 => ck (¬ (((9 : Int32) * x2) + x3 < 0 ∨ h.al a2 ≤ (((9 : Int32) * x2) + x3).toNatClampNeg)) (dr h 31 (h.gr 1357 t0) (fun a4 => ck (¬ (((9 : Int32) * x1) + x3 < 0 ∨ h.al a4 ≤ (((9 : Int32) * x1) + x3).toNatClampNeg)) (ck (¬ (((9 : Int32) * x2) + x3 < 0 ∨ h.al a2 ≤ (((9 : Int32) * x2) + x3).toNatClampNeg)) (k66 (h.sbw a2 (((9 : Int32) * x2) + x3).toNatClampNeg ((h.bw a2 (((9 : Int32) * x2) + x3).toNatClampNeg) ||| (h.bw a4 (((9 : Int32) * x1) + x3).toNatClampNeg))) x1 x2 (x3 + (1 : Int32))))))))
theorem mb_X10_onRings_66 (N : Nat) (k31 : Hp → Int32 → Option (Hp × Int32)) (k41 : Hp → Int32 → Int32 → Option (Hp × Int32)) (k66 : Hp → Int32 → Int32 → Int32 → Option (Hp × Int32)) (t0 : Nat) (h : Hp) (x1 : Int32) (x2 : Int32) (x3 : Int32) (m31 : ∀ (h : Hp) (x1 : Int32), k31 h x1 = some (hz, rz) → Mo h hz) (m41 : ∀ (h : Hp) (x1 : Int32) (x2 : Int32), k41 h x1 x2 = some (hz, rz) → Mo h hz) (m66 : ∀ (h : Hp) (x1 : Int32) (x2 : Int32) (x3 : Int32), k66 h x1 x2 x3 = some (hz, rz) → Mo h hz) (hJ : B_X10_onRings_66 N k31 k41 k66 t0 h x1 x2 x3 = some (hz, rz)) : Mo h hz := by
  unfold B_X10_onRings_66 at hJ
  by_cases c1 : (9 : Int32) ≤ x3
  · have hJ := it_pos c1 hJ
    exact mb_X10_onRings_103 N k31 k41 t0 _ _ _ m31 m41 hJ
  · have hJ := it_neg c1 hJ
    obtain ⟨a2, ea2, -, hJ⟩ := dr_some hJ
    obtain ⟨-, hJ⟩ := ck_some hJ
    obtain ⟨a4, ea4, -, hJ⟩ := dr_some hJ
    obtain ⟨-, hJ⟩ := ck_some hJ
    obtain ⟨-, hJ⟩ := ck_some hJ
    exact (Mo.tr (show Mo h (h.sbw a2 (((9 : Int32) * x2) + x3).toNatClampNeg ((h.bw a2 (((9 : Int32) * x2) + x3).toNatClampNeg) ||| (h.bw a4 (((9 : Int32) * x1) + x3).toNatClampNeg))) from ⟨fun _ _ => rfl, Nat.le_refl _, Nat.le_refl _, rfl, fun _ _ => rfl⟩) (m66 _ _ _ _ hJ))
set_option maxRecDepth 100000 in
set_option maxHeartbeats 4000000 in
theorem sb_X10_onRings_66 (C : Cx p s m args meth c cX10_onRings 4 (some .int) RX10 D cs A h0.se) (hz2 : hz.nx ≤ h0.nx + mc ∧ hz.su ≤ h0.su + ms) (N : Nat) (k31 : Hp → Int32 → Option (Hp × Int32)) (k41 : Hp → Int32 → Int32 → Option (Hp × Int32)) (k66 : Hp → Int32 → Int32 → Int32 → Option (Hp × Int32)) (t0 : Nat) (m31 : ∀ (h : Hp) (x1 : Int32), k31 h x1 = some (hz, rz) → Mo h hz) (m41 : ∀ (h : Hp) (x1 : Int32) (x2 : Int32), k41 h x1 x2 = some (hz, rz) → Mo h hz) (m66 : ∀ (h : Hp) (x1 : Int32) (x2 : Int32) (x3 : Int32), k66 h x1 x2 x3 = some (hz, rz) → Mo h hz) (i31 : ∀ (h : Hp) (x1 : Int32) (H : Heap) (locs : List Loc) (cells slots : Nat) (ls : Array Slot), k31 h x1 = some (hz, rz) → h.kd t0 = 13 → Wo D cs A s h0 h H locs cells slots → lv_has ls 4 [(0, .ref t0), (1, .int x1)] → W p l e { frames := 1, cells := mc, slots := ms, locals := 30 } s m args below meth c H locs cells slots (MQ below (Zi D cs A hz rz) args s mc ms A) (F0 m 31 ls [])) (i41 : ∀ (h : Hp) (x1 : Int32) (x2 : Int32) (H : Heap) (locs : List Loc) (cells slots : Nat) (ls : Array Slot), k41 h x1 x2 = some (hz, rz) → h.kd t0 = 13 → Wo D cs A s h0 h H locs cells slots → lv_has ls 4 [(0, .ref t0), (1, .int x1), (2, .int x2)] → W p l e { frames := 1, cells := mc, slots := ms, locals := 30 } s m args below meth c H locs cells slots (MQ below (Zi D cs A hz rz) args s mc ms A) (F0 m 41 ls [])) (i66 : ∀ (h : Hp) (x1 : Int32) (x2 : Int32) (x3 : Int32) (H : Heap) (locs : List Loc) (cells slots : Nat) (ls : Array Slot), k66 h x1 x2 x3 = some (hz, rz) → h.kd t0 = 13 → Wo D cs A s h0 h H locs cells slots → lv_has ls 4 [(0, .ref t0), (1, .int x1), (2, .int x2), (3, .int x3)] → W p l e { frames := 1, cells := mc, slots := ms, locals := 30 } s m args below meth c H locs cells slots (MQ below (Zi D cs A hz rz) args s mc ms A) (F0 m 66 ls [])) (h : Hp) (x1 : Int32) (x2 : Int32) (x3 : Int32) (hJ : B_X10_onRings_66 N k31 k41 k66 t0 h x1 x2 x3 = some (hz, rz)) (hk0 : h.kd t0 = 13) {H : Heap} {locs : List Loc} {cells slots : Nat} (w : Wo D cs A s h0 h H locs cells slots) {ls : Array Slot} (hl : lv_has ls 4 [(0, .ref t0), (1, .int x1), (2, .int x2), (3, .int x3)]) : W p l e { frames := 1, cells := mc, slots := ms, locals := 30 } s m args below meth c H locs cells slots (MQ below (Zi D cs A hz rz) args s mc ms A) (F0 m 66 ls []) := by
  obtain ⟨hx, hb, hml, hown, hts, -⟩ := id C
  unfold B_X10_onRings_66 at hJ
  refine lv_iload_n hx hb dX10_onRings_66 rfl (lv_at hl 3 rfl) ?_
  refine lv_bipush (v := (9 : Int32)) hx hb dX10_onRings_67 (by decide) ?_
  refine lv_icmp_ge (tgt := 103) hx hb dX10_onRings_69 (by decide) (fun c1 => ?_) (fun c1 => ?_)
  · have hJ := it_pos c1 hJ
    exact sb_X10_onRings_103 C hz2 N k31 k41 t0 m31 m41 i31 i41 _ _ _ hJ hk0 w (lv_sub (l' := [(0, .ref t0), (1, .int x1), (2, .int x2)]) hl [0, 1, 2] rfl)
  · have hJ := it_neg c1 hJ
    refine lv_aload_n hx hb dX10_onRings_72 rfl (lv_at hl 0 rfl) ?_
    refine fg_1357 C w hk0 tw_6_220 dX10_onRings_73 ?_
    refine lv_bipush (v := (9 : Int32)) hx hb dX10_onRings_76 (by decide) ?_
    refine lv_iload_n hx hb dX10_onRings_78 rfl (lv_at hl 2 rfl) ?_
    refine lv_imul hx hb dX10_onRings_79 ?_
    refine lv_iload_n hx hb dX10_onRings_80 rfl (lv_at hl 3 rfl) ?_
    refine lv_iadd hx hb dX10_onRings_81 ?_
    refine lv_dup2_11 hx hb dX10_onRings_82 rfl (rf_cat _) ?_
    obtain ⟨a2, ea2, hka2, hJ⟩ := dr_some hJ
    rw [ea2]
    obtain ⟨hi3, hJ⟩ := ck_some hJ
    refine jr_laldM C w hka2 hi3 dX10_onRings_83 ?_
    refine lv_aload_n hx hb dX10_onRings_84 rfl (lv_at hl 0 rfl) ?_
    refine fg_1357 C w hk0 tw_6_220 dX10_onRings_85 ?_
    refine lv_bipush (v := (9 : Int32)) hx hb dX10_onRings_88 (by decide) ?_
    refine lv_iload_n hx hb dX10_onRings_90 rfl (lv_at hl 1 rfl) ?_
    refine lv_imul hx hb dX10_onRings_91 ?_
    refine lv_iload_n hx hb dX10_onRings_92 rfl (lv_at hl 3 rfl) ?_
    refine lv_iadd hx hb dX10_onRings_93 ?_
    obtain ⟨a4, ea4, hka4, hJ⟩ := dr_some hJ
    rw [ea4]
    obtain ⟨hi5, hJ⟩ := ck_some hJ
    refine jr_laldM C w hka4 hi5 dX10_onRings_94 ?_
    refine lv_lor hx hb dX10_onRings_95 ?_
    obtain ⟨hi6, hJ⟩ := ck_some hJ
    refine jr_lastM C w hka2 hi6 dX10_onRings_96 (fun H locs w => ?_)
    refine lv_iinc (v := x3 + (1 : Int32)) (lv' := [(3, .int (x3 + (1 : Int32))), (0, .ref t0), (1, .int x1), (2, .int x2)]) hx hb dX10_onRings_97 hl (k := 3) rfl rfl (by decide) rfl (fun ls hl => ?_)
    refine lv_goto (tgt := 66) hx hb dX10_onRings_100 (by decide) ?_
    exact i66 _ _ _ _ _ _ _ _ _ hJ hk0 w (lv_sub (l' := [(0, .ref t0), (1, .int x1), (2, .int x2), (3, .int (x3 + (1 : Int32)))]) hl [1, 2, 3, 0] rfl)
def L_X10_onRings_66 (N : Nat) (k31 : Hp → Int32 → Option (Hp × Int32)) (k41 : Hp → Int32 → Int32 → Option (Hp × Int32)) (t0 : Nat) : Nat → Hp → Int32 → Int32 → Int32 → Option (Hp × Int32)
  | 0 => fun _ _ _ _ => none
  | n + 1 => fun h x1 x2 x3 => B_X10_onRings_66 N k31 k41 (L_X10_onRings_66 N k31 k41 t0 n) t0 h x1 x2 x3
theorem ml_X10_onRings_66 (N : Nat) (k31 : Hp → Int32 → Option (Hp × Int32)) (k41 : Hp → Int32 → Int32 → Option (Hp × Int32)) (t0 : Nat) (m31 : ∀ (h : Hp) (x1 : Int32), k31 h x1 = some (hz, rz) → Mo h hz) (m41 : ∀ (h : Hp) (x1 : Int32) (x2 : Int32), k41 h x1 x2 = some (hz, rz) → Mo h hz) : ∀ (n : Nat) (h : Hp) (x1 : Int32) (x2 : Int32) (x3 : Int32), L_X10_onRings_66 N k31 k41 t0 n h x1 x2 x3 = some (hz, rz) → Mo h hz := by
  intro n
  induction n with
  | zero => intro h x1 x2 x3 hJ; cases hJ
  | succ n ih => intro h x1 x2 x3 hJ; exact mb_X10_onRings_66 N k31 k41 (L_X10_onRings_66 N k31 k41 t0 n) t0 h x1 x2 x3 m31 m41 ih hJ
theorem sl_X10_onRings_66 (C : Cx p s m args meth c cX10_onRings 4 (some .int) RX10 D cs A h0.se) (hz2 : hz.nx ≤ h0.nx + mc ∧ hz.su ≤ h0.su + ms) (N : Nat) (k31 : Hp → Int32 → Option (Hp × Int32)) (k41 : Hp → Int32 → Int32 → Option (Hp × Int32)) (t0 : Nat) (m31 : ∀ (h : Hp) (x1 : Int32), k31 h x1 = some (hz, rz) → Mo h hz) (m41 : ∀ (h : Hp) (x1 : Int32) (x2 : Int32), k41 h x1 x2 = some (hz, rz) → Mo h hz) (i31 : ∀ (h : Hp) (x1 : Int32) (H : Heap) (locs : List Loc) (cells slots : Nat) (ls : Array Slot), k31 h x1 = some (hz, rz) → h.kd t0 = 13 → Wo D cs A s h0 h H locs cells slots → lv_has ls 4 [(0, .ref t0), (1, .int x1)] → W p l e { frames := 1, cells := mc, slots := ms, locals := 30 } s m args below meth c H locs cells slots (MQ below (Zi D cs A hz rz) args s mc ms A) (F0 m 31 ls [])) (i41 : ∀ (h : Hp) (x1 : Int32) (x2 : Int32) (H : Heap) (locs : List Loc) (cells slots : Nat) (ls : Array Slot), k41 h x1 x2 = some (hz, rz) → h.kd t0 = 13 → Wo D cs A s h0 h H locs cells slots → lv_has ls 4 [(0, .ref t0), (1, .int x1), (2, .int x2)] → W p l e { frames := 1, cells := mc, slots := ms, locals := 30 } s m args below meth c H locs cells slots (MQ below (Zi D cs A hz rz) args s mc ms A) (F0 m 41 ls [])) : ∀ n : Nat, ∀ (h : Hp) (x1 : Int32) (x2 : Int32) (x3 : Int32) (H : Heap) (locs : List Loc) (cells slots : Nat) (ls : Array Slot), L_X10_onRings_66 N k31 k41 t0 n h x1 x2 x3 = some (hz, rz) → h.kd t0 = 13 → Wo D cs A s h0 h H locs cells slots → lv_has ls 4 [(0, .ref t0), (1, .int x1), (2, .int x2), (3, .int x3)] → W p l e { frames := 1, cells := mc, slots := ms, locals := 30 } s m args below meth c H locs cells slots (MQ below (Zi D cs A hz rz) args s mc ms A) (F0 m 66 ls []) := by
  intro n
  induction n with
  | zero => intro h x1 x2 x3 H locs cells slots ls hJ; cases hJ
  | succ n ih =>
    intro h x1 x2 x3 H locs cells slots ls hJ hk0 w hl
    exact sb_X10_onRings_66 C hz2 N k31 k41 (L_X10_onRings_66 N k31 k41 t0 n) t0 m31 m41 (ml_X10_onRings_66 N k31 k41 t0 m31 m41 n) i31 i41 ih h x1 x2 x3 hJ hk0 w hl
def B_X10_onRings_58 (N : Nat) (k31 : Hp → Int32 → Option (Hp × Int32)) (k41 : Hp → Int32 → Int32 → Option (Hp × Int32)) (t0 : Nat) (h : Hp) (x1 : Int32) (x2 : Int32) (y0 : Int32) : Option (Hp × Int32) := if y0 = 0 then (B_X10_onRings_103 N k31 k41 t0 h x1 x2) else (L_X10_onRings_66 N k31 k41 t0 N h x1 x2 (0 : Int32))
theorem mb_X10_onRings_58 (N : Nat) (k31 : Hp → Int32 → Option (Hp × Int32)) (k41 : Hp → Int32 → Int32 → Option (Hp × Int32)) (t0 : Nat) (h : Hp) (x1 : Int32) (x2 : Int32) (y0 : Int32) (m31 : ∀ (h : Hp) (x1 : Int32), k31 h x1 = some (hz, rz) → Mo h hz) (m41 : ∀ (h : Hp) (x1 : Int32) (x2 : Int32), k41 h x1 x2 = some (hz, rz) → Mo h hz) (hJ : B_X10_onRings_58 N k31 k41 t0 h x1 x2 y0 = some (hz, rz)) : Mo h hz := by
  unfold B_X10_onRings_58 at hJ
  by_cases c7 : y0 = 0
  · have hJ := it_pos c7 hJ
    exact mb_X10_onRings_103 N k31 k41 t0 _ _ _ m31 m41 hJ
  · have hJ := it_neg c7 hJ
    exact ml_X10_onRings_66 N k31 k41 t0 m31 m41 N _ _ _ _ hJ
set_option maxRecDepth 100000 in
set_option maxHeartbeats 4000000 in
theorem sb_X10_onRings_58 (C : Cx p s m args meth c cX10_onRings 4 (some .int) RX10 D cs A h0.se) (hz2 : hz.nx ≤ h0.nx + mc ∧ hz.su ≤ h0.su + ms) (N : Nat) (k31 : Hp → Int32 → Option (Hp × Int32)) (k41 : Hp → Int32 → Int32 → Option (Hp × Int32)) (t0 : Nat) (m31 : ∀ (h : Hp) (x1 : Int32), k31 h x1 = some (hz, rz) → Mo h hz) (m41 : ∀ (h : Hp) (x1 : Int32) (x2 : Int32), k41 h x1 x2 = some (hz, rz) → Mo h hz) (i31 : ∀ (h : Hp) (x1 : Int32) (H : Heap) (locs : List Loc) (cells slots : Nat) (ls : Array Slot), k31 h x1 = some (hz, rz) → h.kd t0 = 13 → Wo D cs A s h0 h H locs cells slots → lv_has ls 4 [(0, .ref t0), (1, .int x1)] → W p l e { frames := 1, cells := mc, slots := ms, locals := 30 } s m args below meth c H locs cells slots (MQ below (Zi D cs A hz rz) args s mc ms A) (F0 m 31 ls [])) (i41 : ∀ (h : Hp) (x1 : Int32) (x2 : Int32) (H : Heap) (locs : List Loc) (cells slots : Nat) (ls : Array Slot), k41 h x1 x2 = some (hz, rz) → h.kd t0 = 13 → Wo D cs A s h0 h H locs cells slots → lv_has ls 4 [(0, .ref t0), (1, .int x1), (2, .int x2)] → W p l e { frames := 1, cells := mc, slots := ms, locals := 30 } s m args below meth c H locs cells slots (MQ below (Zi D cs A hz rz) args s mc ms A) (F0 m 41 ls [])) (h : Hp) (x1 : Int32) (x2 : Int32) (y0 : Int32) (hJ : B_X10_onRings_58 N k31 k41 t0 h x1 x2 y0 = some (hz, rz)) (hk0 : h.kd t0 = 13) {H : Heap} {locs : List Loc} {cells slots : Nat} (w : Wo D cs A s h0 h H locs cells slots) {ls : Array Slot} (hl : lv_has ls 4 [(0, .ref t0), (1, .int x1), (2, .int x2)]) : W p l e { frames := 1, cells := mc, slots := ms, locals := 30 } s m args below meth c H locs cells slots (MQ below (Zi D cs A hz rz) args s mc ms A) (F0 m 58 ls [.int y0]) := by
  obtain ⟨hx, hb, hml, hown, hts, -⟩ := id C
  unfold B_X10_onRings_58 at hJ
  refine lv_if_ne (tgt := 64) hx hb dX10_onRings_58 (by decide) (fun c7 => ?_) (fun c7 => ?_)
  · have hJ := it_neg c7 hJ
    refine lv_iconst (v := (0 : Int32)) hx hb dX10_onRings_64 (by decide) ?_
    refine lv_istore_n (i := 3) (lv' := [(3, .int (0 : Int32)), (0, .ref t0), (1, .int x1), (2, .int x2)]) hx hb dX10_onRings_65 rfl hl (by decide) rfl (fun ls hl => ?_)
    exact sl_X10_onRings_66 C hz2 N k31 k41 t0 m31 m41 i31 i41 N _ _ _ _ _ _ _ _ _ hJ hk0 w (lv_sub (l' := [(0, .ref t0), (1, .int x1), (2, .int x2), (3, .int (0 : Int32))]) hl [1, 2, 3, 0] rfl)
  · have hJ := it_pos c7 hJ
    refine lv_goto (tgt := 103) hx hb dX10_onRings_61 (by decide) ?_
    exact sb_X10_onRings_103 C hz2 N k31 k41 t0 m31 m41 i31 i41 _ _ _ hJ hk0 w hl
def B_X10_onRings_41 (N : Nat) (k31 : Hp → Int32 → Option (Hp × Int32)) (k41 : Hp → Int32 → Int32 → Option (Hp × Int32)) (t0 : Nat) (h : Hp) (x1 : Int32) (x2 : Int32) : Option (Hp × Int32) := if (h.gi 1311 t0) < x2 then (k31 h (x1 + (1 : Int32))) else ((J_X10_has N h (h.gr 1357 t0) x2 x1).bind (fun z => B_X10_onRings_58 N k31 k41 t0 z.1 x1 x2 z.2))
theorem mb_X10_onRings_41 (N : Nat) (k31 : Hp → Int32 → Option (Hp × Int32)) (k41 : Hp → Int32 → Int32 → Option (Hp × Int32)) (t0 : Nat) (h : Hp) (x1 : Int32) (x2 : Int32) (m31 : ∀ (h : Hp) (x1 : Int32), k31 h x1 = some (hz, rz) → Mo h hz) (m41 : ∀ (h : Hp) (x1 : Int32) (x2 : Int32), k41 h x1 x2 = some (hz, rz) → Mo h hz) (hJ : B_X10_onRings_41 N k31 k41 t0 h x1 x2 = some (hz, rz)) : Mo h hz := by
  unfold B_X10_onRings_41 at hJ
  by_cases c8 : (h.gi 1311 t0) < x2
  · have hJ := it_pos c8 hJ
    exact m31 _ _ hJ
  · have hJ := it_neg c8 hJ
    obtain ⟨⟨h9, r10⟩, e11, hJ⟩ := ob_some hJ
    exact (mo_X10_has N h (h.gr 1357 t0) x2 x1 e11).tr (mb_X10_onRings_58 N k31 k41 t0 _ _ _ _ m31 m41 hJ)
set_option maxRecDepth 100000 in
set_option maxHeartbeats 4000000 in
theorem sb_X10_onRings_41 (C : Cx p s m args meth c cX10_onRings 4 (some .int) RX10 D cs A h0.se) (hz2 : hz.nx ≤ h0.nx + mc ∧ hz.su ≤ h0.su + ms) (N : Nat) (k31 : Hp → Int32 → Option (Hp × Int32)) (k41 : Hp → Int32 → Int32 → Option (Hp × Int32)) (t0 : Nat) (m31 : ∀ (h : Hp) (x1 : Int32), k31 h x1 = some (hz, rz) → Mo h hz) (m41 : ∀ (h : Hp) (x1 : Int32) (x2 : Int32), k41 h x1 x2 = some (hz, rz) → Mo h hz) (i31 : ∀ (h : Hp) (x1 : Int32) (H : Heap) (locs : List Loc) (cells slots : Nat) (ls : Array Slot), k31 h x1 = some (hz, rz) → h.kd t0 = 13 → Wo D cs A s h0 h H locs cells slots → lv_has ls 4 [(0, .ref t0), (1, .int x1)] → W p l e { frames := 1, cells := mc, slots := ms, locals := 30 } s m args below meth c H locs cells slots (MQ below (Zi D cs A hz rz) args s mc ms A) (F0 m 31 ls [])) (i41 : ∀ (h : Hp) (x1 : Int32) (x2 : Int32) (H : Heap) (locs : List Loc) (cells slots : Nat) (ls : Array Slot), k41 h x1 x2 = some (hz, rz) → h.kd t0 = 13 → Wo D cs A s h0 h H locs cells slots → lv_has ls 4 [(0, .ref t0), (1, .int x1), (2, .int x2)] → W p l e { frames := 1, cells := mc, slots := ms, locals := 30 } s m args below meth c H locs cells slots (MQ below (Zi D cs A hz rz) args s mc ms A) (F0 m 41 ls [])) (h : Hp) (x1 : Int32) (x2 : Int32) (hJ : B_X10_onRings_41 N k31 k41 t0 h x1 x2 = some (hz, rz)) (hk0 : h.kd t0 = 13) {H : Heap} {locs : List Loc} {cells slots : Nat} (w : Wo D cs A s h0 h H locs cells slots) {ls : Array Slot} (hl : lv_has ls 4 [(0, .ref t0), (1, .int x1), (2, .int x2)]) : W p l e { frames := 1, cells := mc, slots := ms, locals := 30 } s m args below meth c H locs cells slots (MQ below (Zi D cs A hz rz) args s mc ms A) (F0 m 41 ls []) := by
  obtain ⟨hx, hb, hml, hown, hts, -⟩ := id C
  unfold B_X10_onRings_41 at hJ
  refine lv_iload_n hx hb dX10_onRings_41 rfl (lv_at hl 2 rfl) ?_
  refine lv_aload_n hx hb dX10_onRings_42 rfl (lv_at hl 0 rfl) ?_
  refine fg_1311 C w hk0 tw_6_174 dX10_onRings_43 ?_
  refine lv_icmp_gt (tgt := 109) hx hb dX10_onRings_46 (by decide) (fun c8 => ?_) (fun c8 => ?_)
  · have hJ := it_pos c8 hJ
    refine lv_iinc (v := x1 + (1 : Int32)) (lv' := [(1, .int (x1 + (1 : Int32))), (0, .ref t0), (2, .int x2)]) hx hb dX10_onRings_109 hl (k := 1) rfl rfl (by decide) rfl (fun ls hl => ?_)
    refine lv_goto (tgt := 31) hx hb dX10_onRings_112 (by decide) ?_
    exact i31 _ _ _ _ _ _ _ hJ hk0 w (lv_sub (l' := [(0, .ref t0), (1, .int (x1 + (1 : Int32)))]) hl [1, 0] rfl)
  · have hJ := it_neg c8 hJ
    refine lv_aload_n hx hb dX10_onRings_49 rfl (lv_at hl 0 rfl) ?_
    refine fg_1357 C w hk0 tw_6_220 dX10_onRings_50 ?_
    refine lv_iload_n hx hb dX10_onRings_53 rfl (lv_at hl 2 rfl) ?_
    refine lv_iload_n hx hb dX10_onRings_54 rfl (lv_at hl 1 rfl) ?_
    obtain ⟨⟨h9, r10⟩, e11, hJ⟩ := ob_some hJ
    refine jc_Si (As := [va_rf (h.gr 1357 t0), .int x2, .int x1]) C w (cc_X10_has N h (h.gr 1357 t0) x2 x1 e11) (mo_X10_has N h (h.gr 1357 t0) x2 x1 e11) (mb_X10_onRings_58 N k31 k41 t0 _ _ _ _ m31 m41 hJ) hz2 ⟨tw_8_131, tw_8_129, tw_8_130, tw_1_7⟩ cd_X10_has ⟨by decide, by decide⟩ hl.1 (by first | exact Nat.le_of_ble_eq_true rfl | simp [rf_cat, cat_i, cat_l, cat_r]) rfl dX10_onRings_55 (fun H locs w1 => ?_)
    have hk12 := kd_keep w (mo_X10_has N h (h.gr 1357 t0) x2 x1 e11) hk0 (by decide)
    have w := w1
    exact sb_X10_onRings_58 C hz2 N k31 k41 t0 m31 m41 i31 i41 _ _ _ _ hJ hk12 w hl
def L_X10_onRings_41 (N : Nat) (k31 : Hp → Int32 → Option (Hp × Int32)) (t0 : Nat) : Nat → Hp → Int32 → Int32 → Option (Hp × Int32)
  | 0 => fun _ _ _ => none
  | n + 1 => fun h x1 x2 => B_X10_onRings_41 N k31 (L_X10_onRings_41 N k31 t0 n) t0 h x1 x2
theorem ml_X10_onRings_41 (N : Nat) (k31 : Hp → Int32 → Option (Hp × Int32)) (t0 : Nat) (m31 : ∀ (h : Hp) (x1 : Int32), k31 h x1 = some (hz, rz) → Mo h hz) : ∀ (n : Nat) (h : Hp) (x1 : Int32) (x2 : Int32), L_X10_onRings_41 N k31 t0 n h x1 x2 = some (hz, rz) → Mo h hz := by
  intro n
  induction n with
  | zero => intro h x1 x2 hJ; cases hJ
  | succ n ih => intro h x1 x2 hJ; exact mb_X10_onRings_41 N k31 (L_X10_onRings_41 N k31 t0 n) t0 h x1 x2 m31 ih hJ
theorem sl_X10_onRings_41 (C : Cx p s m args meth c cX10_onRings 4 (some .int) RX10 D cs A h0.se) (hz2 : hz.nx ≤ h0.nx + mc ∧ hz.su ≤ h0.su + ms) (N : Nat) (k31 : Hp → Int32 → Option (Hp × Int32)) (t0 : Nat) (m31 : ∀ (h : Hp) (x1 : Int32), k31 h x1 = some (hz, rz) → Mo h hz) (i31 : ∀ (h : Hp) (x1 : Int32) (H : Heap) (locs : List Loc) (cells slots : Nat) (ls : Array Slot), k31 h x1 = some (hz, rz) → h.kd t0 = 13 → Wo D cs A s h0 h H locs cells slots → lv_has ls 4 [(0, .ref t0), (1, .int x1)] → W p l e { frames := 1, cells := mc, slots := ms, locals := 30 } s m args below meth c H locs cells slots (MQ below (Zi D cs A hz rz) args s mc ms A) (F0 m 31 ls [])) : ∀ n : Nat, ∀ (h : Hp) (x1 : Int32) (x2 : Int32) (H : Heap) (locs : List Loc) (cells slots : Nat) (ls : Array Slot), L_X10_onRings_41 N k31 t0 n h x1 x2 = some (hz, rz) → h.kd t0 = 13 → Wo D cs A s h0 h H locs cells slots → lv_has ls 4 [(0, .ref t0), (1, .int x1), (2, .int x2)] → W p l e { frames := 1, cells := mc, slots := ms, locals := 30 } s m args below meth c H locs cells slots (MQ below (Zi D cs A hz rz) args s mc ms A) (F0 m 41 ls []) := by
  intro n
  induction n with
  | zero => intro h x1 x2 H locs cells slots ls hJ; cases hJ
  | succ n ih =>
    intro h x1 x2 H locs cells slots ls hJ hk0 w hl
    exact sb_X10_onRings_41 C hz2 N k31 (L_X10_onRings_41 N k31 t0 n) t0 m31 (ml_X10_onRings_41 N k31 t0 m31 n) i31 ih h x1 x2 hJ hk0 w hl
def B_X10_onRings_145 (N : Nat) (k119 : Hp → Int32 → Int32 → Option (Hp × Int32)) (t0 : Nat) (h : Hp) (x2 : Int32) (y0 : Int32) (y1 : Int32) : Option (Hp × Int32) := k119 h (y0 + y1) (x2 + (1 : Int32))
theorem mb_X10_onRings_145 (N : Nat) (k119 : Hp → Int32 → Int32 → Option (Hp × Int32)) (t0 : Nat) (h : Hp) (x2 : Int32) (y0 : Int32) (y1 : Int32) (m119 : ∀ (h : Hp) (x1 : Int32) (x2 : Int32), k119 h x1 x2 = some (hz, rz) → Mo h hz) (hJ : B_X10_onRings_145 N k119 t0 h x2 y0 y1 = some (hz, rz)) : Mo h hz := by
  unfold B_X10_onRings_145 at hJ
  exact m119 _ _ _ hJ
set_option maxRecDepth 100000 in
set_option maxHeartbeats 4000000 in
theorem sb_X10_onRings_145 (C : Cx p s m args meth c cX10_onRings 4 (some .int) RX10 D cs A h0.se) (hz2 : hz.nx ≤ h0.nx + mc ∧ hz.su ≤ h0.su + ms) (N : Nat) (k119 : Hp → Int32 → Int32 → Option (Hp × Int32)) (t0 : Nat) (m119 : ∀ (h : Hp) (x1 : Int32) (x2 : Int32), k119 h x1 x2 = some (hz, rz) → Mo h hz) (i119 : ∀ (h : Hp) (x1 : Int32) (x2 : Int32) (H : Heap) (locs : List Loc) (cells slots : Nat) (ls : Array Slot), k119 h x1 x2 = some (hz, rz) → h.kd t0 = 13 → Wo D cs A s h0 h H locs cells slots → lv_has ls 4 [(0, .ref t0), (1, .int x1), (2, .int x2)] → W p l e { frames := 1, cells := mc, slots := ms, locals := 30 } s m args below meth c H locs cells slots (MQ below (Zi D cs A hz rz) args s mc ms A) (F0 m 119 ls [])) (h : Hp) (x2 : Int32) (y0 : Int32) (y1 : Int32) (hJ : B_X10_onRings_145 N k119 t0 h x2 y0 y1 = some (hz, rz)) (hk0 : h.kd t0 = 13) {H : Heap} {locs : List Loc} {cells slots : Nat} (w : Wo D cs A s h0 h H locs cells slots) {ls : Array Slot} (hl : lv_has ls 4 [(0, .ref t0), (2, .int x2)]) : W p l e { frames := 1, cells := mc, slots := ms, locals := 30 } s m args below meth c H locs cells slots (MQ below (Zi D cs A hz rz) args s mc ms A) (F0 m 145 ls [.int y1, .int y0]) := by
  obtain ⟨hx, hb, hml, hown, hts, -⟩ := id C
  unfold B_X10_onRings_145 at hJ
  refine lv_iadd hx hb dX10_onRings_145 ?_
  refine lv_istore_n (i := 1) (lv' := [(1, .int (y0 + y1)), (0, .ref t0), (2, .int x2)]) hx hb dX10_onRings_146 rfl hl (by decide) rfl (fun ls hl => ?_)
  refine lv_iinc (v := x2 + (1 : Int32)) (lv' := [(2, .int (x2 + (1 : Int32))), (1, .int (y0 + y1)), (0, .ref t0)]) hx hb dX10_onRings_147 hl (k := 2) rfl rfl (by decide) rfl (fun ls hl => ?_)
  refine lv_goto (tgt := 119) hx hb dX10_onRings_150 (by decide) ?_
  exact i119 _ _ _ _ _ _ _ _ hJ hk0 w (lv_sub (l' := [(0, .ref t0), (1, .int (y0 + y1)), (2, .int (x2 + (1 : Int32)))]) hl [2, 1, 0] rfl)
def B_X10_onRings_137 (N : Nat) (k119 : Hp → Int32 → Int32 → Option (Hp × Int32)) (t0 : Nat) (h : Hp) (x2 : Int32) (y0 : Int32) (y1 : Int32) : Option (Hp × Int32) := if y1 = 0 then (B_X10_onRings_145 N k119 t0 h x2 y0 (0 : Int32)) else (B_X10_onRings_145 N k119 t0 h x2 y0 (1 : Int32))
theorem mb_X10_onRings_137 (N : Nat) (k119 : Hp → Int32 → Int32 → Option (Hp × Int32)) (t0 : Nat) (h : Hp) (x2 : Int32) (y0 : Int32) (y1 : Int32) (m119 : ∀ (h : Hp) (x1 : Int32) (x2 : Int32), k119 h x1 x2 = some (hz, rz) → Mo h hz) (hJ : B_X10_onRings_137 N k119 t0 h x2 y0 y1 = some (hz, rz)) : Mo h hz := by
  unfold B_X10_onRings_137 at hJ
  by_cases c13 : y1 = 0
  · have hJ := it_pos c13 hJ
    exact mb_X10_onRings_145 N k119 t0 _ _ _ _ m119 hJ
  · have hJ := it_neg c13 hJ
    exact mb_X10_onRings_145 N k119 t0 _ _ _ _ m119 hJ
set_option maxRecDepth 100000 in
set_option maxHeartbeats 4000000 in
theorem sb_X10_onRings_137 (C : Cx p s m args meth c cX10_onRings 4 (some .int) RX10 D cs A h0.se) (hz2 : hz.nx ≤ h0.nx + mc ∧ hz.su ≤ h0.su + ms) (N : Nat) (k119 : Hp → Int32 → Int32 → Option (Hp × Int32)) (t0 : Nat) (m119 : ∀ (h : Hp) (x1 : Int32) (x2 : Int32), k119 h x1 x2 = some (hz, rz) → Mo h hz) (i119 : ∀ (h : Hp) (x1 : Int32) (x2 : Int32) (H : Heap) (locs : List Loc) (cells slots : Nat) (ls : Array Slot), k119 h x1 x2 = some (hz, rz) → h.kd t0 = 13 → Wo D cs A s h0 h H locs cells slots → lv_has ls 4 [(0, .ref t0), (1, .int x1), (2, .int x2)] → W p l e { frames := 1, cells := mc, slots := ms, locals := 30 } s m args below meth c H locs cells slots (MQ below (Zi D cs A hz rz) args s mc ms A) (F0 m 119 ls [])) (h : Hp) (x2 : Int32) (y0 : Int32) (y1 : Int32) (hJ : B_X10_onRings_137 N k119 t0 h x2 y0 y1 = some (hz, rz)) (hk0 : h.kd t0 = 13) {H : Heap} {locs : List Loc} {cells slots : Nat} (w : Wo D cs A s h0 h H locs cells slots) {ls : Array Slot} (hl : lv_has ls 4 [(0, .ref t0), (2, .int x2)]) : W p l e { frames := 1, cells := mc, slots := ms, locals := 30 } s m args below meth c H locs cells slots (MQ below (Zi D cs A hz rz) args s mc ms A) (F0 m 137 ls [.int y1, .int y0]) := by
  obtain ⟨hx, hb, hml, hown, hts, -⟩ := id C
  unfold B_X10_onRings_137 at hJ
  refine lv_if_eq (tgt := 144) hx hb dX10_onRings_137 (by decide) (fun c13 => ?_) (fun c13 => ?_)
  · have hJ := it_pos c13 hJ
    refine lv_iconst (v := (0 : Int32)) hx hb dX10_onRings_144 (by decide) ?_
    exact sb_X10_onRings_145 C hz2 N k119 t0 m119 i119 _ _ _ _ hJ hk0 w hl
  · have hJ := it_neg c13 hJ
    refine lv_iconst (v := (1 : Int32)) hx hb dX10_onRings_140 (by decide) ?_
    refine lv_goto (tgt := 145) hx hb dX10_onRings_141 (by decide) ?_
    exact sb_X10_onRings_145 C hz2 N k119 t0 m119 i119 _ _ _ _ hJ hk0 w hl
def B_X10_onRings_119 (N : Nat) (k119 : Hp → Int32 → Int32 → Option (Hp × Int32)) (t0 : Nat) (h : Hp) (x1 : Int32) (x2 : Int32) : Option (Hp × Int32) := if (h.gi 1311 t0) < x2 then (some (h, x1)) else ((J_X10_has N h (h.gr 1357 t0) x2 x2).bind (fun z => B_X10_onRings_137 N k119 t0 z.1 x2 x1 z.2))
theorem mb_X10_onRings_119 (N : Nat) (k119 : Hp → Int32 → Int32 → Option (Hp × Int32)) (t0 : Nat) (h : Hp) (x1 : Int32) (x2 : Int32) (m119 : ∀ (h : Hp) (x1 : Int32) (x2 : Int32), k119 h x1 x2 = some (hz, rz) → Mo h hz) (hJ : B_X10_onRings_119 N k119 t0 h x1 x2 = some (hz, rz)) : Mo h hz := by
  unfold B_X10_onRings_119 at hJ
  by_cases c14 : (h.gi 1311 t0) < x2
  · have hJ := it_pos c14 hJ
    obtain ⟨rfl, -⟩ := rs2 hJ
    exact ⟨fun _ _ => rfl, Nat.le_refl _, Nat.le_refl _, rfl, fun _ _ => rfl⟩
  · have hJ := it_neg c14 hJ
    obtain ⟨⟨h15, r16⟩, e17, hJ⟩ := ob_some hJ
    exact (mo_X10_has N h (h.gr 1357 t0) x2 x2 e17).tr (mb_X10_onRings_137 N k119 t0 _ _ _ _ m119 hJ)
set_option maxRecDepth 100000 in
set_option maxHeartbeats 4000000 in
theorem sb_X10_onRings_119 (C : Cx p s m args meth c cX10_onRings 4 (some .int) RX10 D cs A h0.se) (hz2 : hz.nx ≤ h0.nx + mc ∧ hz.su ≤ h0.su + ms) (N : Nat) (k119 : Hp → Int32 → Int32 → Option (Hp × Int32)) (t0 : Nat) (m119 : ∀ (h : Hp) (x1 : Int32) (x2 : Int32), k119 h x1 x2 = some (hz, rz) → Mo h hz) (i119 : ∀ (h : Hp) (x1 : Int32) (x2 : Int32) (H : Heap) (locs : List Loc) (cells slots : Nat) (ls : Array Slot), k119 h x1 x2 = some (hz, rz) → h.kd t0 = 13 → Wo D cs A s h0 h H locs cells slots → lv_has ls 4 [(0, .ref t0), (1, .int x1), (2, .int x2)] → W p l e { frames := 1, cells := mc, slots := ms, locals := 30 } s m args below meth c H locs cells slots (MQ below (Zi D cs A hz rz) args s mc ms A) (F0 m 119 ls [])) (h : Hp) (x1 : Int32) (x2 : Int32) (hJ : B_X10_onRings_119 N k119 t0 h x1 x2 = some (hz, rz)) (hk0 : h.kd t0 = 13) {H : Heap} {locs : List Loc} {cells slots : Nat} (w : Wo D cs A s h0 h H locs cells slots) {ls : Array Slot} (hl : lv_has ls 4 [(0, .ref t0), (1, .int x1), (2, .int x2)]) : W p l e { frames := 1, cells := mc, slots := ms, locals := 30 } s m args below meth c H locs cells slots (MQ below (Zi D cs A hz rz) args s mc ms A) (F0 m 119 ls []) := by
  obtain ⟨hx, hb, hml, hown, hts, -⟩ := id C
  unfold B_X10_onRings_119 at hJ
  refine lv_iload_n hx hb dX10_onRings_119 rfl (lv_at hl 2 rfl) ?_
  refine lv_aload_n hx hb dX10_onRings_120 rfl (lv_at hl 0 rfl) ?_
  refine fg_1311 C w hk0 tw_6_174 dX10_onRings_121 ?_
  refine lv_icmp_gt (tgt := 153) hx hb dX10_onRings_124 (by decide) (fun c14 => ?_) (fun c14 => ?_)
  · have hJ := it_pos c14 hJ
    refine lv_iload_n hx hb dX10_onRings_153 rfl (lv_at hl 1 rfl) ?_
    obtain ⟨rfl, rfl⟩ := rs2 hJ
    exact jr_iret C w hz2 dX10_onRings_154
  · have hJ := it_neg c14 hJ
    refine lv_iload_n hx hb dX10_onRings_127 rfl (lv_at hl 1 rfl) ?_
    refine lv_aload_n hx hb dX10_onRings_128 rfl (lv_at hl 0 rfl) ?_
    refine fg_1357 C w hk0 tw_6_220 dX10_onRings_129 ?_
    refine lv_iload_n hx hb dX10_onRings_132 rfl (lv_at hl 2 rfl) ?_
    refine lv_iload_n hx hb dX10_onRings_133 rfl (lv_at hl 2 rfl) ?_
    obtain ⟨⟨h15, r16⟩, e17, hJ⟩ := ob_some hJ
    refine jc_Si (As := [va_rf (h.gr 1357 t0), .int x2, .int x2]) C w (cc_X10_has N h (h.gr 1357 t0) x2 x2 e17) (mo_X10_has N h (h.gr 1357 t0) x2 x2 e17) (mb_X10_onRings_137 N k119 t0 _ _ _ _ m119 hJ) hz2 ⟨tw_8_131, tw_8_129, tw_8_130, tw_1_7⟩ cd_X10_has ⟨by decide, by decide⟩ hl.1 (by first | exact Nat.le_of_ble_eq_true rfl | simp [rf_cat, cat_i, cat_l, cat_r]) rfl dX10_onRings_134 (fun H locs w1 => ?_)
    have hk18 := kd_keep w (mo_X10_has N h (h.gr 1357 t0) x2 x2 e17) hk0 (by decide)
    have w := w1
    exact sb_X10_onRings_137 C hz2 N k119 t0 m119 i119 _ _ _ _ hJ hk18 w (lv_sub (l' := [(0, .ref t0), (2, .int x2)]) hl [0, 2] rfl)
def L_X10_onRings_119 (N : Nat) (t0 : Nat) : Nat → Hp → Int32 → Int32 → Option (Hp × Int32)
  | 0 => fun _ _ _ => none
  | n + 1 => fun h x1 x2 => B_X10_onRings_119 N (L_X10_onRings_119 N t0 n) t0 h x1 x2
theorem ml_X10_onRings_119 (N : Nat) (t0 : Nat) : ∀ (n : Nat) (h : Hp) (x1 : Int32) (x2 : Int32), L_X10_onRings_119 N t0 n h x1 x2 = some (hz, rz) → Mo h hz := by
  intro n
  induction n with
  | zero => intro h x1 x2 hJ; cases hJ
  | succ n ih => intro h x1 x2 hJ; exact mb_X10_onRings_119 N (L_X10_onRings_119 N t0 n) t0 h x1 x2 ih hJ
theorem sl_X10_onRings_119 (C : Cx p s m args meth c cX10_onRings 4 (some .int) RX10 D cs A h0.se) (hz2 : hz.nx ≤ h0.nx + mc ∧ hz.su ≤ h0.su + ms) (N : Nat) (t0 : Nat) : ∀ n : Nat, ∀ (h : Hp) (x1 : Int32) (x2 : Int32) (H : Heap) (locs : List Loc) (cells slots : Nat) (ls : Array Slot), L_X10_onRings_119 N t0 n h x1 x2 = some (hz, rz) → h.kd t0 = 13 → Wo D cs A s h0 h H locs cells slots → lv_has ls 4 [(0, .ref t0), (1, .int x1), (2, .int x2)] → W p l e { frames := 1, cells := mc, slots := ms, locals := 30 } s m args below meth c H locs cells slots (MQ below (Zi D cs A hz rz) args s mc ms A) (F0 m 119 ls []) := by
  intro n
  induction n with
  | zero => intro h x1 x2 H locs cells slots ls hJ; cases hJ
  | succ n ih =>
    intro h x1 x2 H locs cells slots ls hJ hk0 w hl
    exact sb_X10_onRings_119 C hz2 N (L_X10_onRings_119 N t0 n) t0 (ml_X10_onRings_119 N t0 n) ih h x1 x2 hJ hk0 w hl
def B_X10_onRings_31 (N : Nat) (k31 : Hp → Int32 → Option (Hp × Int32)) (t0 : Nat) (h : Hp) (x1 : Int32) : Option (Hp × Int32) := if (h.gi 1311 t0) < x1 then (L_X10_onRings_119 N t0 N h (0 : Int32) (1 : Int32)) else (L_X10_onRings_41 N k31 t0 N h x1 (1 : Int32))
theorem mb_X10_onRings_31 (N : Nat) (k31 : Hp → Int32 → Option (Hp × Int32)) (t0 : Nat) (h : Hp) (x1 : Int32) (m31 : ∀ (h : Hp) (x1 : Int32), k31 h x1 = some (hz, rz) → Mo h hz) (hJ : B_X10_onRings_31 N k31 t0 h x1 = some (hz, rz)) : Mo h hz := by
  unfold B_X10_onRings_31 at hJ
  by_cases c19 : (h.gi 1311 t0) < x1
  · have hJ := it_pos c19 hJ
    exact ml_X10_onRings_119 N t0 N _ _ _ hJ
  · have hJ := it_neg c19 hJ
    exact ml_X10_onRings_41 N k31 t0 m31 N _ _ _ hJ
set_option maxRecDepth 100000 in
set_option maxHeartbeats 4000000 in
theorem sb_X10_onRings_31 (C : Cx p s m args meth c cX10_onRings 4 (some .int) RX10 D cs A h0.se) (hz2 : hz.nx ≤ h0.nx + mc ∧ hz.su ≤ h0.su + ms) (N : Nat) (k31 : Hp → Int32 → Option (Hp × Int32)) (t0 : Nat) (m31 : ∀ (h : Hp) (x1 : Int32), k31 h x1 = some (hz, rz) → Mo h hz) (i31 : ∀ (h : Hp) (x1 : Int32) (H : Heap) (locs : List Loc) (cells slots : Nat) (ls : Array Slot), k31 h x1 = some (hz, rz) → h.kd t0 = 13 → Wo D cs A s h0 h H locs cells slots → lv_has ls 4 [(0, .ref t0), (1, .int x1)] → W p l e { frames := 1, cells := mc, slots := ms, locals := 30 } s m args below meth c H locs cells slots (MQ below (Zi D cs A hz rz) args s mc ms A) (F0 m 31 ls [])) (h : Hp) (x1 : Int32) (hJ : B_X10_onRings_31 N k31 t0 h x1 = some (hz, rz)) (hk0 : h.kd t0 = 13) {H : Heap} {locs : List Loc} {cells slots : Nat} (w : Wo D cs A s h0 h H locs cells slots) {ls : Array Slot} (hl : lv_has ls 4 [(0, .ref t0), (1, .int x1)]) : W p l e { frames := 1, cells := mc, slots := ms, locals := 30 } s m args below meth c H locs cells slots (MQ below (Zi D cs A hz rz) args s mc ms A) (F0 m 31 ls []) := by
  obtain ⟨hx, hb, hml, hown, hts, -⟩ := id C
  unfold B_X10_onRings_31 at hJ
  refine lv_iload_n hx hb dX10_onRings_31 rfl (lv_at hl 1 rfl) ?_
  refine lv_aload_n hx hb dX10_onRings_32 rfl (lv_at hl 0 rfl) ?_
  refine fg_1311 C w hk0 tw_6_174 dX10_onRings_33 ?_
  refine lv_icmp_gt (tgt := 115) hx hb dX10_onRings_36 (by decide) (fun c19 => ?_) (fun c19 => ?_)
  · have hJ := it_pos c19 hJ
    refine lv_iconst (v := (0 : Int32)) hx hb dX10_onRings_115 (by decide) ?_
    refine lv_istore_n (i := 1) (lv' := [(1, .int (0 : Int32)), (0, .ref t0)]) hx hb dX10_onRings_116 rfl hl (by decide) rfl (fun ls hl => ?_)
    refine lv_iconst (v := (1 : Int32)) hx hb dX10_onRings_117 (by decide) ?_
    refine lv_istore_n (i := 2) (lv' := [(2, .int (1 : Int32)), (1, .int (0 : Int32)), (0, .ref t0)]) hx hb dX10_onRings_118 rfl hl (by decide) rfl (fun ls hl => ?_)
    exact sl_X10_onRings_119 C hz2 N t0 N _ _ _ _ _ _ _ _ hJ hk0 w (lv_sub (l' := [(0, .ref t0), (1, .int (0 : Int32)), (2, .int (1 : Int32))]) hl [2, 1, 0] rfl)
  · have hJ := it_neg c19 hJ
    refine lv_iconst (v := (1 : Int32)) hx hb dX10_onRings_39 (by decide) ?_
    refine lv_istore_n (i := 2) (lv' := [(2, .int (1 : Int32)), (0, .ref t0), (1, .int x1)]) hx hb dX10_onRings_40 rfl hl (by decide) rfl (fun ls hl => ?_)
    exact sl_X10_onRings_41 C hz2 N k31 t0 m31 i31 N _ _ _ _ _ _ _ _ hJ hk0 w (lv_sub (l' := [(0, .ref t0), (1, .int x1), (2, .int (1 : Int32))]) hl [1, 2, 0] rfl)
def L_X10_onRings_31 (N : Nat) (t0 : Nat) : Nat → Hp → Int32 → Option (Hp × Int32)
  | 0 => fun _ _ => none
  | n + 1 => fun h x1 => B_X10_onRings_31 N (L_X10_onRings_31 N t0 n) t0 h x1
theorem ml_X10_onRings_31 (N : Nat) (t0 : Nat) : ∀ (n : Nat) (h : Hp) (x1 : Int32), L_X10_onRings_31 N t0 n h x1 = some (hz, rz) → Mo h hz := by
  intro n
  induction n with
  | zero => intro h x1 hJ; cases hJ
  | succ n ih => intro h x1 hJ; exact mb_X10_onRings_31 N (L_X10_onRings_31 N t0 n) t0 h x1 ih hJ
theorem sl_X10_onRings_31 (C : Cx p s m args meth c cX10_onRings 4 (some .int) RX10 D cs A h0.se) (hz2 : hz.nx ≤ h0.nx + mc ∧ hz.su ≤ h0.su + ms) (N : Nat) (t0 : Nat) : ∀ n : Nat, ∀ (h : Hp) (x1 : Int32) (H : Heap) (locs : List Loc) (cells slots : Nat) (ls : Array Slot), L_X10_onRings_31 N t0 n h x1 = some (hz, rz) → h.kd t0 = 13 → Wo D cs A s h0 h H locs cells slots → lv_has ls 4 [(0, .ref t0), (1, .int x1)] → W p l e { frames := 1, cells := mc, slots := ms, locals := 30 } s m args below meth c H locs cells slots (MQ below (Zi D cs A hz rz) args s mc ms A) (F0 m 31 ls []) := by
  intro n
  induction n with
  | zero => intro h x1 H locs cells slots ls hJ; cases hJ
  | succ n ih =>
    intro h x1 H locs cells slots ls hJ hk0 w hl
    exact sb_X10_onRings_31 C hz2 N (L_X10_onRings_31 N t0 n) t0 (ml_X10_onRings_31 N t0 n) ih h x1 hJ hk0 w hl
def B_X10_onRings_2 (N : Nat) (k2 : Hp → Int32 → Option (Hp × Int32)) (t0 : Nat) (h : Hp) (x1 : Int32) : Option (Hp × Int32) := dr h 31 (h.gr 1357 t0) (fun a20 => if (nI (h.al a20)) ≤ x1 then (L_X10_onRings_31 N t0 N h (1 : Int32)) else (dr h 31 (h.gr 1356 t0) (fun a22 => ck (¬ (x1 < 0 ∨ h.al a22 ≤ x1.toNatClampNeg)) (dr h 31 (h.gr 1357 t0) (fun a24 => ck (¬ (x1 < 0 ∨ h.al a24 ≤ x1.toNatClampNeg)) (k2 (h.sbw a24 x1.toNatClampNeg (h.bw a22 x1.toNatClampNeg)) (x1 + (1 : Int32))))))))
theorem mb_X10_onRings_2 (N : Nat) (k2 : Hp → Int32 → Option (Hp × Int32)) (t0 : Nat) (h : Hp) (x1 : Int32) (m2 : ∀ (h : Hp) (x1 : Int32), k2 h x1 = some (hz, rz) → Mo h hz) (hJ : B_X10_onRings_2 N k2 t0 h x1 = some (hz, rz)) : Mo h hz := by
  unfold B_X10_onRings_2 at hJ
  obtain ⟨a20, ea20, -, hJ⟩ := dr_some hJ
  by_cases c21 : (nI (h.al a20)) ≤ x1
  · have hJ := it_pos c21 hJ
    exact ml_X10_onRings_31 N t0 N _ _ hJ
  · have hJ := it_neg c21 hJ
    obtain ⟨a22, ea22, -, hJ⟩ := dr_some hJ
    obtain ⟨-, hJ⟩ := ck_some hJ
    obtain ⟨a24, ea24, -, hJ⟩ := dr_some hJ
    obtain ⟨-, hJ⟩ := ck_some hJ
    exact (Mo.tr (show Mo h (h.sbw a24 x1.toNatClampNeg (h.bw a22 x1.toNatClampNeg)) from ⟨fun _ _ => rfl, Nat.le_refl _, Nat.le_refl _, rfl, fun _ _ => rfl⟩) (m2 _ _ hJ))
set_option maxRecDepth 100000 in
set_option maxHeartbeats 4000000 in
theorem sb_X10_onRings_2 (C : Cx p s m args meth c cX10_onRings 4 (some .int) RX10 D cs A h0.se) (hz2 : hz.nx ≤ h0.nx + mc ∧ hz.su ≤ h0.su + ms) (N : Nat) (k2 : Hp → Int32 → Option (Hp × Int32)) (t0 : Nat) (m2 : ∀ (h : Hp) (x1 : Int32), k2 h x1 = some (hz, rz) → Mo h hz) (i2 : ∀ (h : Hp) (x1 : Int32) (H : Heap) (locs : List Loc) (cells slots : Nat) (ls : Array Slot), k2 h x1 = some (hz, rz) → h.kd t0 = 13 → Wo D cs A s h0 h H locs cells slots → lv_has ls 4 [(0, .ref t0), (1, .int x1)] → W p l e { frames := 1, cells := mc, slots := ms, locals := 30 } s m args below meth c H locs cells slots (MQ below (Zi D cs A hz rz) args s mc ms A) (F0 m 2 ls [])) (h : Hp) (x1 : Int32) (hJ : B_X10_onRings_2 N k2 t0 h x1 = some (hz, rz)) (hk0 : h.kd t0 = 13) {H : Heap} {locs : List Loc} {cells slots : Nat} (w : Wo D cs A s h0 h H locs cells slots) {ls : Array Slot} (hl : lv_has ls 4 [(0, .ref t0), (1, .int x1)]) : W p l e { frames := 1, cells := mc, slots := ms, locals := 30 } s m args below meth c H locs cells slots (MQ below (Zi D cs A hz rz) args s mc ms A) (F0 m 2 ls []) := by
  obtain ⟨hx, hb, hml, hown, hts, -⟩ := id C
  unfold B_X10_onRings_2 at hJ
  refine lv_iload_n hx hb dX10_onRings_2 rfl (lv_at hl 1 rfl) ?_
  refine lv_aload_n hx hb dX10_onRings_3 rfl (lv_at hl 0 rfl) ?_
  refine fg_1357 C w hk0 tw_6_220 dX10_onRings_4 ?_
  obtain ⟨a20, ea20, hka20, hJ⟩ := dr_some hJ
  rw [ea20]
  refine jr_alenM C w hka20 (by decide) dX10_onRings_7 ?_
  refine lv_icmp_ge (tgt := 29) hx hb dX10_onRings_8 (by decide) (fun c21 => ?_) (fun c21 => ?_)
  · have hJ := it_pos c21 hJ
    refine lv_iconst (v := (1 : Int32)) hx hb dX10_onRings_29 (by decide) ?_
    refine lv_istore_n (i := 1) (lv' := [(1, .int (1 : Int32)), (0, .ref t0)]) hx hb dX10_onRings_30 rfl hl (by decide) rfl (fun ls hl => ?_)
    exact sl_X10_onRings_31 C hz2 N t0 N _ _ _ _ _ _ _ hJ hk0 w (lv_sub (l' := [(0, .ref t0), (1, .int (1 : Int32))]) hl [1, 0] rfl)
  · have hJ := it_neg c21 hJ
    refine lv_aload_n hx hb dX10_onRings_11 rfl (lv_at hl 0 rfl) ?_
    refine fg_1357 C w hk0 tw_6_220 dX10_onRings_12 ?_
    refine lv_iload_n hx hb dX10_onRings_15 rfl (lv_at hl 1 rfl) ?_
    refine lv_aload_n hx hb dX10_onRings_16 rfl (lv_at hl 0 rfl) ?_
    refine fg_1356 C w hk0 tw_6_219 dX10_onRings_17 ?_
    refine lv_iload_n hx hb dX10_onRings_20 rfl (lv_at hl 1 rfl) ?_
    obtain ⟨a22, ea22, hka22, hJ⟩ := dr_some hJ
    rw [ea22]
    obtain ⟨hi23, hJ⟩ := ck_some hJ
    refine jr_laldM C w hka22 hi23 dX10_onRings_21 ?_
    obtain ⟨a24, ea24, hka24, hJ⟩ := dr_some hJ
    rw [ea24]
    obtain ⟨hi25, hJ⟩ := ck_some hJ
    refine jr_lastM C w hka24 hi25 dX10_onRings_22 (fun H locs w => ?_)
    refine lv_iinc (v := x1 + (1 : Int32)) (lv' := [(1, .int (x1 + (1 : Int32))), (0, .ref t0)]) hx hb dX10_onRings_23 hl (k := 1) rfl rfl (by decide) rfl (fun ls hl => ?_)
    refine lv_goto (tgt := 2) hx hb dX10_onRings_26 (by decide) ?_
    exact i2 _ _ _ _ _ _ _ hJ hk0 w (lv_sub (l' := [(0, .ref t0), (1, .int (x1 + (1 : Int32)))]) hl [1, 0] rfl)
def L_X10_onRings_2 (N : Nat) (t0 : Nat) : Nat → Hp → Int32 → Option (Hp × Int32)
  | 0 => fun _ _ => none
  | n + 1 => fun h x1 => B_X10_onRings_2 N (L_X10_onRings_2 N t0 n) t0 h x1
theorem ml_X10_onRings_2 (N : Nat) (t0 : Nat) : ∀ (n : Nat) (h : Hp) (x1 : Int32), L_X10_onRings_2 N t0 n h x1 = some (hz, rz) → Mo h hz := by
  intro n
  induction n with
  | zero => intro h x1 hJ; cases hJ
  | succ n ih => intro h x1 hJ; exact mb_X10_onRings_2 N (L_X10_onRings_2 N t0 n) t0 h x1 ih hJ
theorem sl_X10_onRings_2 (C : Cx p s m args meth c cX10_onRings 4 (some .int) RX10 D cs A h0.se) (hz2 : hz.nx ≤ h0.nx + mc ∧ hz.su ≤ h0.su + ms) (N : Nat) (t0 : Nat) : ∀ n : Nat, ∀ (h : Hp) (x1 : Int32) (H : Heap) (locs : List Loc) (cells slots : Nat) (ls : Array Slot), L_X10_onRings_2 N t0 n h x1 = some (hz, rz) → h.kd t0 = 13 → Wo D cs A s h0 h H locs cells slots → lv_has ls 4 [(0, .ref t0), (1, .int x1)] → W p l e { frames := 1, cells := mc, slots := ms, locals := 30 } s m args below meth c H locs cells slots (MQ below (Zi D cs A hz rz) args s mc ms A) (F0 m 2 ls []) := by
  intro n
  induction n with
  | zero => intro h x1 H locs cells slots ls hJ; cases hJ
  | succ n ih =>
    intro h x1 H locs cells slots ls hJ hk0 w hl
    exact sb_X10_onRings_2 C hz2 N (L_X10_onRings_2 N t0 n) t0 (ml_X10_onRings_2 N t0 n) ih h x1 hJ hk0 w hl
def B_X10_onRings_0 (N : Nat) (t0 : Nat) (h : Hp) : Option (Hp × Int32) := L_X10_onRings_2 N t0 N h (0 : Int32)
theorem mb_X10_onRings_0 (N : Nat) (t0 : Nat) (h : Hp) (hJ : B_X10_onRings_0 N t0 h = some (hz, rz)) : Mo h hz := by
  unfold B_X10_onRings_0 at hJ
  exact ml_X10_onRings_2 N t0 N _ _ hJ
set_option maxRecDepth 100000 in
set_option maxHeartbeats 4000000 in
theorem sb_X10_onRings_0 (C : Cx p s m args meth c cX10_onRings 4 (some .int) RX10 D cs A h0.se) (hz2 : hz.nx ≤ h0.nx + mc ∧ hz.su ≤ h0.su + ms) (N : Nat) (t0 : Nat) (h : Hp) (hJ : B_X10_onRings_0 N t0 h = some (hz, rz)) (hk0 : h.kd t0 = 13) {H : Heap} {locs : List Loc} {cells slots : Nat} (w : Wo D cs A s h0 h H locs cells slots) {ls : Array Slot} (hl : lv_has ls 4 [(0, .ref t0)]) : W p l e { frames := 1, cells := mc, slots := ms, locals := 30 } s m args below meth c H locs cells slots (MQ below (Zi D cs A hz rz) args s mc ms A) (F0 m 0 ls []) := by
  obtain ⟨hx, hb, hml, hown, hts, -⟩ := id C
  unfold B_X10_onRings_0 at hJ
  refine lv_iconst (v := (0 : Int32)) hx hb dX10_onRings_0 (by decide) ?_
  refine lv_istore_n (i := 1) (lv' := [(1, .int (0 : Int32)), (0, .ref t0)]) hx hb dX10_onRings_1 rfl hl (by decide) rfl (fun ls hl => ?_)
  exact sl_X10_onRings_2 C hz2 N t0 N _ _ _ _ _ _ _ hJ hk0 w (lv_sub (l' := [(0, .ref t0), (1, .int (0 : Int32))]) hl [1, 0] rfl)
def J_X10_onRings (N : Nat) (t0 : Nat) (h : Hp) : Option (Hp × Int32) := B_X10_onRings_0 N t0 h
theorem mo_X10_onRings (N : Nat) (t0 : Nat) (h : Hp) (hJ : J_X10_onRings N t0 h = some (hz, rz)) : Mo h hz := mb_X10_onRings_0 N t0 h hJ
theorem cd_X10_onRings : Cd yX10_onRings 0 := ⟨by decide +kernel, by decide +kernel, by decide +kernel⟩
theorem cc_X10_onRings (N : Nat) (t0 : Nat) (h : Hp) (hk0 : h.kd t0 = 13) (hJ : J_X10_onRings N t0 h = some (hz, rz)) : Ci l yX10_onRings cX10_onRings 4 (some .int) 1 30 D cs h hz [.ref t0] rz := by
  intro mc ms g1 g2
  refine je_any (by decide) (by simp [lg_sl, rf_cat, cat_i, cat_l, cat_r]) ?_
  intro p e s m args below meth c C hin2 w ls hl
  have hl : lv_has ls 4 [(0, .ref t0)] := hl
  exact sb_X10_onRings_0 C ⟨g1, g2⟩ N t0 h hJ hk0 w hl
end G_X10_onRings
section G_X10_astray
variable {p : Program} {l : Launch} {e : Env} {s : State} {m : MethodId} {args : Array Value} {below : List Frame} {meth : Method} {c : Code} {D : va_G} {cs : C4} {A : Nat → Prop} {h0 hz : Hp} {mc ms : Nat} {rz : Int32}
def B_X10_astray_77 (N : Nat) (k49 : Hp → Int32 → Option (Hp × Int32)) (t0 : Nat) (h : Hp) (x2 : Int32) (y0 : Option Nat) (y1 : Int32) (y2 : Int32) : Option (Hp × Int32) := dr h 32 y0 (fun a1 => ck (¬ (y1 < 0 ∨ h.al a1 ≤ y1.toNatClampNeg)) (ck (y2 = 0 ∨ y2 = 1) (k49 (h.sbi a1 y1.toNatClampNeg y2) (x2 + (1 : Int32)))))
theorem mb_X10_astray_77 (N : Nat) (k49 : Hp → Int32 → Option (Hp × Int32)) (t0 : Nat) (h : Hp) (x2 : Int32) (y0 : Option Nat) (y1 : Int32) (y2 : Int32) (m49 : ∀ (h : Hp) (x2 : Int32), k49 h x2 = some (hz, rz) → Mo h hz) (hJ : B_X10_astray_77 N k49 t0 h x2 y0 y1 y2 = some (hz, rz)) : Mo h hz := by
  unfold B_X10_astray_77 at hJ
  obtain ⟨a1, ea1, -, hJ⟩ := dr_some hJ
  obtain ⟨-, hJ⟩ := ck_some hJ
  obtain ⟨-, hJ⟩ := ck_some hJ
  exact (Mo.tr (show Mo h (h.sbi a1 y1.toNatClampNeg y2) from ⟨fun _ _ => rfl, Nat.le_refl _, Nat.le_refl _, rfl, fun _ _ => rfl⟩) (m49 _ _ hJ))
set_option maxRecDepth 100000 in
set_option maxHeartbeats 4000000 in
theorem sb_X10_astray_77 (C : Cx p s m args meth c cX10_astray 7 (some .int) RX10 D cs A h0.se) (hz2 : hz.nx ≤ h0.nx + mc ∧ hz.su ≤ h0.su + ms) (N : Nat) (k49 : Hp → Int32 → Option (Hp × Int32)) (t0 : Nat) (m49 : ∀ (h : Hp) (x2 : Int32), k49 h x2 = some (hz, rz) → Mo h hz) (i49 : ∀ (h : Hp) (x2 : Int32) (H : Heap) (locs : List Loc) (cells slots : Nat) (ls : Array Slot), k49 h x2 = some (hz, rz) → h.kd t0 = 13 → Wo D cs A s h0 h H locs cells slots → lv_has ls 7 [(0, .ref t0), (2, .int x2)] → W p l e { frames := 5, cells := mc, slots := ms, locals := 150 } s m args below meth c H locs cells slots (MQ below (Zi D cs A hz rz) args s mc ms A) (F0 m 49 ls [])) (h : Hp) (x2 : Int32) (y0 : Option Nat) (y1 : Int32) (y2 : Int32) (hJ : B_X10_astray_77 N k49 t0 h x2 y0 y1 y2 = some (hz, rz)) (hk0 : h.kd t0 = 13) {H : Heap} {locs : List Loc} {cells slots : Nat} (w : Wo D cs A s h0 h H locs cells slots) {ls : Array Slot} (hl : lv_has ls 7 [(0, .ref t0), (2, .int x2)]) : W p l e { frames := 5, cells := mc, slots := ms, locals := 150 } s m args below meth c H locs cells slots (MQ below (Zi D cs A hz rz) args s mc ms A) (F0 m 77 ls [.int y2, .int y1, va_rf y0]) := by
  obtain ⟨hx, hb, hml, hown, hts, -⟩ := id C
  unfold B_X10_astray_77 at hJ
  obtain ⟨a1, ea1, hka1, hJ⟩ := dr_some hJ
  rw [ea1]
  obtain ⟨hi2, hJ⟩ := ck_some hJ
  obtain ⟨hzo3, hJ⟩ := ck_some hJ
  refine jr_zastM C w hka1 hi2 hzo3 dX10_astray_77 (fun H locs w => ?_)
  refine lv_iinc (v := x2 + (1 : Int32)) (lv' := [(2, .int (x2 + (1 : Int32))), (0, .ref t0)]) hx hb dX10_astray_78 hl (k := 1) rfl rfl (by decide) rfl (fun ls hl => ?_)
  refine lv_goto (tgt := 49) hx hb dX10_astray_81 (by decide) ?_
  exact i49 _ _ _ _ _ _ _ hJ hk0 w (lv_sub (l' := [(0, .ref t0), (2, .int (x2 + (1 : Int32)))]) hl [1, 0] rfl)
def B_X10_astray_156 (N : Nat) (k88 : Hp → Int32 → Int32 → Option (Hp × Int32)) (k102 : Hp → Int32 → Int32 → Int32 → Int32 → Option (Hp × Int32)) (t0 : Nat) (h : Hp) (x2 : Int32) (x3 : Int32) (x4 : Int32) (x5 : Int32) : Option (Hp × Int32) := k102 h x2 x3 x4 (x5 + (1 : Int32))
theorem mb_X10_astray_156 (N : Nat) (k88 : Hp → Int32 → Int32 → Option (Hp × Int32)) (k102 : Hp → Int32 → Int32 → Int32 → Int32 → Option (Hp × Int32)) (t0 : Nat) (h : Hp) (x2 : Int32) (x3 : Int32) (x4 : Int32) (x5 : Int32) (m88 : ∀ (h : Hp) (x2 : Int32) (x3 : Int32), k88 h x2 x3 = some (hz, rz) → Mo h hz) (m102 : ∀ (h : Hp) (x2 : Int32) (x3 : Int32) (x4 : Int32) (x5 : Int32), k102 h x2 x3 x4 x5 = some (hz, rz) → Mo h hz) (hJ : B_X10_astray_156 N k88 k102 t0 h x2 x3 x4 x5 = some (hz, rz)) : Mo h hz := by
  unfold B_X10_astray_156 at hJ
  exact m102 _ _ _ _ _ hJ
set_option maxRecDepth 100000 in
set_option maxHeartbeats 4000000 in
theorem sb_X10_astray_156 (C : Cx p s m args meth c cX10_astray 7 (some .int) RX10 D cs A h0.se) (hz2 : hz.nx ≤ h0.nx + mc ∧ hz.su ≤ h0.su + ms) (N : Nat) (k88 : Hp → Int32 → Int32 → Option (Hp × Int32)) (k102 : Hp → Int32 → Int32 → Int32 → Int32 → Option (Hp × Int32)) (t0 : Nat) (m88 : ∀ (h : Hp) (x2 : Int32) (x3 : Int32), k88 h x2 x3 = some (hz, rz) → Mo h hz) (m102 : ∀ (h : Hp) (x2 : Int32) (x3 : Int32) (x4 : Int32) (x5 : Int32), k102 h x2 x3 x4 x5 = some (hz, rz) → Mo h hz) (i88 : ∀ (h : Hp) (x2 : Int32) (x3 : Int32) (H : Heap) (locs : List Loc) (cells slots : Nat) (ls : Array Slot), k88 h x2 x3 = some (hz, rz) → h.kd t0 = 13 → Wo D cs A s h0 h H locs cells slots → lv_has ls 7 [(0, .ref t0), (2, .int x2), (3, .int x3)] → W p l e { frames := 5, cells := mc, slots := ms, locals := 150 } s m args below meth c H locs cells slots (MQ below (Zi D cs A hz rz) args s mc ms A) (F0 m 88 ls [])) (i102 : ∀ (h : Hp) (x2 : Int32) (x3 : Int32) (x4 : Int32) (x5 : Int32) (H : Heap) (locs : List Loc) (cells slots : Nat) (ls : Array Slot), k102 h x2 x3 x4 x5 = some (hz, rz) → h.kd t0 = 13 → Wo D cs A s h0 h H locs cells slots → lv_has ls 7 [(0, .ref t0), (2, .int x2), (3, .int x3), (4, .int x4), (5, .int x5)] → W p l e { frames := 5, cells := mc, slots := ms, locals := 150 } s m args below meth c H locs cells slots (MQ below (Zi D cs A hz rz) args s mc ms A) (F0 m 102 ls [])) (h : Hp) (x2 : Int32) (x3 : Int32) (x4 : Int32) (x5 : Int32) (hJ : B_X10_astray_156 N k88 k102 t0 h x2 x3 x4 x5 = some (hz, rz)) (hk0 : h.kd t0 = 13) {H : Heap} {locs : List Loc} {cells slots : Nat} (w : Wo D cs A s h0 h H locs cells slots) {ls : Array Slot} (hl : lv_has ls 7 [(0, .ref t0), (2, .int x2), (3, .int x3), (4, .int x4), (5, .int x5)]) : W p l e { frames := 5, cells := mc, slots := ms, locals := 150 } s m args below meth c H locs cells slots (MQ below (Zi D cs A hz rz) args s mc ms A) (F0 m 156 ls []) := by
  obtain ⟨hx, hb, hml, hown, hts, -⟩ := id C
  unfold B_X10_astray_156 at hJ
  refine lv_iinc (v := x5 + (1 : Int32)) (lv' := [(5, .int (x5 + (1 : Int32))), (0, .ref t0), (2, .int x2), (3, .int x3), (4, .int x4)]) hx hb dX10_astray_156 hl (k := 4) rfl rfl (by decide) rfl (fun ls hl => ?_)
  refine lv_goto (tgt := 102) hx hb dX10_astray_159 (by decide) ?_
  exact i102 _ _ _ _ _ _ _ _ _ _ hJ hk0 w (lv_sub (l' := [(0, .ref t0), (2, .int x2), (3, .int x3), (4, .int x4), (5, .int (x5 + (1 : Int32)))]) hl [1, 2, 3, 4, 0] rfl)
def B_X10_astray_149 (N : Nat) (k88 : Hp → Int32 → Int32 → Option (Hp × Int32)) (k102 : Hp → Int32 → Int32 → Int32 → Int32 → Option (Hp × Int32)) (t0 : Nat) (h : Hp) (x2 : Int32) (x3 : Int32) (x4 : Int32) (x5 : Int32) (y0 : Int32) : Option (Hp × Int32) := if y0 = 0 then (B_X10_astray_156 N k88 k102 t0 h x2 x3 x4 x5) else (B_X10_astray_156 N k88 k102 t0 h x2 x3 x5 x5)
theorem mb_X10_astray_149 (N : Nat) (k88 : Hp → Int32 → Int32 → Option (Hp × Int32)) (k102 : Hp → Int32 → Int32 → Int32 → Int32 → Option (Hp × Int32)) (t0 : Nat) (h : Hp) (x2 : Int32) (x3 : Int32) (x4 : Int32) (x5 : Int32) (y0 : Int32) (m88 : ∀ (h : Hp) (x2 : Int32) (x3 : Int32), k88 h x2 x3 = some (hz, rz) → Mo h hz) (m102 : ∀ (h : Hp) (x2 : Int32) (x3 : Int32) (x4 : Int32) (x5 : Int32), k102 h x2 x3 x4 x5 = some (hz, rz) → Mo h hz) (hJ : B_X10_astray_149 N k88 k102 t0 h x2 x3 x4 x5 y0 = some (hz, rz)) : Mo h hz := by
  unfold B_X10_astray_149 at hJ
  by_cases c4 : y0 = 0
  · have hJ := it_pos c4 hJ
    exact mb_X10_astray_156 N k88 k102 t0 _ _ _ _ _ m88 m102 hJ
  · have hJ := it_neg c4 hJ
    exact mb_X10_astray_156 N k88 k102 t0 _ _ _ _ _ m88 m102 hJ
set_option maxRecDepth 100000 in
set_option maxHeartbeats 4000000 in
theorem sb_X10_astray_149 (C : Cx p s m args meth c cX10_astray 7 (some .int) RX10 D cs A h0.se) (hz2 : hz.nx ≤ h0.nx + mc ∧ hz.su ≤ h0.su + ms) (N : Nat) (k88 : Hp → Int32 → Int32 → Option (Hp × Int32)) (k102 : Hp → Int32 → Int32 → Int32 → Int32 → Option (Hp × Int32)) (t0 : Nat) (m88 : ∀ (h : Hp) (x2 : Int32) (x3 : Int32), k88 h x2 x3 = some (hz, rz) → Mo h hz) (m102 : ∀ (h : Hp) (x2 : Int32) (x3 : Int32) (x4 : Int32) (x5 : Int32), k102 h x2 x3 x4 x5 = some (hz, rz) → Mo h hz) (i88 : ∀ (h : Hp) (x2 : Int32) (x3 : Int32) (H : Heap) (locs : List Loc) (cells slots : Nat) (ls : Array Slot), k88 h x2 x3 = some (hz, rz) → h.kd t0 = 13 → Wo D cs A s h0 h H locs cells slots → lv_has ls 7 [(0, .ref t0), (2, .int x2), (3, .int x3)] → W p l e { frames := 5, cells := mc, slots := ms, locals := 150 } s m args below meth c H locs cells slots (MQ below (Zi D cs A hz rz) args s mc ms A) (F0 m 88 ls [])) (i102 : ∀ (h : Hp) (x2 : Int32) (x3 : Int32) (x4 : Int32) (x5 : Int32) (H : Heap) (locs : List Loc) (cells slots : Nat) (ls : Array Slot), k102 h x2 x3 x4 x5 = some (hz, rz) → h.kd t0 = 13 → Wo D cs A s h0 h H locs cells slots → lv_has ls 7 [(0, .ref t0), (2, .int x2), (3, .int x3), (4, .int x4), (5, .int x5)] → W p l e { frames := 5, cells := mc, slots := ms, locals := 150 } s m args below meth c H locs cells slots (MQ below (Zi D cs A hz rz) args s mc ms A) (F0 m 102 ls [])) (h : Hp) (x2 : Int32) (x3 : Int32) (x4 : Int32) (x5 : Int32) (y0 : Int32) (hJ : B_X10_astray_149 N k88 k102 t0 h x2 x3 x4 x5 y0 = some (hz, rz)) (hk0 : h.kd t0 = 13) {H : Heap} {locs : List Loc} {cells slots : Nat} (w : Wo D cs A s h0 h H locs cells slots) {ls : Array Slot} (hl : lv_has ls 7 [(0, .ref t0), (2, .int x2), (3, .int x3), (4, .int x4), (5, .int x5)]) : W p l e { frames := 5, cells := mc, slots := ms, locals := 150 } s m args below meth c H locs cells slots (MQ below (Zi D cs A hz rz) args s mc ms A) (F0 m 149 ls [.int y0]) := by
  obtain ⟨hx, hb, hml, hown, hts, -⟩ := id C
  unfold B_X10_astray_149 at hJ
  refine lv_if_eq (tgt := 156) hx hb dX10_astray_149 (by decide) (fun c4 => ?_) (fun c4 => ?_)
  · have hJ := it_pos c4 hJ
    exact sb_X10_astray_156 C hz2 N k88 k102 t0 m88 m102 i88 i102 _ _ _ _ _ hJ hk0 w hl
  · have hJ := it_neg c4 hJ
    refine lv_iload hx hb dX10_astray_152 (lv_at hl 4 rfl) ?_
    refine lv_istore (i := 4) (lv' := [(4, .int x5), (0, .ref t0), (2, .int x2), (3, .int x3), (5, .int x5)]) hx hb dX10_astray_154 hl (by decide) rfl (fun ls hl => ?_)
    exact sb_X10_astray_156 C hz2 N k88 k102 t0 m88 m102 i88 i102 _ _ _ _ _ hJ hk0 w (lv_sub (l' := [(0, .ref t0), (2, .int x2), (3, .int x3), (4, .int x5), (5, .int x5)]) hl [1, 2, 3, 0, 4] rfl)
def B_X10_astray_143 (N : Nat) (k88 : Hp → Int32 → Int32 → Option (Hp × Int32)) (k102 : Hp → Int32 → Int32 → Int32 → Int32 → Option (Hp × Int32)) (t0 : Nat) (h : Hp) (x2 : Int32) (x3 : Int32) (x4 : Int32) (x5 : Int32) : Option (Hp × Int32) := (J_X10_isFree N t0 h x5).bind (fun z => B_X10_astray_149 N k88 k102 t0 z.1 x2 x3 x4 x5 z.2)
theorem mb_X10_astray_143 (N : Nat) (k88 : Hp → Int32 → Int32 → Option (Hp × Int32)) (k102 : Hp → Int32 → Int32 → Int32 → Int32 → Option (Hp × Int32)) (t0 : Nat) (h : Hp) (x2 : Int32) (x3 : Int32) (x4 : Int32) (x5 : Int32) (m88 : ∀ (h : Hp) (x2 : Int32) (x3 : Int32), k88 h x2 x3 = some (hz, rz) → Mo h hz) (m102 : ∀ (h : Hp) (x2 : Int32) (x3 : Int32) (x4 : Int32) (x5 : Int32), k102 h x2 x3 x4 x5 = some (hz, rz) → Mo h hz) (hJ : B_X10_astray_143 N k88 k102 t0 h x2 x3 x4 x5 = some (hz, rz)) : Mo h hz := by
  unfold B_X10_astray_143 at hJ
  obtain ⟨⟨h5, r6⟩, e7, hJ⟩ := ob_some hJ
  exact (mo_X10_isFree N t0 h x5 e7).tr (mb_X10_astray_149 N k88 k102 t0 _ _ _ _ _ _ m88 m102 hJ)
set_option maxRecDepth 100000 in
set_option maxHeartbeats 4000000 in
theorem sb_X10_astray_143 (C : Cx p s m args meth c cX10_astray 7 (some .int) RX10 D cs A h0.se) (hz2 : hz.nx ≤ h0.nx + mc ∧ hz.su ≤ h0.su + ms) (N : Nat) (k88 : Hp → Int32 → Int32 → Option (Hp × Int32)) (k102 : Hp → Int32 → Int32 → Int32 → Int32 → Option (Hp × Int32)) (t0 : Nat) (m88 : ∀ (h : Hp) (x2 : Int32) (x3 : Int32), k88 h x2 x3 = some (hz, rz) → Mo h hz) (m102 : ∀ (h : Hp) (x2 : Int32) (x3 : Int32) (x4 : Int32) (x5 : Int32), k102 h x2 x3 x4 x5 = some (hz, rz) → Mo h hz) (i88 : ∀ (h : Hp) (x2 : Int32) (x3 : Int32) (H : Heap) (locs : List Loc) (cells slots : Nat) (ls : Array Slot), k88 h x2 x3 = some (hz, rz) → h.kd t0 = 13 → Wo D cs A s h0 h H locs cells slots → lv_has ls 7 [(0, .ref t0), (2, .int x2), (3, .int x3)] → W p l e { frames := 5, cells := mc, slots := ms, locals := 150 } s m args below meth c H locs cells slots (MQ below (Zi D cs A hz rz) args s mc ms A) (F0 m 88 ls [])) (i102 : ∀ (h : Hp) (x2 : Int32) (x3 : Int32) (x4 : Int32) (x5 : Int32) (H : Heap) (locs : List Loc) (cells slots : Nat) (ls : Array Slot), k102 h x2 x3 x4 x5 = some (hz, rz) → h.kd t0 = 13 → Wo D cs A s h0 h H locs cells slots → lv_has ls 7 [(0, .ref t0), (2, .int x2), (3, .int x3), (4, .int x4), (5, .int x5)] → W p l e { frames := 5, cells := mc, slots := ms, locals := 150 } s m args below meth c H locs cells slots (MQ below (Zi D cs A hz rz) args s mc ms A) (F0 m 102 ls [])) (h : Hp) (x2 : Int32) (x3 : Int32) (x4 : Int32) (x5 : Int32) (hJ : B_X10_astray_143 N k88 k102 t0 h x2 x3 x4 x5 = some (hz, rz)) (hk0 : h.kd t0 = 13) {H : Heap} {locs : List Loc} {cells slots : Nat} (w : Wo D cs A s h0 h H locs cells slots) {ls : Array Slot} (hl : lv_has ls 7 [(0, .ref t0), (2, .int x2), (3, .int x3), (4, .int x4), (5, .int x5)]) : W p l e { frames := 5, cells := mc, slots := ms, locals := 150 } s m args below meth c H locs cells slots (MQ below (Zi D cs A hz rz) args s mc ms A) (F0 m 143 ls []) := by
  obtain ⟨hx, hb, hml, hown, hts, -⟩ := id C
  unfold B_X10_astray_143 at hJ
  refine lv_aload_n hx hb dX10_astray_143 rfl (lv_at hl 0 rfl) ?_
  refine lv_iload hx hb dX10_astray_144 (lv_at hl 4 rfl) ?_
  obtain ⟨⟨h5, r6⟩, e7, hJ⟩ := ob_some hJ
  refine jc_Vi (As := [.int x5]) C w (cc_X10_isFree N t0 h x5 hk0 e7) (mo_X10_isFree N t0 h x5 e7) (mb_X10_astray_149 N k88 k102 t0 _ _ _ _ _ _ m88 m102 hJ) hz2 hk0 (by decide) rfl (fs := fs13 h t0) rfl rfl ⟨tw_8_135, tw_8_132, tw_8_134, ts_70, tw_1_7⟩ cd_X10_isFree ⟨by decide, by decide⟩ hl.1 (by first | exact Nat.le_of_ble_eq_true rfl | simp [rf_cat, cat_i, cat_l, cat_r]) rfl dX10_astray_146 (fun H locs w1 => ?_)
  have hk8 := kd_keep w (mo_X10_isFree N t0 h x5 e7) hk0 (by decide)
  have w := w1
  exact sb_X10_astray_149 C hz2 N k88 k102 t0 m88 m102 i88 i102 _ _ _ _ _ _ hJ hk8 w hl
def B_X10_astray_169 (N : Nat) (k88 : Hp → Int32 → Int32 → Option (Hp × Int32)) (t0 : Nat) (h : Hp) (x3 : Int32) (x4 : Int32) (y0 : Int32) (y1 : Int32) : Option (Hp × Int32) := dr h 32 (h.gr 1366 t0) (fun a9 => ck (¬ (x4 < 0 ∨ h.al a9 ≤ x4.toNatClampNeg)) (k88 (h.sbi a9 x4.toNatClampNeg (1 : Int32)) (y0 + y1) (x3 + (1 : Int32))))
theorem mb_X10_astray_169 (N : Nat) (k88 : Hp → Int32 → Int32 → Option (Hp × Int32)) (t0 : Nat) (h : Hp) (x3 : Int32) (x4 : Int32) (y0 : Int32) (y1 : Int32) (m88 : ∀ (h : Hp) (x2 : Int32) (x3 : Int32), k88 h x2 x3 = some (hz, rz) → Mo h hz) (hJ : B_X10_astray_169 N k88 t0 h x3 x4 y0 y1 = some (hz, rz)) : Mo h hz := by
  unfold B_X10_astray_169 at hJ
  obtain ⟨a9, ea9, -, hJ⟩ := dr_some hJ
  obtain ⟨-, hJ⟩ := ck_some hJ
  exact (Mo.tr (show Mo h (h.sbi a9 x4.toNatClampNeg (1 : Int32)) from ⟨fun _ _ => rfl, Nat.le_refl _, Nat.le_refl _, rfl, fun _ _ => rfl⟩) (m88 _ _ _ hJ))
set_option maxRecDepth 100000 in
set_option maxHeartbeats 4000000 in
theorem sb_X10_astray_169 (C : Cx p s m args meth c cX10_astray 7 (some .int) RX10 D cs A h0.se) (hz2 : hz.nx ≤ h0.nx + mc ∧ hz.su ≤ h0.su + ms) (N : Nat) (k88 : Hp → Int32 → Int32 → Option (Hp × Int32)) (t0 : Nat) (m88 : ∀ (h : Hp) (x2 : Int32) (x3 : Int32), k88 h x2 x3 = some (hz, rz) → Mo h hz) (i88 : ∀ (h : Hp) (x2 : Int32) (x3 : Int32) (H : Heap) (locs : List Loc) (cells slots : Nat) (ls : Array Slot), k88 h x2 x3 = some (hz, rz) → h.kd t0 = 13 → Wo D cs A s h0 h H locs cells slots → lv_has ls 7 [(0, .ref t0), (2, .int x2), (3, .int x3)] → W p l e { frames := 5, cells := mc, slots := ms, locals := 150 } s m args below meth c H locs cells slots (MQ below (Zi D cs A hz rz) args s mc ms A) (F0 m 88 ls [])) (h : Hp) (x3 : Int32) (x4 : Int32) (y0 : Int32) (y1 : Int32) (hJ : B_X10_astray_169 N k88 t0 h x3 x4 y0 y1 = some (hz, rz)) (hk0 : h.kd t0 = 13) {H : Heap} {locs : List Loc} {cells slots : Nat} (w : Wo D cs A s h0 h H locs cells slots) {ls : Array Slot} (hl : lv_has ls 7 [(0, .ref t0), (3, .int x3), (4, .int x4)]) : W p l e { frames := 5, cells := mc, slots := ms, locals := 150 } s m args below meth c H locs cells slots (MQ below (Zi D cs A hz rz) args s mc ms A) (F0 m 169 ls [.int y1, .int y0]) := by
  obtain ⟨hx, hb, hml, hown, hts, -⟩ := id C
  unfold B_X10_astray_169 at hJ
  refine lv_iadd hx hb dX10_astray_169 ?_
  refine lv_istore_n (i := 2) (lv' := [(2, .int (y0 + y1)), (0, .ref t0), (3, .int x3), (4, .int x4)]) hx hb dX10_astray_170 rfl hl (by decide) rfl (fun ls hl => ?_)
  refine lv_aload_n hx hb dX10_astray_171 rfl (lv_at hl 1 rfl) ?_
  refine fg_1366 C w hk0 tw_6_229 dX10_astray_172 ?_
  refine lv_iload hx hb dX10_astray_175 (lv_at hl 3 rfl) ?_
  refine lv_iconst (v := (1 : Int32)) hx hb dX10_astray_177 (by decide) ?_
  obtain ⟨a9, ea9, hka9, hJ⟩ := dr_some hJ
  rw [ea9]
  obtain ⟨hi10, hJ⟩ := ck_some hJ
  refine jr_zastM C w hka9 hi10 (Or.inr rfl) dX10_astray_178 (fun H locs w => ?_)
  refine lv_iinc (v := x3 + (1 : Int32)) (lv' := [(3, .int (x3 + (1 : Int32))), (2, .int (y0 + y1)), (0, .ref t0), (4, .int x4)]) hx hb dX10_astray_179 hl (k := 2) rfl rfl (by decide) rfl (fun ls hl => ?_)
  refine lv_goto (tgt := 88) hx hb dX10_astray_182 (by decide) ?_
  exact i88 _ _ _ _ _ _ _ _ hJ hk0 w (lv_sub (l' := [(0, .ref t0), (2, .int (y0 + y1)), (3, .int (x3 + (1 : Int32)))]) hl [2, 1, 0] rfl)
def B_X10_astray_102 (N : Nat) (k88 : Hp → Int32 → Int32 → Option (Hp × Int32)) (k102 : Hp → Int32 → Int32 → Int32 → Int32 → Option (Hp × Int32)) (t0 : Nat) (h : Hp) (x2 : Int32) (x3 : Int32) (x4 : Int32) (x5 : Int32) : Option (Hp × Int32) := if (h.gi 1311 t0) < x5 then ((J_X10_again N t0 h x4).bind (fun z => B_X10_astray_169 N k88 t0 z.1 x3 x4 x2 z.2)) else (dr h 32 (h.gr 1366 t0) (fun a16 => ck (¬ (x5 < 0 ∨ h.al a16 ≤ x5.toNatClampNeg)) (if (h.bi a16 x5.toNatClampNeg) = 0 then (if x4 = 0 then (B_X10_astray_143 N k88 k102 t0 h x2 x3 x4 x5) else (dr h 30 (h.gr 1304 t0) (fun a20 => ck (¬ (x5 < 0 ∨ h.al a20 ≤ x5.toNatClampNeg)) (dr h 30 (h.gr 1304 t0) (fun a22 => ck (¬ (x4 < 0 ∨ h.al a22 ≤ x4.toNatClampNeg)) (if (h.bi a22 x4.toNatClampNeg) ≤ (h.bi a20 x5.toNatClampNeg) then (B_X10_astray_156 N k88 k102 t0 h x2 x3 x4 x5) else (B_X10_astray_143 N k88 k102 t0 h x2 x3 x4 x5))))))) else (B_X10_astray_156 N k88 k102 t0 h x2 x3 x4 x5))))
theorem mb_X10_astray_102 (N : Nat) (k88 : Hp → Int32 → Int32 → Option (Hp × Int32)) (k102 : Hp → Int32 → Int32 → Int32 → Int32 → Option (Hp × Int32)) (t0 : Nat) (h : Hp) (x2 : Int32) (x3 : Int32) (x4 : Int32) (x5 : Int32) (m88 : ∀ (h : Hp) (x2 : Int32) (x3 : Int32), k88 h x2 x3 = some (hz, rz) → Mo h hz) (m102 : ∀ (h : Hp) (x2 : Int32) (x3 : Int32) (x4 : Int32) (x5 : Int32), k102 h x2 x3 x4 x5 = some (hz, rz) → Mo h hz) (hJ : B_X10_astray_102 N k88 k102 t0 h x2 x3 x4 x5 = some (hz, rz)) : Mo h hz := by
  unfold B_X10_astray_102 at hJ
  by_cases c11 : (h.gi 1311 t0) < x5
  · have hJ := it_pos c11 hJ
    obtain ⟨⟨h12, r13⟩, e14, hJ⟩ := ob_some hJ
    exact (mo_X10_again N t0 h x4 e14).tr (mb_X10_astray_169 N k88 t0 _ _ _ _ _ m88 hJ)
  · have hJ := it_neg c11 hJ
    obtain ⟨a16, ea16, -, hJ⟩ := dr_some hJ
    obtain ⟨-, hJ⟩ := ck_some hJ
    by_cases c18 : (h.bi a16 x5.toNatClampNeg) = 0
    · have hJ := it_pos c18 hJ
      by_cases c19 : x4 = 0
      · have hJ := it_pos c19 hJ
        exact mb_X10_astray_143 N k88 k102 t0 _ _ _ _ _ m88 m102 hJ
      · have hJ := it_neg c19 hJ
        obtain ⟨a20, ea20, -, hJ⟩ := dr_some hJ
        obtain ⟨-, hJ⟩ := ck_some hJ
        obtain ⟨a22, ea22, -, hJ⟩ := dr_some hJ
        obtain ⟨-, hJ⟩ := ck_some hJ
        by_cases c24 : (h.bi a22 x4.toNatClampNeg) ≤ (h.bi a20 x5.toNatClampNeg)
        · have hJ := it_pos c24 hJ
          exact mb_X10_astray_156 N k88 k102 t0 _ _ _ _ _ m88 m102 hJ
        · have hJ := it_neg c24 hJ
          exact mb_X10_astray_143 N k88 k102 t0 _ _ _ _ _ m88 m102 hJ
    · have hJ := it_neg c18 hJ
      exact mb_X10_astray_156 N k88 k102 t0 _ _ _ _ _ m88 m102 hJ
set_option maxRecDepth 100000 in
set_option maxHeartbeats 4000000 in
theorem sb_X10_astray_102 (C : Cx p s m args meth c cX10_astray 7 (some .int) RX10 D cs A h0.se) (hz2 : hz.nx ≤ h0.nx + mc ∧ hz.su ≤ h0.su + ms) (N : Nat) (k88 : Hp → Int32 → Int32 → Option (Hp × Int32)) (k102 : Hp → Int32 → Int32 → Int32 → Int32 → Option (Hp × Int32)) (t0 : Nat) (m88 : ∀ (h : Hp) (x2 : Int32) (x3 : Int32), k88 h x2 x3 = some (hz, rz) → Mo h hz) (m102 : ∀ (h : Hp) (x2 : Int32) (x3 : Int32) (x4 : Int32) (x5 : Int32), k102 h x2 x3 x4 x5 = some (hz, rz) → Mo h hz) (i88 : ∀ (h : Hp) (x2 : Int32) (x3 : Int32) (H : Heap) (locs : List Loc) (cells slots : Nat) (ls : Array Slot), k88 h x2 x3 = some (hz, rz) → h.kd t0 = 13 → Wo D cs A s h0 h H locs cells slots → lv_has ls 7 [(0, .ref t0), (2, .int x2), (3, .int x3)] → W p l e { frames := 5, cells := mc, slots := ms, locals := 150 } s m args below meth c H locs cells slots (MQ below (Zi D cs A hz rz) args s mc ms A) (F0 m 88 ls [])) (i102 : ∀ (h : Hp) (x2 : Int32) (x3 : Int32) (x4 : Int32) (x5 : Int32) (H : Heap) (locs : List Loc) (cells slots : Nat) (ls : Array Slot), k102 h x2 x3 x4 x5 = some (hz, rz) → h.kd t0 = 13 → Wo D cs A s h0 h H locs cells slots → lv_has ls 7 [(0, .ref t0), (2, .int x2), (3, .int x3), (4, .int x4), (5, .int x5)] → W p l e { frames := 5, cells := mc, slots := ms, locals := 150 } s m args below meth c H locs cells slots (MQ below (Zi D cs A hz rz) args s mc ms A) (F0 m 102 ls [])) (h : Hp) (x2 : Int32) (x3 : Int32) (x4 : Int32) (x5 : Int32) (hJ : B_X10_astray_102 N k88 k102 t0 h x2 x3 x4 x5 = some (hz, rz)) (hk0 : h.kd t0 = 13) {H : Heap} {locs : List Loc} {cells slots : Nat} (w : Wo D cs A s h0 h H locs cells slots) {ls : Array Slot} (hl : lv_has ls 7 [(0, .ref t0), (2, .int x2), (3, .int x3), (4, .int x4), (5, .int x5)]) : W p l e { frames := 5, cells := mc, slots := ms, locals := 150 } s m args below meth c H locs cells slots (MQ below (Zi D cs A hz rz) args s mc ms A) (F0 m 102 ls []) := by
  obtain ⟨hx, hb, hml, hown, hts, -⟩ := id C
  unfold B_X10_astray_102 at hJ
  refine lv_iload hx hb dX10_astray_102 (lv_at hl 4 rfl) ?_
  refine lv_aload_n hx hb dX10_astray_104 rfl (lv_at hl 0 rfl) ?_
  refine fg_1311 C w hk0 tw_6_174 dX10_astray_105 ?_
  refine lv_icmp_gt (tgt := 162) hx hb dX10_astray_108 (by decide) (fun c11 => ?_) (fun c11 => ?_)
  · have hJ := it_pos c11 hJ
    refine lv_iload_n hx hb dX10_astray_162 rfl (lv_at hl 1 rfl) ?_
    refine lv_aload_n hx hb dX10_astray_163 rfl (lv_at hl 0 rfl) ?_
    refine lv_iload hx hb dX10_astray_164 (lv_at hl 3 rfl) ?_
    obtain ⟨⟨h12, r13⟩, e14, hJ⟩ := ob_some hJ
    refine jc_Vi (As := [.int x4]) C w (cc_X10_again N t0 h x4 hk0 e14) (mo_X10_again N t0 h x4 e14) (mb_X10_astray_169 N k88 t0 _ _ _ _ _ m88 hJ) hz2 hk0 (by decide) rfl (fs := fs13 h t0) rfl rfl ⟨tw_8_139, tw_8_136, tw_8_138, ts_71, tw_1_7⟩ cd_X10_again ⟨by decide, by decide⟩ hl.1 (by first | exact Nat.le_of_ble_eq_true rfl | simp [rf_cat, cat_i, cat_l, cat_r]) rfl dX10_astray_166 (fun H locs w1 => ?_)
    have hk15 := kd_keep w (mo_X10_again N t0 h x4 e14) hk0 (by decide)
    have w := w1
    exact sb_X10_astray_169 C hz2 N k88 t0 m88 i88 _ _ _ _ _ hJ hk15 w (lv_sub (l' := [(0, .ref t0), (3, .int x3), (4, .int x4)]) hl [0, 2, 3] rfl)
  · have hJ := it_neg c11 hJ
    refine lv_aload_n hx hb dX10_astray_111 rfl (lv_at hl 0 rfl) ?_
    refine fg_1366 C w hk0 tw_6_229 dX10_astray_112 ?_
    refine lv_iload hx hb dX10_astray_115 (lv_at hl 4 rfl) ?_
    obtain ⟨a16, ea16, hka16, hJ⟩ := dr_some hJ
    rw [ea16]
    obtain ⟨hi17, hJ⟩ := ck_some hJ
    refine jr_zaldM C w hka16 hi17 dX10_astray_117 ?_
    refine lv_if_ne (tgt := 156) hx hb dX10_astray_118 (by decide) (fun c18 => ?_) (fun c18 => ?_)
    · have hJ := it_neg c18 hJ
      exact sb_X10_astray_156 C hz2 N k88 k102 t0 m88 m102 i88 i102 _ _ _ _ _ hJ hk0 w hl
    · have hJ := it_pos c18 hJ
      refine lv_iload hx hb dX10_astray_121 (lv_at hl 3 rfl) ?_
      refine lv_if_eq (tgt := 143) hx hb dX10_astray_123 (by decide) (fun c19 => ?_) (fun c19 => ?_)
      · have hJ := it_pos c19 hJ
        exact sb_X10_astray_143 C hz2 N k88 k102 t0 m88 m102 i88 i102 _ _ _ _ _ hJ hk0 w hl
      · have hJ := it_neg c19 hJ
        refine lv_aload_n hx hb dX10_astray_126 rfl (lv_at hl 0 rfl) ?_
        refine fg_1304 C w hk0 tw_6_167 dX10_astray_127 ?_
        refine lv_iload hx hb dX10_astray_130 (lv_at hl 4 rfl) ?_
        obtain ⟨a20, ea20, hka20, hJ⟩ := dr_some hJ
        rw [ea20]
        obtain ⟨hi21, hJ⟩ := ck_some hJ
        refine jr_ialdM C w hka20 hi21 dX10_astray_132 ?_
        refine lv_aload_n hx hb dX10_astray_133 rfl (lv_at hl 0 rfl) ?_
        refine fg_1304 C w hk0 tw_6_167 dX10_astray_134 ?_
        refine lv_iload hx hb dX10_astray_137 (lv_at hl 3 rfl) ?_
        obtain ⟨a22, ea22, hka22, hJ⟩ := dr_some hJ
        rw [ea22]
        obtain ⟨hi23, hJ⟩ := ck_some hJ
        refine jr_ialdM C w hka22 hi23 dX10_astray_139 ?_
        refine lv_icmp_ge (tgt := 156) hx hb dX10_astray_140 (by decide) (fun c24 => ?_) (fun c24 => ?_)
        · have hJ := it_pos c24 hJ
          exact sb_X10_astray_156 C hz2 N k88 k102 t0 m88 m102 i88 i102 _ _ _ _ _ hJ hk0 w hl
        · have hJ := it_neg c24 hJ
          exact sb_X10_astray_143 C hz2 N k88 k102 t0 m88 m102 i88 i102 _ _ _ _ _ hJ hk0 w hl
def L_X10_astray_102 (N : Nat) (k88 : Hp → Int32 → Int32 → Option (Hp × Int32)) (t0 : Nat) : Nat → Hp → Int32 → Int32 → Int32 → Int32 → Option (Hp × Int32)
  | 0 => fun _ _ _ _ _ => none
  | n + 1 => fun h x2 x3 x4 x5 => B_X10_astray_102 N k88 (L_X10_astray_102 N k88 t0 n) t0 h x2 x3 x4 x5
theorem ml_X10_astray_102 (N : Nat) (k88 : Hp → Int32 → Int32 → Option (Hp × Int32)) (t0 : Nat) (m88 : ∀ (h : Hp) (x2 : Int32) (x3 : Int32), k88 h x2 x3 = some (hz, rz) → Mo h hz) : ∀ (n : Nat) (h : Hp) (x2 : Int32) (x3 : Int32) (x4 : Int32) (x5 : Int32), L_X10_astray_102 N k88 t0 n h x2 x3 x4 x5 = some (hz, rz) → Mo h hz := by
  intro n
  induction n with
  | zero => intro h x2 x3 x4 x5 hJ; cases hJ
  | succ n ih => intro h x2 x3 x4 x5 hJ; exact mb_X10_astray_102 N k88 (L_X10_astray_102 N k88 t0 n) t0 h x2 x3 x4 x5 m88 ih hJ
theorem sl_X10_astray_102 (C : Cx p s m args meth c cX10_astray 7 (some .int) RX10 D cs A h0.se) (hz2 : hz.nx ≤ h0.nx + mc ∧ hz.su ≤ h0.su + ms) (N : Nat) (k88 : Hp → Int32 → Int32 → Option (Hp × Int32)) (t0 : Nat) (m88 : ∀ (h : Hp) (x2 : Int32) (x3 : Int32), k88 h x2 x3 = some (hz, rz) → Mo h hz) (i88 : ∀ (h : Hp) (x2 : Int32) (x3 : Int32) (H : Heap) (locs : List Loc) (cells slots : Nat) (ls : Array Slot), k88 h x2 x3 = some (hz, rz) → h.kd t0 = 13 → Wo D cs A s h0 h H locs cells slots → lv_has ls 7 [(0, .ref t0), (2, .int x2), (3, .int x3)] → W p l e { frames := 5, cells := mc, slots := ms, locals := 150 } s m args below meth c H locs cells slots (MQ below (Zi D cs A hz rz) args s mc ms A) (F0 m 88 ls [])) : ∀ n : Nat, ∀ (h : Hp) (x2 : Int32) (x3 : Int32) (x4 : Int32) (x5 : Int32) (H : Heap) (locs : List Loc) (cells slots : Nat) (ls : Array Slot), L_X10_astray_102 N k88 t0 n h x2 x3 x4 x5 = some (hz, rz) → h.kd t0 = 13 → Wo D cs A s h0 h H locs cells slots → lv_has ls 7 [(0, .ref t0), (2, .int x2), (3, .int x3), (4, .int x4), (5, .int x5)] → W p l e { frames := 5, cells := mc, slots := ms, locals := 150 } s m args below meth c H locs cells slots (MQ below (Zi D cs A hz rz) args s mc ms A) (F0 m 102 ls []) := by
  intro n
  induction n with
  | zero => intro h x2 x3 x4 x5 H locs cells slots ls hJ; cases hJ
  | succ n ih =>
    intro h x2 x3 x4 x5 H locs cells slots ls hJ hk0 w hl
    exact sb_X10_astray_102 C hz2 N k88 (L_X10_astray_102 N k88 t0 n) t0 m88 (ml_X10_astray_102 N k88 t0 m88 n) i88 ih h x2 x3 x4 x5 hJ hk0 w hl
def B_X10_astray_285 (N : Nat) (k187 : Hp → Int32 → Int32 → Option (Hp × Int32)) (t0 : Nat) (h : Hp) (x3 : Int32) (y0 : Int32) (y1 : Int32) : Option (Hp × Int32) := k187 h (y0 + y1) (x3 + (1 : Int32))
theorem mb_X10_astray_285 (N : Nat) (k187 : Hp → Int32 → Int32 → Option (Hp × Int32)) (t0 : Nat) (h : Hp) (x3 : Int32) (y0 : Int32) (y1 : Int32) (m187 : ∀ (h : Hp) (x2 : Int32) (x3 : Int32), k187 h x2 x3 = some (hz, rz) → Mo h hz) (hJ : B_X10_astray_285 N k187 t0 h x3 y0 y1 = some (hz, rz)) : Mo h hz := by
  unfold B_X10_astray_285 at hJ
  exact m187 _ _ _ hJ
set_option maxRecDepth 100000 in
set_option maxHeartbeats 4000000 in
theorem sb_X10_astray_285 (C : Cx p s m args meth c cX10_astray 7 (some .int) RX10 D cs A h0.se) (hz2 : hz.nx ≤ h0.nx + mc ∧ hz.su ≤ h0.su + ms) (N : Nat) (k187 : Hp → Int32 → Int32 → Option (Hp × Int32)) (t0 : Nat) (m187 : ∀ (h : Hp) (x2 : Int32) (x3 : Int32), k187 h x2 x3 = some (hz, rz) → Mo h hz) (i187 : ∀ (h : Hp) (x2 : Int32) (x3 : Int32) (H : Heap) (locs : List Loc) (cells slots : Nat) (ls : Array Slot), k187 h x2 x3 = some (hz, rz) → h.kd t0 = 13 → Wo D cs A s h0 h H locs cells slots → lv_has ls 7 [(0, .ref t0), (2, .int x2), (3, .int x3)] → W p l e { frames := 5, cells := mc, slots := ms, locals := 150 } s m args below meth c H locs cells slots (MQ below (Zi D cs A hz rz) args s mc ms A) (F0 m 187 ls [])) (h : Hp) (x3 : Int32) (y0 : Int32) (y1 : Int32) (hJ : B_X10_astray_285 N k187 t0 h x3 y0 y1 = some (hz, rz)) (hk0 : h.kd t0 = 13) {H : Heap} {locs : List Loc} {cells slots : Nat} (w : Wo D cs A s h0 h H locs cells slots) {ls : Array Slot} (hl : lv_has ls 7 [(0, .ref t0), (3, .int x3)]) : W p l e { frames := 5, cells := mc, slots := ms, locals := 150 } s m args below meth c H locs cells slots (MQ below (Zi D cs A hz rz) args s mc ms A) (F0 m 285 ls [.int y1, .int y0]) := by
  obtain ⟨hx, hb, hml, hown, hts, -⟩ := id C
  unfold B_X10_astray_285 at hJ
  refine lv_iadd hx hb dX10_astray_285 ?_
  refine lv_istore_n (i := 2) (lv' := [(2, .int (y0 + y1)), (0, .ref t0), (3, .int x3)]) hx hb dX10_astray_286 rfl hl (by decide) rfl (fun ls hl => ?_)
  refine lv_iinc (v := x3 + (1 : Int32)) (lv' := [(3, .int (x3 + (1 : Int32))), (2, .int (y0 + y1)), (0, .ref t0)]) hx hb dX10_astray_287 hl (k := 2) rfl rfl (by decide) rfl (fun ls hl => ?_)
  refine lv_goto (tgt := 187) hx hb dX10_astray_290 (by decide) ?_
  exact i187 _ _ _ _ _ _ _ _ hJ hk0 w (lv_sub (l' := [(0, .ref t0), (2, .int (y0 + y1)), (3, .int (x3 + (1 : Int32)))]) hl [2, 1, 0] rfl)
def B_X10_astray_272 (N : Nat) (k187 : Hp → Int32 → Int32 → Option (Hp × Int32)) (t0 : Nat) (h : Hp) (x2 : Int32) (x3 : Int32) (y0 : Int32) : Option (Hp × Int32) := if y0 = 0 then (B_X10_astray_285 N k187 t0 h x3 x2 (1 : Int32)) else (B_X10_astray_285 N k187 t0 h x3 x2 (0 : Int32))
theorem mb_X10_astray_272 (N : Nat) (k187 : Hp → Int32 → Int32 → Option (Hp × Int32)) (t0 : Nat) (h : Hp) (x2 : Int32) (x3 : Int32) (y0 : Int32) (m187 : ∀ (h : Hp) (x2 : Int32) (x3 : Int32), k187 h x2 x3 = some (hz, rz) → Mo h hz) (hJ : B_X10_astray_272 N k187 t0 h x2 x3 y0 = some (hz, rz)) : Mo h hz := by
  unfold B_X10_astray_272 at hJ
  by_cases c25 : y0 = 0
  · have hJ := it_pos c25 hJ
    exact mb_X10_astray_285 N k187 t0 _ _ _ _ m187 hJ
  · have hJ := it_neg c25 hJ
    exact mb_X10_astray_285 N k187 t0 _ _ _ _ m187 hJ
set_option maxRecDepth 100000 in
set_option maxHeartbeats 4000000 in
theorem sb_X10_astray_272 (C : Cx p s m args meth c cX10_astray 7 (some .int) RX10 D cs A h0.se) (hz2 : hz.nx ≤ h0.nx + mc ∧ hz.su ≤ h0.su + ms) (N : Nat) (k187 : Hp → Int32 → Int32 → Option (Hp × Int32)) (t0 : Nat) (m187 : ∀ (h : Hp) (x2 : Int32) (x3 : Int32), k187 h x2 x3 = some (hz, rz) → Mo h hz) (i187 : ∀ (h : Hp) (x2 : Int32) (x3 : Int32) (H : Heap) (locs : List Loc) (cells slots : Nat) (ls : Array Slot), k187 h x2 x3 = some (hz, rz) → h.kd t0 = 13 → Wo D cs A s h0 h H locs cells slots → lv_has ls 7 [(0, .ref t0), (2, .int x2), (3, .int x3)] → W p l e { frames := 5, cells := mc, slots := ms, locals := 150 } s m args below meth c H locs cells slots (MQ below (Zi D cs A hz rz) args s mc ms A) (F0 m 187 ls [])) (h : Hp) (x2 : Int32) (x3 : Int32) (y0 : Int32) (hJ : B_X10_astray_272 N k187 t0 h x2 x3 y0 = some (hz, rz)) (hk0 : h.kd t0 = 13) {H : Heap} {locs : List Loc} {cells slots : Nat} (w : Wo D cs A s h0 h H locs cells slots) {ls : Array Slot} (hl : lv_has ls 7 [(0, .ref t0), (2, .int x2), (3, .int x3)]) : W p l e { frames := 5, cells := mc, slots := ms, locals := 150 } s m args below meth c H locs cells slots (MQ below (Zi D cs A hz rz) args s mc ms A) (F0 m 272 ls [.int y0]) := by
  obtain ⟨hx, hb, hml, hown, hts, -⟩ := id C
  unfold B_X10_astray_272 at hJ
  refine lv_istore (i := 6) (lv' := [(6, .int y0), (0, .ref t0), (2, .int x2), (3, .int x3)]) hx hb dX10_astray_272 hl (by decide) rfl (fun ls hl => ?_)
  refine lv_iload_n hx hb dX10_astray_274 rfl (lv_at hl 2 rfl) ?_
  refine lv_iload hx hb dX10_astray_275 (lv_at hl 0 rfl) ?_
  refine lv_if_eq (tgt := 284) hx hb dX10_astray_277 (by decide) (fun c25 => ?_) (fun c25 => ?_)
  · have hJ := it_pos c25 hJ
    refine lv_iconst (v := (1 : Int32)) hx hb dX10_astray_284 (by decide) ?_
    exact sb_X10_astray_285 C hz2 N k187 t0 m187 i187 _ _ _ _ hJ hk0 w (lv_sub (l' := [(0, .ref t0), (3, .int x3)]) hl [1, 3] rfl)
  · have hJ := it_neg c25 hJ
    refine lv_iconst (v := (0 : Int32)) hx hb dX10_astray_280 (by decide) ?_
    refine lv_goto (tgt := 285) hx hb dX10_astray_281 (by decide) ?_
    exact sb_X10_astray_285 C hz2 N k187 t0 m187 i187 _ _ _ _ hJ hk0 w (lv_sub (l' := [(0, .ref t0), (3, .int x3)]) hl [1, 3] rfl)
def B_X10_astray_267 (N : Nat) (k187 : Hp → Int32 → Int32 → Option (Hp × Int32)) (t0 : Nat) (h : Hp) (x2 : Int32) (x3 : Int32) : Option (Hp × Int32) := B_X10_astray_272 N k187 t0 h x2 x3 (1 : Int32)
theorem mb_X10_astray_267 (N : Nat) (k187 : Hp → Int32 → Int32 → Option (Hp × Int32)) (t0 : Nat) (h : Hp) (x2 : Int32) (x3 : Int32) (m187 : ∀ (h : Hp) (x2 : Int32) (x3 : Int32), k187 h x2 x3 = some (hz, rz) → Mo h hz) (hJ : B_X10_astray_267 N k187 t0 h x2 x3 = some (hz, rz)) : Mo h hz := by
  unfold B_X10_astray_267 at hJ
  exact mb_X10_astray_272 N k187 t0 _ _ _ _ m187 hJ
set_option maxRecDepth 100000 in
set_option maxHeartbeats 4000000 in
theorem sb_X10_astray_267 (C : Cx p s m args meth c cX10_astray 7 (some .int) RX10 D cs A h0.se) (hz2 : hz.nx ≤ h0.nx + mc ∧ hz.su ≤ h0.su + ms) (N : Nat) (k187 : Hp → Int32 → Int32 → Option (Hp × Int32)) (t0 : Nat) (m187 : ∀ (h : Hp) (x2 : Int32) (x3 : Int32), k187 h x2 x3 = some (hz, rz) → Mo h hz) (i187 : ∀ (h : Hp) (x2 : Int32) (x3 : Int32) (H : Heap) (locs : List Loc) (cells slots : Nat) (ls : Array Slot), k187 h x2 x3 = some (hz, rz) → h.kd t0 = 13 → Wo D cs A s h0 h H locs cells slots → lv_has ls 7 [(0, .ref t0), (2, .int x2), (3, .int x3)] → W p l e { frames := 5, cells := mc, slots := ms, locals := 150 } s m args below meth c H locs cells slots (MQ below (Zi D cs A hz rz) args s mc ms A) (F0 m 187 ls [])) (h : Hp) (x2 : Int32) (x3 : Int32) (hJ : B_X10_astray_267 N k187 t0 h x2 x3 = some (hz, rz)) (hk0 : h.kd t0 = 13) {H : Heap} {locs : List Loc} {cells slots : Nat} (w : Wo D cs A s h0 h H locs cells slots) {ls : Array Slot} (hl : lv_has ls 7 [(0, .ref t0), (2, .int x2), (3, .int x3)]) : W p l e { frames := 5, cells := mc, slots := ms, locals := 150 } s m args below meth c H locs cells slots (MQ below (Zi D cs A hz rz) args s mc ms A) (F0 m 267 ls []) := by
  obtain ⟨hx, hb, hml, hown, hts, -⟩ := id C
  unfold B_X10_astray_267 at hJ
  refine lv_iconst (v := (1 : Int32)) hx hb dX10_astray_267 (by decide) ?_
  refine lv_goto (tgt := 272) hx hb dX10_astray_268 (by decide) ?_
  exact sb_X10_astray_272 C hz2 N k187 t0 m187 i187 _ _ _ _ hJ hk0 w hl
def B_X10_astray_271 (N : Nat) (k187 : Hp → Int32 → Int32 → Option (Hp × Int32)) (t0 : Nat) (h : Hp) (x2 : Int32) (x3 : Int32) : Option (Hp × Int32) := B_X10_astray_272 N k187 t0 h x2 x3 (0 : Int32)
theorem mb_X10_astray_271 (N : Nat) (k187 : Hp → Int32 → Int32 → Option (Hp × Int32)) (t0 : Nat) (h : Hp) (x2 : Int32) (x3 : Int32) (m187 : ∀ (h : Hp) (x2 : Int32) (x3 : Int32), k187 h x2 x3 = some (hz, rz) → Mo h hz) (hJ : B_X10_astray_271 N k187 t0 h x2 x3 = some (hz, rz)) : Mo h hz := by
  unfold B_X10_astray_271 at hJ
  exact mb_X10_astray_272 N k187 t0 _ _ _ _ m187 hJ
set_option maxRecDepth 100000 in
set_option maxHeartbeats 4000000 in
theorem sb_X10_astray_271 (C : Cx p s m args meth c cX10_astray 7 (some .int) RX10 D cs A h0.se) (hz2 : hz.nx ≤ h0.nx + mc ∧ hz.su ≤ h0.su + ms) (N : Nat) (k187 : Hp → Int32 → Int32 → Option (Hp × Int32)) (t0 : Nat) (m187 : ∀ (h : Hp) (x2 : Int32) (x3 : Int32), k187 h x2 x3 = some (hz, rz) → Mo h hz) (i187 : ∀ (h : Hp) (x2 : Int32) (x3 : Int32) (H : Heap) (locs : List Loc) (cells slots : Nat) (ls : Array Slot), k187 h x2 x3 = some (hz, rz) → h.kd t0 = 13 → Wo D cs A s h0 h H locs cells slots → lv_has ls 7 [(0, .ref t0), (2, .int x2), (3, .int x3)] → W p l e { frames := 5, cells := mc, slots := ms, locals := 150 } s m args below meth c H locs cells slots (MQ below (Zi D cs A hz rz) args s mc ms A) (F0 m 187 ls [])) (h : Hp) (x2 : Int32) (x3 : Int32) (hJ : B_X10_astray_271 N k187 t0 h x2 x3 = some (hz, rz)) (hk0 : h.kd t0 = 13) {H : Heap} {locs : List Loc} {cells slots : Nat} (w : Wo D cs A s h0 h H locs cells slots) {ls : Array Slot} (hl : lv_has ls 7 [(0, .ref t0), (2, .int x2), (3, .int x3)]) : W p l e { frames := 5, cells := mc, slots := ms, locals := 150 } s m args below meth c H locs cells slots (MQ below (Zi D cs A hz rz) args s mc ms A) (F0 m 271 ls []) := by
  obtain ⟨hx, hb, hml, hown, hts, -⟩ := id C
  unfold B_X10_astray_271 at hJ
  refine lv_iconst (v := (0 : Int32)) hx hb dX10_astray_271 (by decide) ?_
  exact sb_X10_astray_272 C hz2 N k187 t0 m187 i187 _ _ _ _ hJ hk0 w hl
def B_X10_astray_232 (N : Nat) (k187 : Hp → Int32 → Int32 → Option (Hp × Int32)) (t0 : Nat) (h : Hp) (x2 : Int32) (x3 : Int32) (x4 : Int32) (y0 : Int32) : Option (Hp × Int32) := dr h 32 (h.gr 1358 t0) (fun a26 => ck (¬ (x3 < 0 ∨ h.al a26 ≤ x3.toNatClampNeg)) (if y0 = (h.bi a26 x3.toNatClampNeg) then (if y0 = 0 then (B_X10_astray_267 N k187 t0 h x2 x3) else (dr h 31 (h.gr 1326 t0) (fun a30 => ck (¬ (x4 < 0 ∨ h.al a30 ≤ x4.toNatClampNeg)) (dr h 31 (h.gr 1359 t0) (fun a32 => ck (¬ (x3 < 0 ∨ h.al a32 ≤ x3.toNatClampNeg)) (if (lg_cmp (h.bw a30 x4.toNatClampNeg) (h.bw a32 x3.toNatClampNeg)) = 0 then (B_X10_astray_267 N k187 t0 h x2 x3) else (B_X10_astray_271 N k187 t0 h x2 x3))))))) else (B_X10_astray_271 N k187 t0 h x2 x3)))
theorem mb_X10_astray_232 (N : Nat) (k187 : Hp → Int32 → Int32 → Option (Hp × Int32)) (t0 : Nat) (h : Hp) (x2 : Int32) (x3 : Int32) (x4 : Int32) (y0 : Int32) (m187 : ∀ (h : Hp) (x2 : Int32) (x3 : Int32), k187 h x2 x3 = some (hz, rz) → Mo h hz) (hJ : B_X10_astray_232 N k187 t0 h x2 x3 x4 y0 = some (hz, rz)) : Mo h hz := by
  unfold B_X10_astray_232 at hJ
  obtain ⟨a26, ea26, -, hJ⟩ := dr_some hJ
  obtain ⟨-, hJ⟩ := ck_some hJ
  by_cases c28 : y0 = (h.bi a26 x3.toNatClampNeg)
  · have hJ := it_pos c28 hJ
    by_cases c29 : y0 = 0
    · have hJ := it_pos c29 hJ
      exact mb_X10_astray_267 N k187 t0 _ _ _ m187 hJ
    · have hJ := it_neg c29 hJ
      obtain ⟨a30, ea30, -, hJ⟩ := dr_some hJ
      obtain ⟨-, hJ⟩ := ck_some hJ
      obtain ⟨a32, ea32, -, hJ⟩ := dr_some hJ
      obtain ⟨-, hJ⟩ := ck_some hJ
      by_cases c34 : (lg_cmp (h.bw a30 x4.toNatClampNeg) (h.bw a32 x3.toNatClampNeg)) = 0
      · have hJ := it_pos c34 hJ
        exact mb_X10_astray_267 N k187 t0 _ _ _ m187 hJ
      · have hJ := it_neg c34 hJ
        exact mb_X10_astray_271 N k187 t0 _ _ _ m187 hJ
  · have hJ := it_neg c28 hJ
    exact mb_X10_astray_271 N k187 t0 _ _ _ m187 hJ
set_option maxRecDepth 100000 in
set_option maxHeartbeats 4000000 in
theorem sb_X10_astray_232 (C : Cx p s m args meth c cX10_astray 7 (some .int) RX10 D cs A h0.se) (hz2 : hz.nx ≤ h0.nx + mc ∧ hz.su ≤ h0.su + ms) (N : Nat) (k187 : Hp → Int32 → Int32 → Option (Hp × Int32)) (t0 : Nat) (m187 : ∀ (h : Hp) (x2 : Int32) (x3 : Int32), k187 h x2 x3 = some (hz, rz) → Mo h hz) (i187 : ∀ (h : Hp) (x2 : Int32) (x3 : Int32) (H : Heap) (locs : List Loc) (cells slots : Nat) (ls : Array Slot), k187 h x2 x3 = some (hz, rz) → h.kd t0 = 13 → Wo D cs A s h0 h H locs cells slots → lv_has ls 7 [(0, .ref t0), (2, .int x2), (3, .int x3)] → W p l e { frames := 5, cells := mc, slots := ms, locals := 150 } s m args below meth c H locs cells slots (MQ below (Zi D cs A hz rz) args s mc ms A) (F0 m 187 ls [])) (h : Hp) (x2 : Int32) (x3 : Int32) (x4 : Int32) (y0 : Int32) (hJ : B_X10_astray_232 N k187 t0 h x2 x3 x4 y0 = some (hz, rz)) (hk0 : h.kd t0 = 13) {H : Heap} {locs : List Loc} {cells slots : Nat} (w : Wo D cs A s h0 h H locs cells slots) {ls : Array Slot} (hl : lv_has ls 7 [(0, .ref t0), (2, .int x2), (3, .int x3), (4, .int x4)]) : W p l e { frames := 5, cells := mc, slots := ms, locals := 150 } s m args below meth c H locs cells slots (MQ below (Zi D cs A hz rz) args s mc ms A) (F0 m 232 ls [.int y0]) := by
  obtain ⟨hx, hb, hml, hown, hts, -⟩ := id C
  unfold B_X10_astray_232 at hJ
  refine lv_istore (i := 5) (lv' := [(5, .int y0), (0, .ref t0), (2, .int x2), (3, .int x3), (4, .int x4)]) hx hb dX10_astray_232 hl (by decide) rfl (fun ls hl => ?_)
  refine lv_iload hx hb dX10_astray_234 (lv_at hl 0 rfl) ?_
  refine lv_aload_n hx hb dX10_astray_236 rfl (lv_at hl 1 rfl) ?_
  refine fg_1358 C w hk0 tw_6_221 dX10_astray_237 ?_
  refine lv_iload_n hx hb dX10_astray_240 rfl (lv_at hl 3 rfl) ?_
  obtain ⟨a26, ea26, hka26, hJ⟩ := dr_some hJ
  rw [ea26]
  obtain ⟨hi27, hJ⟩ := ck_some hJ
  refine jr_zaldM C w hka26 hi27 dX10_astray_241 ?_
  refine lv_icmp_ne (tgt := 271) hx hb dX10_astray_242 (by decide) (fun c28 => ?_) (fun c28 => ?_)
  · have hJ := it_neg c28 hJ
    exact sb_X10_astray_271 C hz2 N k187 t0 m187 i187 _ _ _ hJ hk0 w (lv_sub (l' := [(0, .ref t0), (2, .int x2), (3, .int x3)]) hl [1, 2, 3] rfl)
  · have hJ := it_pos c28 hJ
    refine lv_iload hx hb dX10_astray_245 (lv_at hl 0 rfl) ?_
    refine lv_if_eq (tgt := 267) hx hb dX10_astray_247 (by decide) (fun c29 => ?_) (fun c29 => ?_)
    · have hJ := it_pos c29 hJ
      exact sb_X10_astray_267 C hz2 N k187 t0 m187 i187 _ _ _ hJ hk0 w (lv_sub (l' := [(0, .ref t0), (2, .int x2), (3, .int x3)]) hl [1, 2, 3] rfl)
    · have hJ := it_neg c29 hJ
      refine lv_aload_n hx hb dX10_astray_250 rfl (lv_at hl 1 rfl) ?_
      refine fg_1326 C w hk0 tw_6_189 dX10_astray_251 ?_
      refine lv_iload hx hb dX10_astray_254 (lv_at hl 4 rfl) ?_
      obtain ⟨a30, ea30, hka30, hJ⟩ := dr_some hJ
      rw [ea30]
      obtain ⟨hi31, hJ⟩ := ck_some hJ
      refine jr_laldM C w hka30 hi31 dX10_astray_256 ?_
      refine lv_aload_n hx hb dX10_astray_257 rfl (lv_at hl 1 rfl) ?_
      refine fg_1359 C w hk0 tw_6_222 dX10_astray_258 ?_
      refine lv_iload_n hx hb dX10_astray_261 rfl (lv_at hl 3 rfl) ?_
      obtain ⟨a32, ea32, hka32, hJ⟩ := dr_some hJ
      rw [ea32]
      obtain ⟨hi33, hJ⟩ := ck_some hJ
      refine jr_laldM C w hka32 hi33 dX10_astray_262 ?_
      refine W.lcmp hx hb dX10_astray_263 ?_
      refine lv_if_ne (tgt := 271) hx hb dX10_astray_264 (by decide) (fun c34 => ?_) (fun c34 => ?_)
      · have hJ := it_neg c34 hJ
        exact sb_X10_astray_271 C hz2 N k187 t0 m187 i187 _ _ _ hJ hk0 w (lv_sub (l' := [(0, .ref t0), (2, .int x2), (3, .int x3)]) hl [1, 2, 3] rfl)
      · have hJ := it_pos c34 hJ
        exact sb_X10_astray_267 C hz2 N k187 t0 m187 i187 _ _ _ hJ hk0 w (lv_sub (l' := [(0, .ref t0), (2, .int x2), (3, .int x3)]) hl [1, 2, 3] rfl)
def B_X10_astray_231 (N : Nat) (k187 : Hp → Int32 → Int32 → Option (Hp × Int32)) (t0 : Nat) (h : Hp) (x2 : Int32) (x3 : Int32) (x4 : Int32) : Option (Hp × Int32) := B_X10_astray_232 N k187 t0 h x2 x3 x4 (0 : Int32)
theorem mb_X10_astray_231 (N : Nat) (k187 : Hp → Int32 → Int32 → Option (Hp × Int32)) (t0 : Nat) (h : Hp) (x2 : Int32) (x3 : Int32) (x4 : Int32) (m187 : ∀ (h : Hp) (x2 : Int32) (x3 : Int32), k187 h x2 x3 = some (hz, rz) → Mo h hz) (hJ : B_X10_astray_231 N k187 t0 h x2 x3 x4 = some (hz, rz)) : Mo h hz := by
  unfold B_X10_astray_231 at hJ
  exact mb_X10_astray_232 N k187 t0 _ _ _ _ _ m187 hJ
set_option maxRecDepth 100000 in
set_option maxHeartbeats 4000000 in
theorem sb_X10_astray_231 (C : Cx p s m args meth c cX10_astray 7 (some .int) RX10 D cs A h0.se) (hz2 : hz.nx ≤ h0.nx + mc ∧ hz.su ≤ h0.su + ms) (N : Nat) (k187 : Hp → Int32 → Int32 → Option (Hp × Int32)) (t0 : Nat) (m187 : ∀ (h : Hp) (x2 : Int32) (x3 : Int32), k187 h x2 x3 = some (hz, rz) → Mo h hz) (i187 : ∀ (h : Hp) (x2 : Int32) (x3 : Int32) (H : Heap) (locs : List Loc) (cells slots : Nat) (ls : Array Slot), k187 h x2 x3 = some (hz, rz) → h.kd t0 = 13 → Wo D cs A s h0 h H locs cells slots → lv_has ls 7 [(0, .ref t0), (2, .int x2), (3, .int x3)] → W p l e { frames := 5, cells := mc, slots := ms, locals := 150 } s m args below meth c H locs cells slots (MQ below (Zi D cs A hz rz) args s mc ms A) (F0 m 187 ls [])) (h : Hp) (x2 : Int32) (x3 : Int32) (x4 : Int32) (hJ : B_X10_astray_231 N k187 t0 h x2 x3 x4 = some (hz, rz)) (hk0 : h.kd t0 = 13) {H : Heap} {locs : List Loc} {cells slots : Nat} (w : Wo D cs A s h0 h H locs cells slots) {ls : Array Slot} (hl : lv_has ls 7 [(0, .ref t0), (2, .int x2), (3, .int x3), (4, .int x4)]) : W p l e { frames := 5, cells := mc, slots := ms, locals := 150 } s m args below meth c H locs cells slots (MQ below (Zi D cs A hz rz) args s mc ms A) (F0 m 231 ls []) := by
  obtain ⟨hx, hb, hml, hown, hts, -⟩ := id C
  unfold B_X10_astray_231 at hJ
  refine lv_iconst (v := (0 : Int32)) hx hb dX10_astray_231 (by decide) ?_
  exact sb_X10_astray_232 C hz2 N k187 t0 m187 i187 _ _ _ _ _ hJ hk0 w hl
def B_X10_astray_209 (N : Nat) (k187 : Hp → Int32 → Int32 → Option (Hp × Int32)) (t0 : Nat) (h : Hp) (x2 : Int32) (x3 : Int32) (y0 : Int32) : Option (Hp × Int32) := if y0 = (-1 : Int32) then (B_X10_astray_231 N k187 t0 h x2 x3 y0) else (dr h 32 (h.gr 1327 t0) (fun a36 => ck (¬ (y0 < 0 ∨ h.al a36 ≤ y0.toNatClampNeg)) (if (h.bi a36 y0.toNatClampNeg) = 0 then (B_X10_astray_231 N k187 t0 h x2 x3 y0) else (B_X10_astray_232 N k187 t0 h x2 x3 y0 (1 : Int32)))))
theorem mb_X10_astray_209 (N : Nat) (k187 : Hp → Int32 → Int32 → Option (Hp × Int32)) (t0 : Nat) (h : Hp) (x2 : Int32) (x3 : Int32) (y0 : Int32) (m187 : ∀ (h : Hp) (x2 : Int32) (x3 : Int32), k187 h x2 x3 = some (hz, rz) → Mo h hz) (hJ : B_X10_astray_209 N k187 t0 h x2 x3 y0 = some (hz, rz)) : Mo h hz := by
  unfold B_X10_astray_209 at hJ
  by_cases c35 : y0 = (-1 : Int32)
  · have hJ := it_pos c35 hJ
    exact mb_X10_astray_231 N k187 t0 _ _ _ _ m187 hJ
  · have hJ := it_neg c35 hJ
    obtain ⟨a36, ea36, -, hJ⟩ := dr_some hJ
    obtain ⟨-, hJ⟩ := ck_some hJ
    by_cases c38 : (h.bi a36 y0.toNatClampNeg) = 0
    · have hJ := it_pos c38 hJ
      exact mb_X10_astray_231 N k187 t0 _ _ _ _ m187 hJ
    · have hJ := it_neg c38 hJ
      exact mb_X10_astray_232 N k187 t0 _ _ _ _ _ m187 hJ
set_option maxRecDepth 100000 in
set_option maxHeartbeats 4000000 in
theorem sb_X10_astray_209 (C : Cx p s m args meth c cX10_astray 7 (some .int) RX10 D cs A h0.se) (hz2 : hz.nx ≤ h0.nx + mc ∧ hz.su ≤ h0.su + ms) (N : Nat) (k187 : Hp → Int32 → Int32 → Option (Hp × Int32)) (t0 : Nat) (m187 : ∀ (h : Hp) (x2 : Int32) (x3 : Int32), k187 h x2 x3 = some (hz, rz) → Mo h hz) (i187 : ∀ (h : Hp) (x2 : Int32) (x3 : Int32) (H : Heap) (locs : List Loc) (cells slots : Nat) (ls : Array Slot), k187 h x2 x3 = some (hz, rz) → h.kd t0 = 13 → Wo D cs A s h0 h H locs cells slots → lv_has ls 7 [(0, .ref t0), (2, .int x2), (3, .int x3)] → W p l e { frames := 5, cells := mc, slots := ms, locals := 150 } s m args below meth c H locs cells slots (MQ below (Zi D cs A hz rz) args s mc ms A) (F0 m 187 ls [])) (h : Hp) (x2 : Int32) (x3 : Int32) (y0 : Int32) (hJ : B_X10_astray_209 N k187 t0 h x2 x3 y0 = some (hz, rz)) (hk0 : h.kd t0 = 13) {H : Heap} {locs : List Loc} {cells slots : Nat} (w : Wo D cs A s h0 h H locs cells slots) {ls : Array Slot} (hl : lv_has ls 7 [(0, .ref t0), (2, .int x2), (3, .int x3)]) : W p l e { frames := 5, cells := mc, slots := ms, locals := 150 } s m args below meth c H locs cells slots (MQ below (Zi D cs A hz rz) args s mc ms A) (F0 m 209 ls [.int y0]) := by
  obtain ⟨hx, hb, hml, hown, hts, -⟩ := id C
  unfold B_X10_astray_209 at hJ
  refine lv_istore (i := 4) (lv' := [(4, .int y0), (0, .ref t0), (2, .int x2), (3, .int x3)]) hx hb dX10_astray_209 hl (by decide) rfl (fun ls hl => ?_)
  refine lv_iload hx hb dX10_astray_211 (lv_at hl 0 rfl) ?_
  refine lv_iconst (v := (-1 : Int32)) hx hb dX10_astray_213 (by decide) ?_
  refine lv_icmp_eq (tgt := 231) hx hb dX10_astray_214 (by decide) (fun c35 => ?_) (fun c35 => ?_)
  · have hJ := it_pos c35 hJ
    exact sb_X10_astray_231 C hz2 N k187 t0 m187 i187 _ _ _ _ hJ hk0 w (lv_sub (l' := [(0, .ref t0), (2, .int x2), (3, .int x3), (4, .int y0)]) hl [1, 2, 3, 0] rfl)
  · have hJ := it_neg c35 hJ
    refine lv_aload_n hx hb dX10_astray_217 rfl (lv_at hl 1 rfl) ?_
    refine fg_1327 C w hk0 tw_6_190 dX10_astray_218 ?_
    refine lv_iload hx hb dX10_astray_221 (lv_at hl 0 rfl) ?_
    obtain ⟨a36, ea36, hka36, hJ⟩ := dr_some hJ
    rw [ea36]
    obtain ⟨hi37, hJ⟩ := ck_some hJ
    refine jr_zaldM C w hka36 hi37 dX10_astray_223 ?_
    refine lv_if_eq (tgt := 231) hx hb dX10_astray_224 (by decide) (fun c38 => ?_) (fun c38 => ?_)
    · have hJ := it_pos c38 hJ
      exact sb_X10_astray_231 C hz2 N k187 t0 m187 i187 _ _ _ _ hJ hk0 w (lv_sub (l' := [(0, .ref t0), (2, .int x2), (3, .int x3), (4, .int y0)]) hl [1, 2, 3, 0] rfl)
    · have hJ := it_neg c38 hJ
      refine lv_iconst (v := (1 : Int32)) hx hb dX10_astray_227 (by decide) ?_
      refine lv_goto (tgt := 232) hx hb dX10_astray_228 (by decide) ?_
      exact sb_X10_astray_232 C hz2 N k187 t0 m187 i187 _ _ _ _ _ hJ hk0 w (lv_sub (l' := [(0, .ref t0), (2, .int x2), (3, .int x3), (4, .int y0)]) hl [1, 2, 3, 0] rfl)
def B_X10_astray_187 (N : Nat) (k187 : Hp → Int32 → Int32 → Option (Hp × Int32)) (t0 : Nat) (h : Hp) (x2 : Int32) (x3 : Int32) : Option (Hp × Int32) := if (h.gi 1353 t0) ≤ x3 then (some (h, x2)) else (dr h 30 (h.gr 1352 t0) (fun a40 => ck (¬ (x3 < 0 ∨ h.al a40 ≤ x3.toNatClampNeg)) ((J_X10_versionAt N t0 h (h.bi a40 x3.toNatClampNeg) (h.gi 1312 t0)).bind (fun z => B_X10_astray_209 N k187 t0 z.1 x2 x3 z.2))))
theorem mb_X10_astray_187 (N : Nat) (k187 : Hp → Int32 → Int32 → Option (Hp × Int32)) (t0 : Nat) (h : Hp) (x2 : Int32) (x3 : Int32) (m187 : ∀ (h : Hp) (x2 : Int32) (x3 : Int32), k187 h x2 x3 = some (hz, rz) → Mo h hz) (hJ : B_X10_astray_187 N k187 t0 h x2 x3 = some (hz, rz)) : Mo h hz := by
  unfold B_X10_astray_187 at hJ
  by_cases c39 : (h.gi 1353 t0) ≤ x3
  · have hJ := it_pos c39 hJ
    obtain ⟨rfl, -⟩ := rs2 hJ
    exact ⟨fun _ _ => rfl, Nat.le_refl _, Nat.le_refl _, rfl, fun _ _ => rfl⟩
  · have hJ := it_neg c39 hJ
    obtain ⟨a40, ea40, -, hJ⟩ := dr_some hJ
    obtain ⟨-, hJ⟩ := ck_some hJ
    obtain ⟨⟨h42, r43⟩, e44, hJ⟩ := ob_some hJ
    exact (mo_X10_versionAt N t0 h (h.bi a40 x3.toNatClampNeg) (h.gi 1312 t0) e44).tr (mb_X10_astray_209 N k187 t0 _ _ _ _ m187 hJ)
set_option maxRecDepth 100000 in
set_option maxHeartbeats 4000000 in
theorem sb_X10_astray_187 (C : Cx p s m args meth c cX10_astray 7 (some .int) RX10 D cs A h0.se) (hz2 : hz.nx ≤ h0.nx + mc ∧ hz.su ≤ h0.su + ms) (N : Nat) (k187 : Hp → Int32 → Int32 → Option (Hp × Int32)) (t0 : Nat) (m187 : ∀ (h : Hp) (x2 : Int32) (x3 : Int32), k187 h x2 x3 = some (hz, rz) → Mo h hz) (i187 : ∀ (h : Hp) (x2 : Int32) (x3 : Int32) (H : Heap) (locs : List Loc) (cells slots : Nat) (ls : Array Slot), k187 h x2 x3 = some (hz, rz) → h.kd t0 = 13 → Wo D cs A s h0 h H locs cells slots → lv_has ls 7 [(0, .ref t0), (2, .int x2), (3, .int x3)] → W p l e { frames := 5, cells := mc, slots := ms, locals := 150 } s m args below meth c H locs cells slots (MQ below (Zi D cs A hz rz) args s mc ms A) (F0 m 187 ls [])) (h : Hp) (x2 : Int32) (x3 : Int32) (hJ : B_X10_astray_187 N k187 t0 h x2 x3 = some (hz, rz)) (hk0 : h.kd t0 = 13) {H : Heap} {locs : List Loc} {cells slots : Nat} (w : Wo D cs A s h0 h H locs cells slots) {ls : Array Slot} (hl : lv_has ls 7 [(0, .ref t0), (2, .int x2), (3, .int x3)]) : W p l e { frames := 5, cells := mc, slots := ms, locals := 150 } s m args below meth c H locs cells slots (MQ below (Zi D cs A hz rz) args s mc ms A) (F0 m 187 ls []) := by
  obtain ⟨hx, hb, hml, hown, hts, -⟩ := id C
  unfold B_X10_astray_187 at hJ
  refine lv_iload_n hx hb dX10_astray_187 rfl (lv_at hl 2 rfl) ?_
  refine lv_aload_n hx hb dX10_astray_188 rfl (lv_at hl 0 rfl) ?_
  refine fg_1353 C w hk0 tw_6_216 dX10_astray_189 ?_
  refine lv_icmp_ge (tgt := 293) hx hb dX10_astray_192 (by decide) (fun c39 => ?_) (fun c39 => ?_)
  · have hJ := it_pos c39 hJ
    refine lv_iload_n hx hb dX10_astray_293 rfl (lv_at hl 1 rfl) ?_
    obtain ⟨rfl, rfl⟩ := rs2 hJ
    exact jr_iret C w hz2 dX10_astray_294
  · have hJ := it_neg c39 hJ
    refine lv_aload_n hx hb dX10_astray_195 rfl (lv_at hl 0 rfl) ?_
    refine lv_aload_n hx hb dX10_astray_196 rfl (lv_at hl 0 rfl) ?_
    refine fg_1352 C w hk0 tw_6_215 dX10_astray_197 ?_
    refine lv_iload_n hx hb dX10_astray_200 rfl (lv_at hl 2 rfl) ?_
    obtain ⟨a40, ea40, hka40, hJ⟩ := dr_some hJ
    rw [ea40]
    obtain ⟨hi41, hJ⟩ := ck_some hJ
    refine jr_ialdM C w hka40 hi41 dX10_astray_201 ?_
    refine lv_aload_n hx hb dX10_astray_202 rfl (lv_at hl 0 rfl) ?_
    refine fg_1312 C w hk0 tw_6_175 dX10_astray_203 ?_
    obtain ⟨⟨h42, r43⟩, e44, hJ⟩ := ob_some hJ
    refine jc_Vi (As := [.int (h.bi a40 x3.toNatClampNeg), .int (h.gi 1312 t0)]) C w (cc_X10_versionAt N t0 h (h.bi a40 x3.toNatClampNeg) (h.gi 1312 t0) hk0 e44) (mo_X10_versionAt N t0 h (h.bi a40 x3.toNatClampNeg) (h.gi 1312 t0) e44) (mb_X10_astray_209 N k187 t0 _ _ _ _ m187 hJ) hz2 hk0 (by decide) rfl (fs := fs13 h t0) rfl rfl ⟨tw_7_230, tw_7_227, tw_7_229, ts_51, tw_1_7⟩ cd_X10_versionAt ⟨by decide, by decide⟩ hl.1 (by first | exact Nat.le_of_ble_eq_true rfl | simp [rf_cat, cat_i, cat_l, cat_r]) rfl dX10_astray_206 (fun H locs w1 => ?_)
    have hk45 := kd_keep w (mo_X10_versionAt N t0 h (h.bi a40 x3.toNatClampNeg) (h.gi 1312 t0) e44) hk0 (by decide)
    have w := w1
    exact sb_X10_astray_209 C hz2 N k187 t0 m187 i187 _ _ _ _ hJ hk45 w hl
def L_X10_astray_187 (N : Nat) (t0 : Nat) : Nat → Hp → Int32 → Int32 → Option (Hp × Int32)
  | 0 => fun _ _ _ => none
  | n + 1 => fun h x2 x3 => B_X10_astray_187 N (L_X10_astray_187 N t0 n) t0 h x2 x3
theorem ml_X10_astray_187 (N : Nat) (t0 : Nat) : ∀ (n : Nat) (h : Hp) (x2 : Int32) (x3 : Int32), L_X10_astray_187 N t0 n h x2 x3 = some (hz, rz) → Mo h hz := by
  intro n
  induction n with
  | zero => intro h x2 x3 hJ; cases hJ
  | succ n ih => intro h x2 x3 hJ; exact mb_X10_astray_187 N (L_X10_astray_187 N t0 n) t0 h x2 x3 ih hJ
theorem sl_X10_astray_187 (C : Cx p s m args meth c cX10_astray 7 (some .int) RX10 D cs A h0.se) (hz2 : hz.nx ≤ h0.nx + mc ∧ hz.su ≤ h0.su + ms) (N : Nat) (t0 : Nat) : ∀ n : Nat, ∀ (h : Hp) (x2 : Int32) (x3 : Int32) (H : Heap) (locs : List Loc) (cells slots : Nat) (ls : Array Slot), L_X10_astray_187 N t0 n h x2 x3 = some (hz, rz) → h.kd t0 = 13 → Wo D cs A s h0 h H locs cells slots → lv_has ls 7 [(0, .ref t0), (2, .int x2), (3, .int x3)] → W p l e { frames := 5, cells := mc, slots := ms, locals := 150 } s m args below meth c H locs cells slots (MQ below (Zi D cs A hz rz) args s mc ms A) (F0 m 187 ls []) := by
  intro n
  induction n with
  | zero => intro h x2 x3 H locs cells slots ls hJ; cases hJ
  | succ n ih =>
    intro h x2 x3 H locs cells slots ls hJ hk0 w hl
    exact sb_X10_astray_187 C hz2 N (L_X10_astray_187 N t0 n) t0 (ml_X10_astray_187 N t0 n) ih h x2 x3 hJ hk0 w hl
def B_X10_astray_88 (N : Nat) (k88 : Hp → Int32 → Int32 → Option (Hp × Int32)) (t0 : Nat) (h : Hp) (x2 : Int32) (x3 : Int32) : Option (Hp × Int32) := if (h.gi 1312 t0) ≤ x3 then (L_X10_astray_187 N t0 N h x2 (0 : Int32)) else (L_X10_astray_102 N k88 t0 N h x2 x3 (0 : Int32) (1 : Int32))
theorem mb_X10_astray_88 (N : Nat) (k88 : Hp → Int32 → Int32 → Option (Hp × Int32)) (t0 : Nat) (h : Hp) (x2 : Int32) (x3 : Int32) (m88 : ∀ (h : Hp) (x2 : Int32) (x3 : Int32), k88 h x2 x3 = some (hz, rz) → Mo h hz) (hJ : B_X10_astray_88 N k88 t0 h x2 x3 = some (hz, rz)) : Mo h hz := by
  unfold B_X10_astray_88 at hJ
  by_cases c46 : (h.gi 1312 t0) ≤ x3
  · have hJ := it_pos c46 hJ
    exact ml_X10_astray_187 N t0 N _ _ _ hJ
  · have hJ := it_neg c46 hJ
    exact ml_X10_astray_102 N k88 t0 m88 N _ _ _ _ _ hJ
set_option maxRecDepth 100000 in
set_option maxHeartbeats 4000000 in
theorem sb_X10_astray_88 (C : Cx p s m args meth c cX10_astray 7 (some .int) RX10 D cs A h0.se) (hz2 : hz.nx ≤ h0.nx + mc ∧ hz.su ≤ h0.su + ms) (N : Nat) (k88 : Hp → Int32 → Int32 → Option (Hp × Int32)) (t0 : Nat) (m88 : ∀ (h : Hp) (x2 : Int32) (x3 : Int32), k88 h x2 x3 = some (hz, rz) → Mo h hz) (i88 : ∀ (h : Hp) (x2 : Int32) (x3 : Int32) (H : Heap) (locs : List Loc) (cells slots : Nat) (ls : Array Slot), k88 h x2 x3 = some (hz, rz) → h.kd t0 = 13 → Wo D cs A s h0 h H locs cells slots → lv_has ls 7 [(0, .ref t0), (2, .int x2), (3, .int x3)] → W p l e { frames := 5, cells := mc, slots := ms, locals := 150 } s m args below meth c H locs cells slots (MQ below (Zi D cs A hz rz) args s mc ms A) (F0 m 88 ls [])) (h : Hp) (x2 : Int32) (x3 : Int32) (hJ : B_X10_astray_88 N k88 t0 h x2 x3 = some (hz, rz)) (hk0 : h.kd t0 = 13) {H : Heap} {locs : List Loc} {cells slots : Nat} (w : Wo D cs A s h0 h H locs cells slots) {ls : Array Slot} (hl : lv_has ls 7 [(0, .ref t0), (2, .int x2), (3, .int x3)]) : W p l e { frames := 5, cells := mc, slots := ms, locals := 150 } s m args below meth c H locs cells slots (MQ below (Zi D cs A hz rz) args s mc ms A) (F0 m 88 ls []) := by
  obtain ⟨hx, hb, hml, hown, hts, -⟩ := id C
  unfold B_X10_astray_88 at hJ
  refine lv_iload_n hx hb dX10_astray_88 rfl (lv_at hl 2 rfl) ?_
  refine lv_aload_n hx hb dX10_astray_89 rfl (lv_at hl 0 rfl) ?_
  refine fg_1312 C w hk0 tw_6_175 dX10_astray_90 ?_
  refine lv_icmp_ge (tgt := 185) hx hb dX10_astray_93 (by decide) (fun c46 => ?_) (fun c46 => ?_)
  · have hJ := it_pos c46 hJ
    refine lv_iconst (v := (0 : Int32)) hx hb dX10_astray_185 (by decide) ?_
    refine lv_istore_n (i := 3) (lv' := [(3, .int (0 : Int32)), (0, .ref t0), (2, .int x2)]) hx hb dX10_astray_186 rfl hl (by decide) rfl (fun ls hl => ?_)
    exact sl_X10_astray_187 C hz2 N t0 N _ _ _ _ _ _ _ _ hJ hk0 w (lv_sub (l' := [(0, .ref t0), (2, .int x2), (3, .int (0 : Int32))]) hl [1, 2, 0] rfl)
  · have hJ := it_neg c46 hJ
    refine lv_iconst (v := (0 : Int32)) hx hb dX10_astray_96 (by decide) ?_
    refine lv_istore (i := 4) (lv' := [(4, .int (0 : Int32)), (0, .ref t0), (2, .int x2), (3, .int x3)]) hx hb dX10_astray_97 hl (by decide) rfl (fun ls hl => ?_)
    refine lv_iconst (v := (1 : Int32)) hx hb dX10_astray_99 (by decide) ?_
    refine lv_istore (i := 5) (lv' := [(5, .int (1 : Int32)), (4, .int (0 : Int32)), (0, .ref t0), (2, .int x2), (3, .int x3)]) hx hb dX10_astray_100 hl (by decide) rfl (fun ls hl => ?_)
    exact sl_X10_astray_102 C hz2 N k88 t0 m88 i88 N _ _ _ _ _ _ _ _ _ _ hJ hk0 w (lv_sub (l' := [(0, .ref t0), (2, .int x2), (3, .int x3), (4, .int (0 : Int32)), (5, .int (1 : Int32))]) hl [2, 3, 4, 1, 0] rfl)
def L_X10_astray_88 (N : Nat) (t0 : Nat) : Nat → Hp → Int32 → Int32 → Option (Hp × Int32)
  | 0 => fun _ _ _ => none
  | n + 1 => fun h x2 x3 => B_X10_astray_88 N (L_X10_astray_88 N t0 n) t0 h x2 x3
theorem ml_X10_astray_88 (N : Nat) (t0 : Nat) : ∀ (n : Nat) (h : Hp) (x2 : Int32) (x3 : Int32), L_X10_astray_88 N t0 n h x2 x3 = some (hz, rz) → Mo h hz := by
  intro n
  induction n with
  | zero => intro h x2 x3 hJ; cases hJ
  | succ n ih => intro h x2 x3 hJ; exact mb_X10_astray_88 N (L_X10_astray_88 N t0 n) t0 h x2 x3 ih hJ
theorem sl_X10_astray_88 (C : Cx p s m args meth c cX10_astray 7 (some .int) RX10 D cs A h0.se) (hz2 : hz.nx ≤ h0.nx + mc ∧ hz.su ≤ h0.su + ms) (N : Nat) (t0 : Nat) : ∀ n : Nat, ∀ (h : Hp) (x2 : Int32) (x3 : Int32) (H : Heap) (locs : List Loc) (cells slots : Nat) (ls : Array Slot), L_X10_astray_88 N t0 n h x2 x3 = some (hz, rz) → h.kd t0 = 13 → Wo D cs A s h0 h H locs cells slots → lv_has ls 7 [(0, .ref t0), (2, .int x2), (3, .int x3)] → W p l e { frames := 5, cells := mc, slots := ms, locals := 150 } s m args below meth c H locs cells slots (MQ below (Zi D cs A hz rz) args s mc ms A) (F0 m 88 ls []) := by
  intro n
  induction n with
  | zero => intro h x2 x3 H locs cells slots ls hJ; cases hJ
  | succ n ih =>
    intro h x2 x3 H locs cells slots ls hJ hk0 w hl
    exact sb_X10_astray_88 C hz2 N (L_X10_astray_88 N t0 n) t0 (ml_X10_astray_88 N t0 n) ih h x2 x3 hJ hk0 w hl
def B_X10_astray_49 (N : Nat) (k49 : Hp → Int32 → Option (Hp × Int32)) (t0 : Nat) (h : Hp) (x2 : Int32) : Option (Hp × Int32) := if (h.gi 1311 t0) < x2 then (L_X10_astray_88 N t0 N h (0 : Int32) (0 : Int32)) else (dr h 30 (h.gr 1301 t0) (fun a48 => ck (¬ (x2 < 0 ∨ h.al a48 ≤ x2.toNatClampNeg)) (if (h.bi a48 x2.toNatClampNeg) = (2 : Int32) then (B_X10_astray_77 N k49 t0 h x2 (h.gr 1366 t0) x2 (0 : Int32)) else (B_X10_astray_77 N k49 t0 h x2 (h.gr 1366 t0) x2 (1 : Int32)))))
theorem mb_X10_astray_49 (N : Nat) (k49 : Hp → Int32 → Option (Hp × Int32)) (t0 : Nat) (h : Hp) (x2 : Int32) (m49 : ∀ (h : Hp) (x2 : Int32), k49 h x2 = some (hz, rz) → Mo h hz) (hJ : B_X10_astray_49 N k49 t0 h x2 = some (hz, rz)) : Mo h hz := by
  unfold B_X10_astray_49 at hJ
  by_cases c47 : (h.gi 1311 t0) < x2
  · have hJ := it_pos c47 hJ
    exact ml_X10_astray_88 N t0 N _ _ _ hJ
  · have hJ := it_neg c47 hJ
    obtain ⟨a48, ea48, -, hJ⟩ := dr_some hJ
    obtain ⟨-, hJ⟩ := ck_some hJ
    by_cases c50 : (h.bi a48 x2.toNatClampNeg) = (2 : Int32)
    · have hJ := it_pos c50 hJ
      exact mb_X10_astray_77 N k49 t0 _ _ _ _ _ m49 hJ
    · have hJ := it_neg c50 hJ
      exact mb_X10_astray_77 N k49 t0 _ _ _ _ _ m49 hJ
set_option maxRecDepth 100000 in
set_option maxHeartbeats 4000000 in
theorem sb_X10_astray_49 (C : Cx p s m args meth c cX10_astray 7 (some .int) RX10 D cs A h0.se) (hz2 : hz.nx ≤ h0.nx + mc ∧ hz.su ≤ h0.su + ms) (N : Nat) (k49 : Hp → Int32 → Option (Hp × Int32)) (t0 : Nat) (m49 : ∀ (h : Hp) (x2 : Int32), k49 h x2 = some (hz, rz) → Mo h hz) (i49 : ∀ (h : Hp) (x2 : Int32) (H : Heap) (locs : List Loc) (cells slots : Nat) (ls : Array Slot), k49 h x2 = some (hz, rz) → h.kd t0 = 13 → Wo D cs A s h0 h H locs cells slots → lv_has ls 7 [(0, .ref t0), (2, .int x2)] → W p l e { frames := 5, cells := mc, slots := ms, locals := 150 } s m args below meth c H locs cells slots (MQ below (Zi D cs A hz rz) args s mc ms A) (F0 m 49 ls [])) (h : Hp) (x2 : Int32) (hJ : B_X10_astray_49 N k49 t0 h x2 = some (hz, rz)) (hk0 : h.kd t0 = 13) {H : Heap} {locs : List Loc} {cells slots : Nat} (w : Wo D cs A s h0 h H locs cells slots) {ls : Array Slot} (hl : lv_has ls 7 [(0, .ref t0), (2, .int x2)]) : W p l e { frames := 5, cells := mc, slots := ms, locals := 150 } s m args below meth c H locs cells slots (MQ below (Zi D cs A hz rz) args s mc ms A) (F0 m 49 ls []) := by
  obtain ⟨hx, hb, hml, hown, hts, -⟩ := id C
  unfold B_X10_astray_49 at hJ
  refine lv_iload_n hx hb dX10_astray_49 rfl (lv_at hl 1 rfl) ?_
  refine lv_aload_n hx hb dX10_astray_50 rfl (lv_at hl 0 rfl) ?_
  refine fg_1311 C w hk0 tw_6_174 dX10_astray_51 ?_
  refine lv_icmp_gt (tgt := 84) hx hb dX10_astray_54 (by decide) (fun c47 => ?_) (fun c47 => ?_)
  · have hJ := it_pos c47 hJ
    refine lv_iconst (v := (0 : Int32)) hx hb dX10_astray_84 (by decide) ?_
    refine lv_istore_n (i := 2) (lv' := [(2, .int (0 : Int32)), (0, .ref t0)]) hx hb dX10_astray_85 rfl hl (by decide) rfl (fun ls hl => ?_)
    refine lv_iconst (v := (0 : Int32)) hx hb dX10_astray_86 (by decide) ?_
    refine lv_istore_n (i := 3) (lv' := [(3, .int (0 : Int32)), (2, .int (0 : Int32)), (0, .ref t0)]) hx hb dX10_astray_87 rfl hl (by decide) rfl (fun ls hl => ?_)
    exact sl_X10_astray_88 C hz2 N t0 N _ _ _ _ _ _ _ _ hJ hk0 w (lv_sub (l' := [(0, .ref t0), (2, .int (0 : Int32)), (3, .int (0 : Int32))]) hl [2, 1, 0] rfl)
  · have hJ := it_neg c47 hJ
    refine lv_aload_n hx hb dX10_astray_57 rfl (lv_at hl 0 rfl) ?_
    refine fg_1366 C w hk0 tw_6_229 dX10_astray_58 ?_
    refine lv_iload_n hx hb dX10_astray_61 rfl (lv_at hl 1 rfl) ?_
    refine lv_aload_n hx hb dX10_astray_62 rfl (lv_at hl 0 rfl) ?_
    refine fg_1301 C w hk0 tw_6_164 dX10_astray_63 ?_
    refine lv_iload_n hx hb dX10_astray_66 rfl (lv_at hl 1 rfl) ?_
    obtain ⟨a48, ea48, hka48, hJ⟩ := dr_some hJ
    rw [ea48]
    obtain ⟨hi49, hJ⟩ := ck_some hJ
    refine jr_ialdM C w hka48 hi49 dX10_astray_67 ?_
    refine lv_iconst (v := (2 : Int32)) hx hb dX10_astray_68 (by decide) ?_
    refine lv_icmp_eq (tgt := 76) hx hb dX10_astray_69 (by decide) (fun c50 => ?_) (fun c50 => ?_)
    · have hJ := it_pos c50 hJ
      refine lv_iconst (v := (0 : Int32)) hx hb dX10_astray_76 (by decide) ?_
      exact sb_X10_astray_77 C hz2 N k49 t0 m49 i49 _ _ _ _ _ hJ hk0 w hl
    · have hJ := it_neg c50 hJ
      refine lv_iconst (v := (1 : Int32)) hx hb dX10_astray_72 (by decide) ?_
      refine lv_goto (tgt := 77) hx hb dX10_astray_73 (by decide) ?_
      exact sb_X10_astray_77 C hz2 N k49 t0 m49 i49 _ _ _ _ _ hJ hk0 w hl
def L_X10_astray_49 (N : Nat) (t0 : Nat) : Nat → Hp → Int32 → Option (Hp × Int32)
  | 0 => fun _ _ => none
  | n + 1 => fun h x2 => B_X10_astray_49 N (L_X10_astray_49 N t0 n) t0 h x2
theorem ml_X10_astray_49 (N : Nat) (t0 : Nat) : ∀ (n : Nat) (h : Hp) (x2 : Int32), L_X10_astray_49 N t0 n h x2 = some (hz, rz) → Mo h hz := by
  intro n
  induction n with
  | zero => intro h x2 hJ; cases hJ
  | succ n ih => intro h x2 hJ; exact mb_X10_astray_49 N (L_X10_astray_49 N t0 n) t0 h x2 ih hJ
theorem sl_X10_astray_49 (C : Cx p s m args meth c cX10_astray 7 (some .int) RX10 D cs A h0.se) (hz2 : hz.nx ≤ h0.nx + mc ∧ hz.su ≤ h0.su + ms) (N : Nat) (t0 : Nat) : ∀ n : Nat, ∀ (h : Hp) (x2 : Int32) (H : Heap) (locs : List Loc) (cells slots : Nat) (ls : Array Slot), L_X10_astray_49 N t0 n h x2 = some (hz, rz) → h.kd t0 = 13 → Wo D cs A s h0 h H locs cells slots → lv_has ls 7 [(0, .ref t0), (2, .int x2)] → W p l e { frames := 5, cells := mc, slots := ms, locals := 150 } s m args below meth c H locs cells slots (MQ below (Zi D cs A hz rz) args s mc ms A) (F0 m 49 ls []) := by
  intro n
  induction n with
  | zero => intro h x2 H locs cells slots ls hJ; cases hJ
  | succ n ih =>
    intro h x2 H locs cells slots ls hJ hk0 w hl
    exact sb_X10_astray_49 C hz2 N (L_X10_astray_49 N t0 n) t0 (ml_X10_astray_49 N t0 n) ih h x2 hJ hk0 w hl
def B_X10_astray_26 (N : Nat) (k26 : Hp → Int32 → Option (Hp × Int32)) (t0 : Nat) (h : Hp) (x2 : Int32) : Option (Hp × Int32) := if (h.gi 1353 t0) ≤ x2 then (L_X10_astray_49 N t0 N h (1 : Int32)) else (dr h 32 (h.gr 1358 t0) (fun a52 => ck (¬ (x2 < 0 ∨ h.al a52 ≤ x2.toNatClampNeg)) (k26 (h.sbi a52 x2.toNatClampNeg (0 : Int32)) (x2 + (1 : Int32)))))
theorem mb_X10_astray_26 (N : Nat) (k26 : Hp → Int32 → Option (Hp × Int32)) (t0 : Nat) (h : Hp) (x2 : Int32) (m26 : ∀ (h : Hp) (x2 : Int32), k26 h x2 = some (hz, rz) → Mo h hz) (hJ : B_X10_astray_26 N k26 t0 h x2 = some (hz, rz)) : Mo h hz := by
  unfold B_X10_astray_26 at hJ
  by_cases c51 : (h.gi 1353 t0) ≤ x2
  · have hJ := it_pos c51 hJ
    exact ml_X10_astray_49 N t0 N _ _ hJ
  · have hJ := it_neg c51 hJ
    obtain ⟨a52, ea52, -, hJ⟩ := dr_some hJ
    obtain ⟨-, hJ⟩ := ck_some hJ
    exact (Mo.tr (show Mo h (h.sbi a52 x2.toNatClampNeg (0 : Int32)) from ⟨fun _ _ => rfl, Nat.le_refl _, Nat.le_refl _, rfl, fun _ _ => rfl⟩) (m26 _ _ hJ))
set_option maxRecDepth 100000 in
set_option maxHeartbeats 4000000 in
theorem sb_X10_astray_26 (C : Cx p s m args meth c cX10_astray 7 (some .int) RX10 D cs A h0.se) (hz2 : hz.nx ≤ h0.nx + mc ∧ hz.su ≤ h0.su + ms) (N : Nat) (k26 : Hp → Int32 → Option (Hp × Int32)) (t0 : Nat) (m26 : ∀ (h : Hp) (x2 : Int32), k26 h x2 = some (hz, rz) → Mo h hz) (i26 : ∀ (h : Hp) (x2 : Int32) (H : Heap) (locs : List Loc) (cells slots : Nat) (ls : Array Slot), k26 h x2 = some (hz, rz) → h.kd t0 = 13 → Wo D cs A s h0 h H locs cells slots → lv_has ls 7 [(0, .ref t0), (2, .int x2)] → W p l e { frames := 5, cells := mc, slots := ms, locals := 150 } s m args below meth c H locs cells slots (MQ below (Zi D cs A hz rz) args s mc ms A) (F0 m 26 ls [])) (h : Hp) (x2 : Int32) (hJ : B_X10_astray_26 N k26 t0 h x2 = some (hz, rz)) (hk0 : h.kd t0 = 13) {H : Heap} {locs : List Loc} {cells slots : Nat} (w : Wo D cs A s h0 h H locs cells slots) {ls : Array Slot} (hl : lv_has ls 7 [(0, .ref t0), (2, .int x2)]) : W p l e { frames := 5, cells := mc, slots := ms, locals := 150 } s m args below meth c H locs cells slots (MQ below (Zi D cs A hz rz) args s mc ms A) (F0 m 26 ls []) := by
  obtain ⟨hx, hb, hml, hown, hts, -⟩ := id C
  unfold B_X10_astray_26 at hJ
  refine lv_iload_n hx hb dX10_astray_26 rfl (lv_at hl 1 rfl) ?_
  refine lv_aload_n hx hb dX10_astray_27 rfl (lv_at hl 0 rfl) ?_
  refine fg_1353 C w hk0 tw_6_216 dX10_astray_28 ?_
  refine lv_icmp_ge (tgt := 47) hx hb dX10_astray_31 (by decide) (fun c51 => ?_) (fun c51 => ?_)
  · have hJ := it_pos c51 hJ
    refine lv_iconst (v := (1 : Int32)) hx hb dX10_astray_47 (by decide) ?_
    refine lv_istore_n (i := 2) (lv' := [(2, .int (1 : Int32)), (0, .ref t0)]) hx hb dX10_astray_48 rfl hl (by decide) rfl (fun ls hl => ?_)
    exact sl_X10_astray_49 C hz2 N t0 N _ _ _ _ _ _ _ hJ hk0 w (lv_sub (l' := [(0, .ref t0), (2, .int (1 : Int32))]) hl [1, 0] rfl)
  · have hJ := it_neg c51 hJ
    refine lv_aload_n hx hb dX10_astray_34 rfl (lv_at hl 0 rfl) ?_
    refine fg_1358 C w hk0 tw_6_221 dX10_astray_35 ?_
    refine lv_iload_n hx hb dX10_astray_38 rfl (lv_at hl 1 rfl) ?_
    refine lv_iconst (v := (0 : Int32)) hx hb dX10_astray_39 (by decide) ?_
    obtain ⟨a52, ea52, hka52, hJ⟩ := dr_some hJ
    rw [ea52]
    obtain ⟨hi53, hJ⟩ := ck_some hJ
    refine jr_zastM C w hka52 hi53 (Or.inl rfl) dX10_astray_40 (fun H locs w => ?_)
    refine lv_iinc (v := x2 + (1 : Int32)) (lv' := [(2, .int (x2 + (1 : Int32))), (0, .ref t0)]) hx hb dX10_astray_41 hl (k := 1) rfl rfl (by decide) rfl (fun ls hl => ?_)
    refine lv_goto (tgt := 26) hx hb dX10_astray_44 (by decide) ?_
    exact i26 _ _ _ _ _ _ _ hJ hk0 w (lv_sub (l' := [(0, .ref t0), (2, .int (x2 + (1 : Int32)))]) hl [1, 0] rfl)
def L_X10_astray_26 (N : Nat) (t0 : Nat) : Nat → Hp → Int32 → Option (Hp × Int32)
  | 0 => fun _ _ => none
  | n + 1 => fun h x2 => B_X10_astray_26 N (L_X10_astray_26 N t0 n) t0 h x2
theorem ml_X10_astray_26 (N : Nat) (t0 : Nat) : ∀ (n : Nat) (h : Hp) (x2 : Int32), L_X10_astray_26 N t0 n h x2 = some (hz, rz) → Mo h hz := by
  intro n
  induction n with
  | zero => intro h x2 hJ; cases hJ
  | succ n ih => intro h x2 hJ; exact mb_X10_astray_26 N (L_X10_astray_26 N t0 n) t0 h x2 ih hJ
theorem sl_X10_astray_26 (C : Cx p s m args meth c cX10_astray 7 (some .int) RX10 D cs A h0.se) (hz2 : hz.nx ≤ h0.nx + mc ∧ hz.su ≤ h0.su + ms) (N : Nat) (t0 : Nat) : ∀ n : Nat, ∀ (h : Hp) (x2 : Int32) (H : Heap) (locs : List Loc) (cells slots : Nat) (ls : Array Slot), L_X10_astray_26 N t0 n h x2 = some (hz, rz) → h.kd t0 = 13 → Wo D cs A s h0 h H locs cells slots → lv_has ls 7 [(0, .ref t0), (2, .int x2)] → W p l e { frames := 5, cells := mc, slots := ms, locals := 150 } s m args below meth c H locs cells slots (MQ below (Zi D cs A hz rz) args s mc ms A) (F0 m 26 ls []) := by
  intro n
  induction n with
  | zero => intro h x2 H locs cells slots ls hJ; cases hJ
  | succ n ih =>
    intro h x2 H locs cells slots ls hJ hk0 w hl
    exact sb_X10_astray_26 C hz2 N (L_X10_astray_26 N t0 n) t0 (ml_X10_astray_26 N t0 n) ih h x2 hJ hk0 w hl
def B_X10_astray_24 (N : Nat) (t0 : Nat) (h : Hp) : Option (Hp × Int32) := L_X10_astray_26 N t0 N h (0 : Int32)
theorem mb_X10_astray_24 (N : Nat) (t0 : Nat) (h : Hp) (hJ : B_X10_astray_24 N t0 h = some (hz, rz)) : Mo h hz := by
  unfold B_X10_astray_24 at hJ
  exact ml_X10_astray_26 N t0 N _ _ hJ
set_option maxRecDepth 100000 in
set_option maxHeartbeats 4000000 in
theorem sb_X10_astray_24 (C : Cx p s m args meth c cX10_astray 7 (some .int) RX10 D cs A h0.se) (hz2 : hz.nx ≤ h0.nx + mc ∧ hz.su ≤ h0.su + ms) (N : Nat) (t0 : Nat) (h : Hp) (hJ : B_X10_astray_24 N t0 h = some (hz, rz)) (hk0 : h.kd t0 = 13) {H : Heap} {locs : List Loc} {cells slots : Nat} (w : Wo D cs A s h0 h H locs cells slots) {ls : Array Slot} (hl : lv_has ls 7 [(0, .ref t0)]) : W p l e { frames := 5, cells := mc, slots := ms, locals := 150 } s m args below meth c H locs cells slots (MQ below (Zi D cs A hz rz) args s mc ms A) (F0 m 24 ls []) := by
  obtain ⟨hx, hb, hml, hown, hts, -⟩ := id C
  unfold B_X10_astray_24 at hJ
  refine lv_iconst (v := (0 : Int32)) hx hb dX10_astray_24 (by decide) ?_
  refine lv_istore_n (i := 2) (lv' := [(2, .int (0 : Int32)), (0, .ref t0)]) hx hb dX10_astray_25 rfl hl (by decide) rfl (fun ls hl => ?_)
  exact sl_X10_astray_26 C hz2 N t0 N _ _ _ _ _ _ _ hJ hk0 w (lv_sub (l' := [(0, .ref t0), (2, .int (0 : Int32))]) hl [1, 0] rfl)
def B_X10_astray_13 (N : Nat) (t0 : Nat) (h : Hp) (y0 : Int32) : Option (Hp × Int32) := if y0 ≤ 0 then ((J_X10_gatherKeys N t0 h).bind (fun z => B_X10_astray_24 N t0 z.1)) else (some (h, y0))
theorem mb_X10_astray_13 (N : Nat) (t0 : Nat) (h : Hp) (y0 : Int32) (hJ : B_X10_astray_13 N t0 h y0 = some (hz, rz)) : Mo h hz := by
  unfold B_X10_astray_13 at hJ
  by_cases c54 : y0 ≤ 0
  · have hJ := it_pos c54 hJ
    obtain ⟨⟨h55, r56⟩, e57, hJ⟩ := ob_some hJ
    exact (mo_X10_gatherKeys N t0 h e57).tr (mb_X10_astray_24 N t0 _ hJ)
  · have hJ := it_neg c54 hJ
    obtain ⟨rfl, -⟩ := rs2 hJ
    exact ⟨fun _ _ => rfl, Nat.le_refl _, Nat.le_refl _, rfl, fun _ _ => rfl⟩
set_option maxRecDepth 100000 in
set_option maxHeartbeats 4000000 in
theorem sb_X10_astray_13 (C : Cx p s m args meth c cX10_astray 7 (some .int) RX10 D cs A h0.se) (hz2 : hz.nx ≤ h0.nx + mc ∧ hz.su ≤ h0.su + ms) (N : Nat) (t0 : Nat) (h : Hp) (y0 : Int32) (hJ : B_X10_astray_13 N t0 h y0 = some (hz, rz)) (hk0 : h.kd t0 = 13) {H : Heap} {locs : List Loc} {cells slots : Nat} (w : Wo D cs A s h0 h H locs cells slots) {ls : Array Slot} (hl : lv_has ls 7 [(0, .ref t0)]) : W p l e { frames := 5, cells := mc, slots := ms, locals := 150 } s m args below meth c H locs cells slots (MQ below (Zi D cs A hz rz) args s mc ms A) (F0 m 13 ls [.int y0]) := by
  obtain ⟨hx, hb, hml, hown, hts, -⟩ := id C
  unfold B_X10_astray_13 at hJ
  refine lv_istore_n (i := 1) (lv' := [(1, .int y0), (0, .ref t0)]) hx hb dX10_astray_13 rfl hl (by decide) rfl (fun ls hl => ?_)
  refine lv_iload_n hx hb dX10_astray_14 rfl (lv_at hl 0 rfl) ?_
  refine lv_if_le (tgt := 20) hx hb dX10_astray_15 (by decide) (fun c54 => ?_) (fun c54 => ?_)
  · have hJ := it_pos c54 hJ
    refine lv_aload_n hx hb dX10_astray_20 rfl (lv_at hl 1 rfl) ?_
    obtain ⟨⟨h55, r56⟩, e57, hJ⟩ := ob_some hJ
    refine jc_Vv (As := []) C w (cc_X10_gatherKeys N t0 h hk0 e57) (mo_X10_gatherKeys N t0 h e57) (mb_X10_astray_24 N t0 _ hJ) hz2 hk0 (by decide) rfl (fs := fs13 h t0) rfl rfl ⟨tw_7_194, tw_7_191, tw_7_193, ts_44, tw_1_7⟩ cd_X10_gatherKeys ⟨by decide, by decide⟩ hl.1 (by first | exact Nat.le_of_ble_eq_true rfl | simp [rf_cat, cat_i, cat_l, cat_r]) rfl dX10_astray_21 (fun H locs w1 => ?_)
    have hk58 := kd_keep w (mo_X10_gatherKeys N t0 h e57) hk0 (by decide)
    have w := w1
    exact sb_X10_astray_24 C hz2 N t0 _ hJ hk58 w (lv_sub (l' := [(0, .ref t0)]) hl [1] rfl)
  · have hJ := it_neg c54 hJ
    refine lv_iload_n hx hb dX10_astray_18 rfl (lv_at hl 0 rfl) ?_
    obtain ⟨rfl, rfl⟩ := rs2 hJ
    exact jr_iret C w hz2 dX10_astray_19
def B_X10_astray_9 (N : Nat) (t0 : Nat) (h : Hp) : Option (Hp × Int32) := (J_X10_onRings N t0 h).bind (fun z => B_X10_astray_13 N t0 z.1 z.2)
theorem mb_X10_astray_9 (N : Nat) (t0 : Nat) (h : Hp) (hJ : B_X10_astray_9 N t0 h = some (hz, rz)) : Mo h hz := by
  unfold B_X10_astray_9 at hJ
  obtain ⟨⟨h59, r60⟩, e61, hJ⟩ := ob_some hJ
  exact (mo_X10_onRings N t0 h e61).tr (mb_X10_astray_13 N t0 _ _ hJ)
set_option maxRecDepth 100000 in
set_option maxHeartbeats 4000000 in
theorem sb_X10_astray_9 (C : Cx p s m args meth c cX10_astray 7 (some .int) RX10 D cs A h0.se) (hz2 : hz.nx ≤ h0.nx + mc ∧ hz.su ≤ h0.su + ms) (N : Nat) (t0 : Nat) (h : Hp) (hJ : B_X10_astray_9 N t0 h = some (hz, rz)) (hk0 : h.kd t0 = 13) {H : Heap} {locs : List Loc} {cells slots : Nat} (w : Wo D cs A s h0 h H locs cells slots) {ls : Array Slot} (hl : lv_has ls 7 [(0, .ref t0)]) : W p l e { frames := 5, cells := mc, slots := ms, locals := 150 } s m args below meth c H locs cells slots (MQ below (Zi D cs A hz rz) args s mc ms A) (F0 m 9 ls []) := by
  obtain ⟨hx, hb, hml, hown, hts, -⟩ := id C
  unfold B_X10_astray_9 at hJ
  refine lv_aload_n hx hb dX10_astray_9 rfl (lv_at hl 0 rfl) ?_
  obtain ⟨⟨h59, r60⟩, e61, hJ⟩ := ob_some hJ
  refine jc_Vi (As := []) C w (cc_X10_onRings N t0 h hk0 e61) (mo_X10_onRings N t0 h e61) (mb_X10_astray_13 N t0 _ _ hJ) hz2 hk0 (by decide) rfl (fs := fs13 h t0) rfl rfl ⟨tw_8_128, tw_8_125, tw_8_127, ts_69, tw_1_7⟩ cd_X10_onRings ⟨by decide, by decide⟩ hl.1 (by first | exact Nat.le_of_ble_eq_true rfl | simp [rf_cat, cat_i, cat_l, cat_r]) rfl dX10_astray_10 (fun H locs w1 => ?_)
  have hk62 := kd_keep w (mo_X10_onRings N t0 h e61) hk0 (by decide)
  have w := w1
  exact sb_X10_astray_13 C hz2 N t0 _ _ hJ hk62 w hl
def B_X10_astray_0 (N : Nat) (t0 : Nat) (h : Hp) : Option (Hp × Int32) := (J_X10_draw N t0 (h.sgi 1300 t0 (0 : Int32))).bind (fun z => B_X10_astray_9 N t0 z.1)
theorem mb_X10_astray_0 (N : Nat) (t0 : Nat) (h : Hp) (hJ : B_X10_astray_0 N t0 h = some (hz, rz)) : Mo h hz := by
  unfold B_X10_astray_0 at hJ
  obtain ⟨⟨h63, r64⟩, e65, hJ⟩ := ob_some hJ
  exact (Mo.tr (show Mo h (h.sgi 1300 t0 (0 : Int32)) from ⟨fun _ _ => rfl, Nat.le_refl _, Nat.le_refl _, rfl, fun _ _ => rfl⟩) ((mo_X10_draw N t0 (h.sgi 1300 t0 (0 : Int32)) e65).tr (mb_X10_astray_9 N t0 _ hJ)))
set_option maxRecDepth 100000 in
set_option maxHeartbeats 4000000 in
theorem sb_X10_astray_0 (C : Cx p s m args meth c cX10_astray 7 (some .int) RX10 D cs A h0.se) (hz2 : hz.nx ≤ h0.nx + mc ∧ hz.su ≤ h0.su + ms) (N : Nat) (t0 : Nat) (h : Hp) (hJ : B_X10_astray_0 N t0 h = some (hz, rz)) (hk0 : h.kd t0 = 13) {H : Heap} {locs : List Loc} {cells slots : Nat} (w : Wo D cs A s h0 h H locs cells slots) {ls : Array Slot} (hl : lv_has ls 7 [(0, .ref t0)]) : W p l e { frames := 5, cells := mc, slots := ms, locals := 150 } s m args below meth c H locs cells slots (MQ below (Zi D cs A hz rz) args s mc ms A) (F0 m 0 ls []) := by
  obtain ⟨hx, hb, hml, hown, hts, -⟩ := id C
  unfold B_X10_astray_0 at hJ
  refine lv_aload_n hx hb dX10_astray_0 rfl (lv_at hl 0 rfl) ?_
  refine lv_iconst (v := (0 : Int32)) hx hb dX10_astray_1 (by decide) ?_
  refine fp_1300 (x := (0 : Int32)) C w hk0 tw_6_163 dX10_astray_2 (fun H locs w => ?_)
  refine lv_aload_n hx hb dX10_astray_5 rfl (lv_at hl 0 rfl) ?_
  obtain ⟨⟨h63, r64⟩, e65, hJ⟩ := ob_some hJ
  refine jc_Vv (As := []) C w (cc_X10_draw N t0 (h.sgi 1300 t0 (0 : Int32)) hk0 e65) (mo_X10_draw N t0 (h.sgi 1300 t0 (0 : Int32)) e65) (mb_X10_astray_9 N t0 _ hJ) hz2 hk0 (by decide) rfl (fs := fs13 (h.sgi 1300 t0 (0 : Int32)) t0) rfl rfl ⟨tw_8_112, tw_8_109, tw_8_111, ts_65, tw_1_7⟩ cd_X10_draw ⟨by decide, by decide⟩ hl.1 (by first | exact Nat.le_of_ble_eq_true rfl | simp [rf_cat, cat_i, cat_l, cat_r]) rfl dX10_astray_6 (fun H locs w1 => ?_)
  have hk66 := kd_keep w (mo_X10_draw N t0 (h.sgi 1300 t0 (0 : Int32)) e65) hk0 (by decide)
  have w := w1
  exact sb_X10_astray_9 C hz2 N t0 _ hJ hk66 w hl
def J_X10_astray (N : Nat) (t0 : Nat) (h : Hp) : Option (Hp × Int32) := B_X10_astray_0 N t0 h
theorem mo_X10_astray (N : Nat) (t0 : Nat) (h : Hp) (hJ : J_X10_astray N t0 h = some (hz, rz)) : Mo h hz := mb_X10_astray_0 N t0 h hJ
theorem cd_X10_astray : Cd yX10_astray 0 := ⟨by decide +kernel, by decide +kernel, by decide +kernel⟩
theorem cc_X10_astray (N : Nat) (t0 : Nat) (h : Hp) (hk0 : h.kd t0 = 13) (hJ : J_X10_astray N t0 h = some (hz, rz)) : Ci l yX10_astray cX10_astray 7 (some .int) 5 150 D cs h hz [.ref t0] rz := by
  intro mc ms g1 g2
  refine je_any (by decide) (by simp [lg_sl, rf_cat, cat_i, cat_l, cat_r]) ?_
  intro p e s m args below meth c C hin2 w ls hl
  have hl : lv_has ls 7 [(0, .ref t0)] := hl
  exact sb_X10_astray_0 C ⟨g1, g2⟩ N t0 h hJ hk0 w hl
end G_X10_astray
