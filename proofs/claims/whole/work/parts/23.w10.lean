section V_X1_isAhead
variable {hz : Hp} {rz : Int32}
theorem wb_X1_isAhead_33 (N : Nat) (t0 : Nat) (h : Hp) (y0 : Int32) (hJ : B_X1_isAhead_33 N t0 h y0 = some (hz, rz)) : Fw h hz := by
  unfold B_X1_isAhead_33 at hJ
  obtain ⟨-, hJ⟩ := ck_some hJ
  obtain ⟨rfl, -⟩ := rs2 hJ
  exact (Fw.rf h)
theorem wb_X1_isAhead_0 (N : Nat) (t0 : Nat) (h : Hp) (x1 : Int32) (x2 : Int32) (hJ : B_X1_isAhead_0 N t0 h x1 x2 = some (hz, rz)) : Fw h hz := by
  unfold B_X1_isAhead_0 at hJ
  obtain ⟨a2, ea2, -, hJ⟩ := dr_some hJ
  obtain ⟨-, hJ⟩ := ck_some hJ
  by_cases c4 : (lg_cmp ((((h.aw a2 ((x2 * (h.fi 403 t0)) + ((x1.toUInt32 >>> ((6 : Int32).toUInt32 &&& Int32.toUInt32 31)).toInt32)).toNatClampNeg).toUInt64 >>> ((x1 &&& (63 : Int32)).toInt64.toUInt64 &&& Int64.toUInt64 63)).toInt64) &&& (1 : Int64)) (0 : Int64)) = 0
  · have hJ := it_pos c4 hJ
    exact wb_X1_isAhead_33 N t0 _ _ hJ
  · have hJ := it_neg c4 hJ
    exact wb_X1_isAhead_33 N t0 _ _ hJ
theorem wo_X1_isAhead (N : Nat) (t0 : Nat) (h : Hp) (x1 : Int32) (x2 : Int32) (hJ : J_X1_isAhead N t0 h x1 x2 = some (hz, rz)) : Fw h hz := wb_X1_isAhead_0 N t0 h x1 x2 hJ
end V_X1_isAhead
section V_X1_takeOver
variable {hz : Hp}
theorem wb_X1_takeOver_2 (N : Nat) (k2 : Hp → Int32 → Int32 → Int32 → Option (Hp × Unit)) (t0 : Nat) (h : Hp) (x1 : Int32) (x2 : Int32) (x3 : Int32) (m2 : ∀ (h : Hp) (x1 : Int32) (x2 : Int32) (x3 : Int32), k2 h x1 x2 x3 = some (hz, ()) → Fw h hz) (hJ : B_X1_takeOver_2 N k2 t0 h x1 x2 x3 = some (hz, ())) : Fw h hz := by
  unfold B_X1_takeOver_2 at hJ
  by_cases c1 : (h.fi 403 t0) ≤ x3
  · have hJ := it_pos c1 hJ
    obtain ⟨rfl, -⟩ := rs2 hJ
    exact (Fw.rf h)
  · have hJ := it_neg c1 hJ
    obtain ⟨a2, ea2, -, hJ⟩ := dr_some hJ
    obtain ⟨-, hJ⟩ := ck_some hJ
    obtain ⟨a4, ea4, -, hJ⟩ := dr_some hJ
    obtain ⟨-, hJ⟩ := ck_some hJ
    obtain ⟨-, hJ⟩ := ck_some hJ
    exact (Fw.tr (show Fw h (h.saw a2 ((x2 * (h.fi 403 t0)) + x3).toNatClampNeg ((h.aw a2 ((x2 * (h.fi 403 t0)) + x3).toNatClampNeg) ||| (h.aw a4 ((x1 * (h.fi 403 t0)) + x3).toNatClampNeg))) from (Fw.rf h)) (m2 _ _ _ _ hJ))
theorem wl_X1_takeOver_2 (N : Nat) (t0 : Nat) : ∀ (n : Nat) (h : Hp) (x1 : Int32) (x2 : Int32) (x3 : Int32), L_X1_takeOver_2 N t0 n h x1 x2 x3 = some (hz, ()) → Fw h hz := by
  intro n
  induction n with
  | zero => intro h x1 x2 x3 hJ; cases hJ
  | succ n ih => intro h x1 x2 x3 hJ; exact wb_X1_takeOver_2 N (L_X1_takeOver_2 N t0 n) t0 h x1 x2 x3 ih hJ
theorem wb_X1_takeOver_0 (N : Nat) (t0 : Nat) (h : Hp) (x1 : Int32) (x2 : Int32) (hJ : B_X1_takeOver_0 N t0 h x1 x2 = some (hz, ())) : Fw h hz := by
  unfold B_X1_takeOver_0 at hJ
  exact wl_X1_takeOver_2 N t0 N _ _ _ _ hJ
theorem wo_X1_takeOver (N : Nat) (t0 : Nat) (h : Hp) (x1 : Int32) (x2 : Int32) (hJ : J_X1_takeOver N t0 h x1 x2 = some (hz, ())) : Fw h hz := wb_X1_takeOver_0 N t0 h x1 x2 hJ
end V_X1_takeOver
section V_X1_onRings
variable {hz : Hp} {rz : Int32}
theorem wb_X1_onRings_35 (N : Nat) (k2 : Hp → Int32 → Option (Hp × Int32)) (k12 : Hp → Int32 → Int32 → Option (Hp × Int32)) (t0 : Nat) (h : Hp) (x1 : Int32) (x2 : Int32) (m2 : ∀ (h : Hp) (x1 : Int32), k2 h x1 = some (hz, rz) → Fw h hz) (m12 : ∀ (h : Hp) (x1 : Int32) (x2 : Int32), k12 h x1 x2 = some (hz, rz) → Fw h hz) (hJ : B_X1_onRings_35 N k2 k12 t0 h x1 x2 = some (hz, rz)) : Fw h hz := by
  unfold B_X1_onRings_35 at hJ
  exact m12 _ _ _ hJ
theorem wb_X1_onRings_26 (N : Nat) (k2 : Hp → Int32 → Option (Hp × Int32)) (k12 : Hp → Int32 → Int32 → Option (Hp × Int32)) (t0 : Nat) (h : Hp) (x1 : Int32) (x2 : Int32) (y0 : Int32) (m2 : ∀ (h : Hp) (x1 : Int32), k2 h x1 = some (hz, rz) → Fw h hz) (m12 : ∀ (h : Hp) (x1 : Int32) (x2 : Int32), k12 h x1 x2 = some (hz, rz) → Fw h hz) (hJ : B_X1_onRings_26 N k2 k12 t0 h x1 x2 y0 = some (hz, rz)) : Fw h hz := by
  unfold B_X1_onRings_26 at hJ
  by_cases c1 : y0 = 0
  · have hJ := it_pos c1 hJ
    exact wb_X1_onRings_35 N k2 k12 t0 _ _ _ m2 m12 hJ
  · have hJ := it_neg c1 hJ
    obtain ⟨⟨h2, r3⟩, e4, hJ⟩ := ob_some hJ
    exact (wo_X1_takeOver N t0 h x1 x2 e4).tr (wb_X1_onRings_35 N k2 k12 t0 _ _ _ m2 m12 hJ)
theorem wb_X1_onRings_12 (N : Nat) (k2 : Hp → Int32 → Option (Hp × Int32)) (k12 : Hp → Int32 → Int32 → Option (Hp × Int32)) (t0 : Nat) (h : Hp) (x1 : Int32) (x2 : Int32) (m2 : ∀ (h : Hp) (x1 : Int32), k2 h x1 = some (hz, rz) → Fw h hz) (m12 : ∀ (h : Hp) (x1 : Int32) (x2 : Int32), k12 h x1 x2 = some (hz, rz) → Fw h hz) (hJ : B_X1_onRings_12 N k2 k12 t0 h x1 x2 = some (hz, rz)) : Fw h hz := by
  unfold B_X1_onRings_12 at hJ
  by_cases c6 : (h.fi 402 t0) ≤ x2
  · have hJ := it_pos c6 hJ
    exact m2 _ _ hJ
  · have hJ := it_neg c6 hJ
    obtain ⟨⟨h7, r8⟩, e9, hJ⟩ := ob_some hJ
    exact (wo_X1_isAhead N t0 h x1 x2 e9).tr (wb_X1_onRings_26 N k2 k12 t0 _ _ _ _ m2 m12 hJ)
theorem wl_X1_onRings_12 (N : Nat) (k2 : Hp → Int32 → Option (Hp × Int32)) (t0 : Nat) (m2 : ∀ (h : Hp) (x1 : Int32), k2 h x1 = some (hz, rz) → Fw h hz) : ∀ (n : Nat) (h : Hp) (x1 : Int32) (x2 : Int32), L_X1_onRings_12 N k2 t0 n h x1 x2 = some (hz, rz) → Fw h hz := by
  intro n
  induction n with
  | zero => intro h x1 x2 hJ; cases hJ
  | succ n ih => intro h x1 x2 hJ; exact wb_X1_onRings_12 N k2 (L_X1_onRings_12 N k2 t0 n) t0 h x1 x2 m2 ih hJ
theorem wb_X1_onRings_71 (N : Nat) (k51 : Hp → Int32 → Int32 → Option (Hp × Int32)) (t0 : Nat) (h : Hp) (x1 : Int32) (x2 : Int32) (m51 : ∀ (h : Hp) (x1 : Int32) (x2 : Int32), k51 h x1 x2 = some (hz, rz) → Fw h hz) (hJ : B_X1_onRings_71 N k51 t0 h x1 x2 = some (hz, rz)) : Fw h hz := by
  unfold B_X1_onRings_71 at hJ
  exact m51 _ _ _ hJ
theorem wb_X1_onRings_65 (N : Nat) (k51 : Hp → Int32 → Int32 → Option (Hp × Int32)) (t0 : Nat) (h : Hp) (x1 : Int32) (x2 : Int32) (y0 : Int32) (m51 : ∀ (h : Hp) (x1 : Int32) (x2 : Int32), k51 h x1 x2 = some (hz, rz) → Fw h hz) (hJ : B_X1_onRings_65 N k51 t0 h x1 x2 y0 = some (hz, rz)) : Fw h hz := by
  unfold B_X1_onRings_65 at hJ
  by_cases c11 : y0 = 0
  · have hJ := it_pos c11 hJ
    exact wb_X1_onRings_71 N k51 t0 _ _ _ m51 hJ
  · have hJ := it_neg c11 hJ
    exact wb_X1_onRings_71 N k51 t0 _ _ _ m51 hJ
theorem wb_X1_onRings_51 (N : Nat) (k51 : Hp → Int32 → Int32 → Option (Hp × Int32)) (t0 : Nat) (h : Hp) (x1 : Int32) (x2 : Int32) (m51 : ∀ (h : Hp) (x1 : Int32) (x2 : Int32), k51 h x1 x2 = some (hz, rz) → Fw h hz) (hJ : B_X1_onRings_51 N k51 t0 h x1 x2 = some (hz, rz)) : Fw h hz := by
  unfold B_X1_onRings_51 at hJ
  by_cases c12 : (h.fi 402 t0) ≤ x2
  · have hJ := it_pos c12 hJ
    obtain ⟨rfl, -⟩ := rs2 hJ
    exact (Fw.rf h)
  · have hJ := it_neg c12 hJ
    obtain ⟨⟨h13, r14⟩, e15, hJ⟩ := ob_some hJ
    exact (wo_X1_isAhead N t0 h x2 x2 e15).tr (wb_X1_onRings_65 N k51 t0 _ _ _ _ m51 hJ)
theorem wl_X1_onRings_51 (N : Nat) (t0 : Nat) : ∀ (n : Nat) (h : Hp) (x1 : Int32) (x2 : Int32), L_X1_onRings_51 N t0 n h x1 x2 = some (hz, rz) → Fw h hz := by
  intro n
  induction n with
  | zero => intro h x1 x2 hJ; cases hJ
  | succ n ih => intro h x1 x2 hJ; exact wb_X1_onRings_51 N (L_X1_onRings_51 N t0 n) t0 h x1 x2 ih hJ
theorem wb_X1_onRings_2 (N : Nat) (k2 : Hp → Int32 → Option (Hp × Int32)) (t0 : Nat) (h : Hp) (x1 : Int32) (m2 : ∀ (h : Hp) (x1 : Int32), k2 h x1 = some (hz, rz) → Fw h hz) (hJ : B_X1_onRings_2 N k2 t0 h x1 = some (hz, rz)) : Fw h hz := by
  unfold B_X1_onRings_2 at hJ
  by_cases c17 : (h.fi 402 t0) ≤ x1
  · have hJ := it_pos c17 hJ
    exact wl_X1_onRings_51 N t0 N _ _ _ hJ
  · have hJ := it_neg c17 hJ
    exact wl_X1_onRings_12 N k2 t0 m2 N _ _ _ hJ
theorem wl_X1_onRings_2 (N : Nat) (t0 : Nat) : ∀ (n : Nat) (h : Hp) (x1 : Int32), L_X1_onRings_2 N t0 n h x1 = some (hz, rz) → Fw h hz := by
  intro n
  induction n with
  | zero => intro h x1 hJ; cases hJ
  | succ n ih => intro h x1 hJ; exact wb_X1_onRings_2 N (L_X1_onRings_2 N t0 n) t0 h x1 ih hJ
theorem wb_X1_onRings_0 (N : Nat) (t0 : Nat) (h : Hp) (hJ : B_X1_onRings_0 N t0 h = some (hz, rz)) : Fw h hz := by
  unfold B_X1_onRings_0 at hJ
  exact wl_X1_onRings_2 N t0 N _ _ hJ
theorem wo_X1_onRings (N : Nat) (t0 : Nat) (h : Hp) (hJ : J_X1_onRings N t0 h = some (hz, rz)) : Fw h hz := wb_X1_onRings_0 N t0 h hJ
end V_X1_onRings
