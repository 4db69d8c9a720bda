section V_X10_horizon
variable {hz : Hp} {rz : Int32}
theorem wb_X10_horizon_42 (N : Nat) (k7 : Hp → Int32 → Int32 → Option (Hp × Int32)) (t0 : Nat) (h : Hp) (x1 : Int32) (x2 : Int32) (m7 : ∀ (h : Hp) (x1 : Int32) (x2 : Int32), k7 h x1 x2 = some (hz, rz) → Fw h hz) (hJ : B_X10_horizon_42 N k7 t0 h x1 x2 = some (hz, rz)) : Fw h hz := by
  unfold B_X10_horizon_42 at hJ
  exact m7 _ _ _ hJ
theorem wb_X10_horizon_7 (N : Nat) (k7 : Hp → Int32 → Int32 → Option (Hp × Int32)) (t0 : Nat) (h : Hp) (x1 : Int32) (x2 : Int32) (m7 : ∀ (h : Hp) (x1 : Int32) (x2 : Int32), k7 h x1 x2 = some (hz, rz) → Fw h hz) (hJ : B_X10_horizon_7 N k7 t0 h x1 x2 = some (hz, rz)) : Fw h hz := by
  unfold B_X10_horizon_7 at hJ
  by_cases c1 : (h.gi 1311 t0) < x2
  · have hJ := it_pos c1 hJ
    obtain ⟨rfl, -⟩ := rs2 hJ
    exact (Fw.rf h)
  · have hJ := it_neg c1 hJ
    obtain ⟨a2, ea2, -, hJ⟩ := dr_some hJ
    obtain ⟨-, hJ⟩ := ck_some hJ
    by_cases c4 : (h.bi a2 x2.toNatClampNeg) = (1 : Int32)
    · have hJ := it_pos c4 hJ
      obtain ⟨a5, ea5, -, hJ⟩ := dr_some hJ
      obtain ⟨-, hJ⟩ := ck_some hJ
      by_cases c7 : x1 ≤ (h.bi a5 x2.toNatClampNeg)
      · have hJ := it_pos c7 hJ
        exact wb_X10_horizon_42 N k7 t0 _ _ _ m7 hJ
      · have hJ := it_neg c7 hJ
        obtain ⟨a8, ea8, -, hJ⟩ := dr_some hJ
        obtain ⟨-, hJ⟩ := ck_some hJ
        exact wb_X10_horizon_42 N k7 t0 _ _ _ m7 hJ
    · have hJ := it_neg c4 hJ
      exact wb_X10_horizon_42 N k7 t0 _ _ _ m7 hJ
theorem wl_X10_horizon_7 (N : Nat) (t0 : Nat) : ∀ (n : Nat) (h : Hp) (x1 : Int32) (x2 : Int32), L_X10_horizon_7 N t0 n h x1 x2 = some (hz, rz) → Fw h hz := by
  intro n
  induction n with
  | zero => intro h x1 x2 hJ; cases hJ
  | succ n ih => intro h x1 x2 hJ; exact wb_X10_horizon_7 N (L_X10_horizon_7 N t0 n) t0 h x1 x2 ih hJ
theorem wb_X10_horizon_0 (N : Nat) (t0 : Nat) (h : Hp) (hJ : B_X10_horizon_0 N t0 h = some (hz, rz)) : Fw h hz := by
  unfold B_X10_horizon_0 at hJ
  exact wl_X10_horizon_7 N t0 N _ _ _ hJ
theorem wo_X10_horizon (N : Nat) (t0 : Nat) (h : Hp) (hJ : J_X10_horizon N t0 h = some (hz, rz)) : Fw h hz := wb_X10_horizon_0 N t0 h hJ
end V_X10_horizon
section V_X10_isKept
variable {hz : Hp} {rz : Int32}
theorem wb_X10_isKept_28 (N : Nat) (t0 : Nat) (h : Hp) (y0 : Int32) (hJ : B_X10_isKept_28 N t0 h y0 = some (hz, rz)) : Fw h hz := by
  unfold B_X10_isKept_28 at hJ
  obtain ⟨-, hJ⟩ := ck_some hJ
  obtain ⟨rfl, -⟩ := rs2 hJ
  exact (Fw.rf h)
theorem wb_X10_isKept_27 (N : Nat) (t0 : Nat) (h : Hp) (hJ : B_X10_isKept_27 N t0 h = some (hz, rz)) : Fw h hz := by
  unfold B_X10_isKept_27 at hJ
  exact wb_X10_isKept_28 N t0 _ _ hJ
theorem wb_X10_isKept_20 (N : Nat) (t0 : Nat) (h : Hp) (y0 : Int32) (y1 : Int32) (hJ : B_X10_isKept_20 N t0 h y0 y1 = some (hz, rz)) : Fw h hz := by
  unfold B_X10_isKept_20 at hJ
  by_cases c2 : y0 ≤ y1
  · have hJ := it_pos c2 hJ
    exact wb_X10_isKept_27 N t0 _ hJ
  · have hJ := it_neg c2 hJ
    exact wb_X10_isKept_28 N t0 _ _ hJ
theorem wb_X10_isKept_0 (N : Nat) (t0 : Nat) (h : Hp) (x1 : Int32) (hJ : B_X10_isKept_0 N t0 h x1 = some (hz, rz)) : Fw h hz := by
  unfold B_X10_isKept_0 at hJ
  obtain ⟨a3, ea3, -, hJ⟩ := dr_some hJ
  obtain ⟨-, hJ⟩ := ck_some hJ
  by_cases c5 : (h.bi a3 x1.toNatClampNeg) = (2 : Int32)
  · have hJ := it_pos c5 hJ
    obtain ⟨a6, ea6, -, hJ⟩ := dr_some hJ
    obtain ⟨-, hJ⟩ := ck_some hJ
    obtain ⟨⟨h8, r9⟩, e10, hJ⟩ := ob_some hJ
    exact (wo_X10_horizon N t0 h e10).tr (wb_X10_isKept_20 N t0 _ _ _ hJ)
  · have hJ := it_neg c5 hJ
    exact wb_X10_isKept_27 N t0 _ hJ
theorem wo_X10_isKept (N : Nat) (t0 : Nat) (h : Hp) (x1 : Int32) (hJ : J_X10_isKept N t0 h x1 = some (hz, rz)) : Fw h hz := wb_X10_isKept_0 N t0 h x1 hJ
end V_X10_isKept
section V_X10_runsOf
variable {hz : Hp} {rz : Int32}
theorem wb_X10_runsOf_128 (N : Nat) (k4 : Hp → Int32 → Int32 → Int32 → Option (Hp × Int32)) (t0 : Nat) (h : Hp) (x1 : Int32) (x2 : Int32) (x3 : Int32) (m4 : ∀ (h : Hp) (x1 : Int32) (x2 : Int32) (x3 : Int32), k4 h x1 x2 x3 = some (hz, rz) → Fw h hz) (hJ : B_X10_runsOf_128 N k4 t0 h x1 x2 x3 = some (hz, rz)) : Fw h hz := by
  unfold B_X10_runsOf_128 at hJ
  exact m4 _ _ _ _ hJ
theorem wb_X10_runsOf_99 (N : Nat) (k4 : Hp → Int32 → Int32 → Int32 → Option (Hp × Int32)) (t0 : Nat) (h : Hp) (x1 : Int32) (x2 : Int32) (x3 : Int32) (x4 : Int32) (m4 : ∀ (h : Hp) (x1 : Int32) (x2 : Int32) (x3 : Int32), k4 h x1 x2 x3 = some (hz, rz) → Fw h hz) (hJ : B_X10_runsOf_99 N k4 t0 h x1 x2 x3 x4 = some (hz, rz)) : Fw h hz := by
  unfold B_X10_runsOf_99 at hJ
  obtain ⟨a1, ea1, -, hJ⟩ := dr_some hJ
  obtain ⟨-, hJ⟩ := ck_some hJ
  obtain ⟨a3, ea3, -, hJ⟩ := dr_some hJ
  obtain ⟨-, hJ⟩ := ck_some hJ
  obtain ⟨a5, ea5, -, hJ⟩ := dr_some hJ
  obtain ⟨-, hJ⟩ := ck_some hJ
  obtain ⟨a7, ea7, -, hJ⟩ := dr_some hJ
  obtain ⟨-, hJ⟩ := ck_some hJ
  exact (Fw.tr (show Fw h ((h.sbi a3 x4.toNatClampNeg (h.bi a1 x3.toNatClampNeg)).sbi a7 x4.toNatClampNeg ((h.sbi a3 x4.toNatClampNeg (h.bi a1 x3.toNatClampNeg)).bi a5 x3.toNatClampNeg)) from (Fw.rf h)) (wb_X10_runsOf_128 N k4 t0 _ _ _ _ m4 hJ))
theorem wb_X10_runsOf_38 (N : Nat) (k4 : Hp → Int32 → Int32 → Int32 → Option (Hp × Int32)) (k38 : Hp → Int32 → Int32 → Int32 → Int32 → Option (Hp × Int32)) (t0 : Nat) (h : Hp) (x1 : Int32) (x2 : Int32) (x3 : Int32) (x4 : Int32) (m4 : ∀ (h : Hp) (x1 : Int32) (x2 : Int32) (x3 : Int32), k4 h x1 x2 x3 = some (hz, rz) → Fw h hz) (m38 : ∀ (h : Hp) (x1 : Int32) (x2 : Int32) (x3 : Int32) (x4 : Int32), k38 h x1 x2 x3 x4 = some (hz, rz) → Fw h hz) (hJ : B_X10_runsOf_38 N k4 k38 t0 h x1 x2 x3 x4 = some (hz, rz)) : Fw h hz := by
  unfold B_X10_runsOf_38 at hJ
  by_cases c9 : x4 ≤ 0
  · have hJ := it_pos c9 hJ
    exact wb_X10_runsOf_99 N k4 t0 _ _ _ _ _ m4 hJ
  · have hJ := it_neg c9 hJ
    obtain ⟨a10, ea10, -, hJ⟩ := dr_some hJ
    obtain ⟨-, hJ⟩ := ck_some hJ
    obtain ⟨a12, ea12, -, hJ⟩ := dr_some hJ
    obtain ⟨-, hJ⟩ := ck_some hJ
    by_cases c14 : (h.bi a10 (x4 - (1 : Int32)).toNatClampNeg) ≤ (h.bi a12 x3.toNatClampNeg)
    · have hJ := it_pos c14 hJ
      exact wb_X10_runsOf_99 N k4 t0 _ _ _ _ _ m4 hJ
    · have hJ := it_neg c14 hJ
      obtain ⟨a15, ea15, -, hJ⟩ := dr_some hJ
      obtain ⟨-, hJ⟩ := ck_some hJ
      obtain ⟨-, hJ⟩ := ck_some hJ
      obtain ⟨a18, ea18, -, hJ⟩ := dr_some hJ
      obtain ⟨-, hJ⟩ := ck_some hJ
      obtain ⟨-, hJ⟩ := ck_some hJ
      exact (Fw.tr (show Fw h ((h.sbi a15 x4.toNatClampNeg (h.bi a15 (x4 - (1 : Int32)).toNatClampNeg)).sbi a18 x4.toNatClampNeg ((h.sbi a15 x4.toNatClampNeg (h.bi a15 (x4 - (1 : Int32)).toNatClampNeg)).bi a18 (x4 - (1 : Int32)).toNatClampNeg)) from (Fw.rf h)) (m38 _ _ _ _ _ hJ))
theorem wl_X10_runsOf_38 (N : Nat) (k4 : Hp → Int32 → Int32 → Int32 → Option (Hp × Int32)) (t0 : Nat) (m4 : ∀ (h : Hp) (x1 : Int32) (x2 : Int32) (x3 : Int32), k4 h x1 x2 x3 = some (hz, rz) → Fw h hz) : ∀ (n : Nat) (h : Hp) (x1 : Int32) (x2 : Int32) (x3 : Int32) (x4 : Int32), L_X10_runsOf_38 N k4 t0 n h x1 x2 x3 x4 = some (hz, rz) → Fw h hz := by
  intro n
  induction n with
  | zero => intro h x1 x2 x3 x4 hJ; cases hJ
  | succ n ih => intro h x1 x2 x3 x4 hJ; exact wb_X10_runsOf_38 N k4 (L_X10_runsOf_38 N k4 t0 n) t0 h x1 x2 x3 x4 m4 ih hJ
theorem wb_X10_runsOf_211 (N : Nat) (k144 : Hp → Int32 → Int32 → Int64 → Int32 → Option (Hp × Int32)) (t0 : Nat) (h : Hp) (x2 : Int32) (x3 : Int32) (x6 : Int32) (y0 : Int64) (m144 : ∀ (h : Hp) (x2 : Int32) (x3 : Int32) (x4 : Int64) (x6 : Int32), k144 h x2 x3 x4 x6 = some (hz, rz) → Fw h hz) (hJ : B_X10_runsOf_211 N k144 t0 h x2 x3 x6 y0 = some (hz, rz)) : Fw h hz := by
  unfold B_X10_runsOf_211 at hJ
  exact m144 _ _ _ _ _ hJ
theorem wb_X10_runsOf_184 (N : Nat) (k144 : Hp → Int32 → Int32 → Int64 → Int32 → Option (Hp × Int32)) (t0 : Nat) (h : Hp) (x2 : Int32) (x3 : Int32) (x4 : Int64) (x6 : Int32) (m144 : ∀ (h : Hp) (x2 : Int32) (x3 : Int32) (x4 : Int64) (x6 : Int32), k144 h x2 x3 x4 x6 = some (hz, rz) → Fw h hz) (hJ : B_X10_runsOf_184 N k144 t0 h x2 x3 x4 x6 = some (hz, rz)) : Fw h hz := by
  unfold B_X10_runsOf_184 at hJ
  obtain ⟨a21, ea21, -, hJ⟩ := dr_some hJ
  obtain ⟨-, hJ⟩ := ck_some hJ
  by_cases c23 : (lg_cmp ((h.bi a21 x6.toNatClampNeg).toInt64) x4) ≤ 0
  · have hJ := it_pos c23 hJ
    exact wb_X10_runsOf_211 N k144 t0 _ _ _ _ _ m144 hJ
  · have hJ := it_neg c23 hJ
    obtain ⟨a24, ea24, -, hJ⟩ := dr_some hJ
    obtain ⟨-, hJ⟩ := ck_some hJ
    exact wb_X10_runsOf_211 N k144 t0 _ _ _ _ _ m144 hJ
theorem wb_X10_runsOf_171 (N : Nat) (k144 : Hp → Int32 → Int32 → Int64 → Int32 → Option (Hp × Int32)) (t0 : Nat) (h : Hp) (x2 : Int32) (x3 : Int32) (x6 : Int32) (m144 : ∀ (h : Hp) (x2 : Int32) (x3 : Int32) (x4 : Int64) (x6 : Int32), k144 h x2 x3 x4 x6 = some (hz, rz) → Fw h hz) (hJ : B_X10_runsOf_171 N k144 t0 h x2 x3 x6 = some (hz, rz)) : Fw h hz := by
  unfold B_X10_runsOf_171 at hJ
  obtain ⟨a26, ea26, -, hJ⟩ := dr_some hJ
  obtain ⟨-, hJ⟩ := ck_some hJ
  exact wb_X10_runsOf_184 N k144 t0 _ _ _ _ _ m144 hJ
theorem wb_X10_runsOf_144 (N : Nat) (k144 : Hp → Int32 → Int32 → Int64 → Int32 → Option (Hp × Int32)) (t0 : Nat) (h : Hp) (x2 : Int32) (x3 : Int32) (x4 : Int64) (x6 : Int32) (m144 : ∀ (h : Hp) (x2 : Int32) (x3 : Int32) (x4 : Int64) (x6 : Int32), k144 h x2 x3 x4 x6 = some (hz, rz) → Fw h hz) (hJ : B_X10_runsOf_144 N k144 t0 h x2 x3 x4 x6 = some (hz, rz)) : Fw h hz := by
  unfold B_X10_runsOf_144 at hJ
  by_cases c28 : x2 ≤ x6
  · have hJ := it_pos c28 hJ
    obtain ⟨rfl, -⟩ := rs2 hJ
    exact (Fw.rf h)
  · have hJ := it_neg c28 hJ
    by_cases c29 : x6 = 0
    · have hJ := it_pos c29 hJ
      exact wb_X10_runsOf_171 N k144 t0 _ _ _ _ m144 hJ
    · have hJ := it_neg c29 hJ
      obtain ⟨a30, ea30, -, hJ⟩ := dr_some hJ
      obtain ⟨-, hJ⟩ := ck_some hJ
      by_cases c32 : (lg_cmp ((h.bi a30 x6.toNatClampNeg).toInt64) (x4 + (1 : Int64))) ≤ 0
      · have hJ := it_pos c32 hJ
        exact wb_X10_runsOf_184 N k144 t0 _ _ _ _ _ m144 hJ
      · have hJ := it_neg c32 hJ
        exact wb_X10_runsOf_171 N k144 t0 _ _ _ _ m144 hJ
theorem wl_X10_runsOf_144 (N : Nat) (t0 : Nat) : ∀ (n : Nat) (h : Hp) (x2 : Int32) (x3 : Int32) (x4 : Int64) (x6 : Int32), L_X10_runsOf_144 N t0 n h x2 x3 x4 x6 = some (hz, rz) → Fw h hz := by
  intro n
  induction n with
  | zero => intro h x2 x3 x4 x6 hJ; cases hJ
  | succ n ih => intro h x2 x3 x4 x6 hJ; exact wb_X10_runsOf_144 N (L_X10_runsOf_144 N t0 n) t0 h x2 x3 x4 x6 ih hJ
theorem wb_X10_runsOf_134 (N : Nat) (t0 : Nat) (h : Hp) (x2 : Int32) (hJ : B_X10_runsOf_134 N t0 h x2 = some (hz, rz)) : Fw h hz := by
  unfold B_X10_runsOf_134 at hJ
  exact wl_X10_runsOf_144 N t0 N _ _ _ _ _ hJ
theorem wb_X10_runsOf_4 (N : Nat) (k4 : Hp → Int32 → Int32 → Int32 → Option (Hp × Int32)) (t0 : Nat) (h : Hp) (x1 : Int32) (x2 : Int32) (x3 : Int32) (m4 : ∀ (h : Hp) (x1 : Int32) (x2 : Int32) (x3 : Int32), k4 h x1 x2 x3 = some (hz, rz) → Fw h hz) (hJ : B_X10_runsOf_4 N k4 t0 h x1 x2 x3 = some (hz, rz)) : Fw h hz := by
  unfold B_X10_runsOf_4 at hJ
  by_cases c33 : (h.gi 1323 t0) ≤ x3
  · have hJ := it_pos c33 hJ
    exact wb_X10_runsOf_134 N t0 _ _ hJ
  · have hJ := it_neg c33 hJ
    obtain ⟨a34, ea34, -, hJ⟩ := dr_some hJ
    obtain ⟨-, hJ⟩ := ck_some hJ
    by_cases c36 : (h.bi a34 x1.toNatClampNeg) = (1 : Int32)
    · have hJ := it_pos c36 hJ
      exact wb_X10_runsOf_134 N t0 _ _ hJ
    · have hJ := it_neg c36 hJ
      obtain ⟨a37, ea37, -, hJ⟩ := dr_some hJ
      obtain ⟨-, hJ⟩ := ck_some hJ
      by_cases c39 : (h.bi a37 x3.toNatClampNeg) = x1
      · have hJ := it_pos c39 hJ
        exact wl_X10_runsOf_38 N k4 t0 m4 N _ _ _ _ _ hJ
      · have hJ := it_neg c39 hJ
        exact wb_X10_runsOf_128 N k4 t0 _ _ _ _ m4 hJ
theorem wl_X10_runsOf_4 (N : Nat) (t0 : Nat) : ∀ (n : Nat) (h : Hp) (x1 : Int32) (x2 : Int32) (x3 : Int32), L_X10_runsOf_4 N t0 n h x1 x2 x3 = some (hz, rz) → Fw h hz := by
  intro n
  induction n with
  | zero => intro h x1 x2 x3 hJ; cases hJ
  | succ n ih => intro h x1 x2 x3 hJ; exact wb_X10_runsOf_4 N (L_X10_runsOf_4 N t0 n) t0 h x1 x2 x3 ih hJ
theorem wb_X10_runsOf_0 (N : Nat) (t0 : Nat) (h : Hp) (x1 : Int32) (hJ : B_X10_runsOf_0 N t0 h x1 = some (hz, rz)) : Fw h hz := by
  unfold B_X10_runsOf_0 at hJ
  exact wl_X10_runsOf_4 N t0 N _ _ _ _ hJ
theorem wo_X10_runsOf (N : Nat) (t0 : Nat) (h : Hp) (x1 : Int32) (hJ : J_X10_runsOf N t0 h x1 = some (hz, rz)) : Fw h hz := wb_X10_runsOf_0 N t0 h x1 hJ
end V_X10_runsOf
section V_X10_told
variable {hz : Hp} {rz : Int32}
theorem wb_X10_told_18 (N : Nat) (t0 : Nat) (h : Hp) (hJ : B_X10_told_18 N t0 h = some (hz, rz)) : Fw h hz := by
  unfold B_X10_told_18 at hJ
  obtain ⟨rfl, -⟩ := rs2 hJ
  exact (Fw.rf h)
theorem wb_X10_told_168 (N : Nat) (t0 : Nat) (h : Hp) (y0 : Int32) (hJ : B_X10_told_168 N t0 h y0 = some (hz, rz)) : Fw h hz := by
  unfold B_X10_told_168 at hJ
  obtain ⟨rfl, -⟩ := rs2 hJ
  exact (Fw.rf h)
theorem wb_X10_told_146 (N : Nat) (t0 : Nat) (h : Hp) (y0 : Int32) (hJ : B_X10_told_146 N t0 h y0 = some (hz, rz)) : Fw h hz := by
  unfold B_X10_told_146 at hJ
  obtain ⟨rfl, -⟩ := rs2 hJ
  exact (Fw.rf h)
theorem wb_X10_told_140 (N : Nat) (t0 : Nat) (h : Hp) (y0 : Int32) (hJ : B_X10_told_140 N t0 h y0 = some (hz, rz)) : Fw h hz := by
  unfold B_X10_told_140 at hJ
  obtain ⟨rfl, -⟩ := rs2 hJ
  exact (Fw.rf h)
theorem wb_X10_told_134 (N : Nat) (t0 : Nat) (h : Hp) (y0 : Int32) (hJ : B_X10_told_134 N t0 h y0 = some (hz, rz)) : Fw h hz := by
  unfold B_X10_told_134 at hJ
  obtain ⟨rfl, -⟩ := rs2 hJ
  exact (Fw.rf h)
theorem wb_X10_told_119 (N : Nat) (t0 : Nat) (h : Hp) (y0 : Int32) (hJ : B_X10_told_119 N t0 h y0 = some (hz, rz)) : Fw h hz := by
  unfold B_X10_told_119 at hJ
  obtain ⟨rfl, -⟩ := rs2 hJ
  exact (Fw.rf h)
theorem wb_X10_told_51 (N : Nat) (t0 : Nat) (h : Hp) (x1 : Int32) (x2 : Int32) (hJ : B_X10_told_51 N t0 h x1 x2 = some (hz, rz)) : Fw h hz := by
  unfold B_X10_told_51 at hJ
  by_cases c1 : x2 = (1 : Int32)
  · have hJ := it_pos c1 hJ
    obtain ⟨a2, ea2, -, hJ⟩ := dr_some hJ
    obtain ⟨-, hJ⟩ := ck_some hJ
    obtain ⟨rfl, -⟩ := rs2 hJ
    exact (Fw.rf h)
  · have hJ := it_neg c1 hJ
    by_cases c4 : x2 = (2 : Int32)
    · have hJ := it_pos c4 hJ
      obtain ⟨a5, ea5, -, hJ⟩ := dr_some hJ
      obtain ⟨-, hJ⟩ := ck_some hJ
      obtain ⟨rfl, -⟩ := rs2 hJ
      exact (Fw.rf h)
    · have hJ := it_neg c4 hJ
      by_cases c7 : x2 = (3 : Int32)
      · have hJ := it_pos c7 hJ
        obtain ⟨⟨h8, r9⟩, e10, hJ⟩ := ob_some hJ
        exact (wo_X10_outOf N t0 h x1 e10).tr (wb_X10_told_119 N t0 _ _ hJ)
      · have hJ := it_neg c7 hJ
        by_cases c12 : x2 = (4 : Int32)
        · have hJ := it_pos c12 hJ
          obtain ⟨a13, ea13, -, hJ⟩ := dr_some hJ
          obtain ⟨-, hJ⟩ := ck_some hJ
          by_cases c15 : (h.bi a13 x1.toNatClampNeg) = 0
          · have hJ := it_pos c15 hJ
            exact wb_X10_told_134 N t0 _ _ hJ
          · have hJ := it_neg c15 hJ
            exact wb_X10_told_134 N t0 _ _ hJ
        · have hJ := it_neg c12 hJ
          by_cases c16 : x2 = (5 : Int32)
          · have hJ := it_pos c16 hJ
            obtain ⟨⟨h17, r18⟩, e19, hJ⟩ := ob_some hJ
            exact (wo_X10_wroteMany N t0 h x1 e19).tr (wb_X10_told_140 N t0 _ _ hJ)
          · have hJ := it_neg c16 hJ
            by_cases c21 : x2 = (6 : Int32)
            · have hJ := it_pos c21 hJ
              obtain ⟨⟨h22, r23⟩, e24, hJ⟩ := ob_some hJ
              exact (wo_X10_runsOf N t0 h x1 e24).tr (wb_X10_told_146 N t0 _ _ hJ)
            · have hJ := it_neg c21 hJ
              by_cases c26 : x2 = (7 : Int32)
              · have hJ := it_pos c26 hJ
                obtain ⟨a27, ea27, -, hJ⟩ := dr_some hJ
                obtain ⟨-, hJ⟩ := ck_some hJ
                by_cases c29 : (h.bi a27 x1.toNatClampNeg) = 0
                · have hJ := it_pos c29 hJ
                  exact wb_X10_told_168 N t0 _ _ hJ
                · have hJ := it_neg c29 hJ
                  obtain ⟨a30, ea30, -, hJ⟩ := dr_some hJ
                  obtain ⟨-, hJ⟩ := ck_some hJ
                  exact wb_X10_told_168 N t0 _ _ hJ
              · have hJ := it_neg c26 hJ
                by_cases c32 : x2 = (8 : Int32)
                · have hJ := it_pos c32 hJ
                  obtain ⟨a33, ea33, -, hJ⟩ := dr_some hJ
                  obtain ⟨-, hJ⟩ := ck_some hJ
                  obtain ⟨rfl, -⟩ := rs2 hJ
                  exact (Fw.rf h)
                · have hJ := it_neg c32 hJ
                  obtain ⟨rfl, -⟩ := rs2 hJ
                  exact (Fw.rf h)
theorem wb_X10_told_46 (N : Nat) (t0 : Nat) (h : Hp) (x1 : Int32) (x2 : Int32) (y0 : Int32) (hJ : B_X10_told_46 N t0 h x1 x2 y0 = some (hz, rz)) : Fw h hz := by
  unfold B_X10_told_46 at hJ
  by_cases c35 : y0 = 0
  · have hJ := it_pos c35 hJ
    obtain ⟨rfl, -⟩ := rs2 hJ
    exact (Fw.rf h)
  · have hJ := it_neg c35 hJ
    exact wb_X10_told_51 N t0 _ _ _ hJ
theorem wb_X10_told_0 (N : Nat) (t0 : Nat) (h : Hp) (x1 : Int32) (x2 : Int32) (hJ : B_X10_told_0 N t0 h x1 x2 = some (hz, rz)) : Fw h hz := by
  unfold B_X10_told_0 at hJ
  by_cases c36 : x1 < (1 : Int32)
  · have hJ := it_pos c36 hJ
    exact (Fw.tr (show Fw h (h.sgi 1300 t0 (0 : Int32)) from (Fw.rf h)) (wb_X10_told_18 N t0 _ hJ))
  · have hJ := it_neg c36 hJ
    by_cases c37 : x1 ≤ ((h.sgi 1300 t0 (0 : Int32)).gi 1311 t0)
    · have hJ := it_pos c37 hJ
      by_cases c38 : x2 = 0
      · have hJ := it_pos c38 hJ
        obtain ⟨a46, ea46, -, hJ⟩ := dr_some hJ
        obtain ⟨-, hJ⟩ := ck_some hJ
        obtain ⟨rfl, -⟩ := rs2 hJ
        exact (Fw.rf h)
      · have hJ := it_neg c38 hJ
        obtain ⟨a39, ea39, -, hJ⟩ := dr_some hJ
        obtain ⟨-, hJ⟩ := ck_some hJ
        by_cases c41 : ((h.sgi 1300 t0 (0 : Int32)).bi a39 x1.toNatClampNeg) = (1 : Int32)
        · have hJ := it_pos c41 hJ
          exact (Fw.tr (show Fw h (h.sgi 1300 t0 (0 : Int32)) from (Fw.rf h)) (wb_X10_told_51 N t0 _ _ _ hJ))
        · have hJ := it_neg c41 hJ
          obtain ⟨⟨h42, r43⟩, e44, hJ⟩ := ob_some hJ
          exact (Fw.tr (show Fw h (h.sgi 1300 t0 (0 : Int32)) from (Fw.rf h)) ((wo_X10_isKept N t0 (h.sgi 1300 t0 (0 : Int32)) x1 e44).tr (wb_X10_told_46 N t0 _ _ _ _ hJ)))
    · have hJ := it_neg c37 hJ
      exact (Fw.tr (show Fw h (h.sgi 1300 t0 (0 : Int32)) from (Fw.rf h)) (wb_X10_told_18 N t0 _ hJ))
theorem wo_X10_told (N : Nat) (t0 : Nat) (h : Hp) (x1 : Int32) (x2 : Int32) (hJ : J_X10_told N t0 h x1 x2 = some (hz, rz)) : Fw h hz := wb_X10_told_0 N t0 h x1 x2 hJ
end V_X10_told
section V_X10_why
variable {hz : Hp} {rz : Int32}
theorem wb_X10_why_53 (N : Nat) (t0 : Nat) (h : Hp) (y0 : Int32) (hJ : B_X10_why_53 N t0 h y0 = some (hz, rz)) : Fw h hz := by
  unfold B_X10_why_53 at hJ
  obtain ⟨rfl, -⟩ := rs2 hJ
  exact (Fw.rf h)
theorem wb_X10_why_0 (N : Nat) (t0 : Nat) (h : Hp) (x1 : Int32) (hJ : B_X10_why_0 N t0 h x1 = some (hz, rz)) : Fw h hz := by
  unfold B_X10_why_0 at hJ
  by_cases c1 : x1 = 0
  · have hJ := it_pos c1 hJ
    exact (Fw.tr (show Fw h (h.sgi 1300 t0 (0 : Int32)) from (Fw.rf h)) (wb_X10_why_53 N t0 _ _ hJ))
  · have hJ := it_neg c1 hJ
    by_cases c2 : x1 = (1 : Int32)
    · have hJ := it_pos c2 hJ
      exact (Fw.tr (show Fw h (h.sgi 1300 t0 (0 : Int32)) from (Fw.rf h)) (wb_X10_why_53 N t0 _ _ hJ))
    · have hJ := it_neg c2 hJ
      by_cases c3 : x1 = (2 : Int32)
      · have hJ := it_pos c3 hJ
        exact (Fw.tr (show Fw h (h.sgi 1300 t0 (0 : Int32)) from (Fw.rf h)) (wb_X10_why_53 N t0 _ _ hJ))
      · have hJ := it_neg c3 hJ
        by_cases c4 : x1 = (3 : Int32)
        · have hJ := it_pos c4 hJ
          exact (Fw.tr (show Fw h (h.sgi 1300 t0 (0 : Int32)) from (Fw.rf h)) (wb_X10_why_53 N t0 _ _ hJ))
        · have hJ := it_neg c4 hJ
          exact (Fw.tr (show Fw h (h.sgi 1300 t0 (0 : Int32)) from (Fw.rf h)) (wb_X10_why_53 N t0 _ _ hJ))
theorem wo_X10_why (N : Nat) (t0 : Nat) (h : Hp) (x1 : Int32) (hJ : J_X10_why N t0 h x1 = some (hz, rz)) : Fw h hz := wb_X10_why_0 N t0 h x1 hJ
end V_X10_why
section V_X10_isKeptVersion
variable {hz : Hp} {rz : Int32}
theorem wb_X10_isKeptVersion_40 (N : Nat) (t0 : Nat) (h : Hp) (y0 : Int32) (hJ : B_X10_isKeptVersion_40 N t0 h y0 = some (hz, rz)) : Fw h hz := by
  unfold B_X10_isKeptVersion_40 at hJ
  obtain ⟨-, hJ⟩ := ck_some hJ
  obtain ⟨rfl, -⟩ := rs2 hJ
  exact (Fw.rf h)
theorem wb_X10_isKeptVersion_39 (N : Nat) (t0 : Nat) (h : Hp) (hJ : B_X10_isKeptVersion_39 N t0 h = some (hz, rz)) : Fw h hz := by
  unfold B_X10_isKeptVersion_39 at hJ
  exact wb_X10_isKeptVersion_40 N t0 _ _ hJ
theorem wb_X10_isKeptVersion_22 (N : Nat) (t0 : Nat) (h : Hp) (x1 : Int32) (y0 : Int32) (hJ : B_X10_isKeptVersion_22 N t0 h x1 y0 = some (hz, rz)) : Fw h hz := by
  unfold B_X10_isKeptVersion_22 at hJ
  by_cases c2 : y0 = x1
  · have hJ := it_pos c2 hJ
    obtain ⟨a3, ea3, -, hJ⟩ := dr_some hJ
    obtain ⟨-, hJ⟩ := ck_some hJ
    by_cases c5 : (h.bi a3 x1.toNatClampNeg) = 0
    · have hJ := it_pos c5 hJ
      exact wb_X10_isKeptVersion_39 N t0 _ hJ
    · have hJ := it_neg c5 hJ
      exact wb_X10_isKeptVersion_40 N t0 _ _ hJ
  · have hJ := it_neg c2 hJ
    exact wb_X10_isKeptVersion_39 N t0 _ hJ
theorem wb_X10_isKeptVersion_5 (N : Nat) (t0 : Nat) (h : Hp) (x1 : Int32) (x2 : Int32) (y0 : Int32) (hJ : B_X10_isKeptVersion_5 N t0 h x1 x2 y0 = some (hz, rz)) : Fw h hz := by
  unfold B_X10_isKeptVersion_5 at hJ
  by_cases c6 : y0 ≤ x2
  · have hJ := it_pos c6 hJ
    obtain ⟨a7, ea7, -, hJ⟩ := dr_some hJ
    obtain ⟨-, hJ⟩ := ck_some hJ
    obtain ⟨⟨h9, r10⟩, e11, hJ⟩ := ob_some hJ
    exact (wo_X10_versionAt N t0 h (h.bi a7 x1.toNatClampNeg) x2 e11).tr (wb_X10_isKeptVersion_22 N t0 _ _ _ hJ)
  · have hJ := it_neg c6 hJ
    obtain ⟨rfl, -⟩ := rs2 hJ
    exact (Fw.rf h)
theorem wb_X10_isKeptVersion_0 (N : Nat) (t0 : Nat) (h : Hp) (x1 : Int32) (x2 : Int32) (hJ : B_X10_isKeptVersion_0 N t0 h x1 x2 = some (hz, rz)) : Fw h hz := by
  unfold B_X10_isKeptVersion_0 at hJ
  obtain ⟨⟨h13, r14⟩, e15, hJ⟩ := ob_some hJ
  exact (wo_X10_momentOf N t0 h x1 e15).tr (wb_X10_isKeptVersion_5 N t0 _ _ _ _ hJ)
theorem wo_X10_isKeptVersion (N : Nat) (t0 : Nat) (h : Hp) (x1 : Int32) (x2 : Int32) (hJ : J_X10_isKeptVersion N t0 h x1 x2 = some (hz, rz)) : Fw h hz := wb_X10_isKeptVersion_0 N t0 h x1 x2 hJ
end V_X10_isKeptVersion
section V_X10_versionOf
variable {hz : Hp} {rz : Int32}
theorem wb_X10_versionOf_60 (N : Nat) (k16 : Hp → Int32 → Int32 → Int32 → Int32 → Int32 → Option (Hp × Int32)) (t0 : Nat) (h : Hp) (x1 : Int32) (x2 : Int32) (x3 : Int32) (x4 : Int32) (x5 : Int32) (m16 : ∀ (h : Hp) (x1 : Int32) (x2 : Int32) (x3 : Int32) (x4 : Int32) (x5 : Int32), k16 h x1 x2 x3 x4 x5 = some (hz, rz) → Fw h hz) (hJ : B_X10_versionOf_60 N k16 t0 h x1 x2 x3 x4 x5 = some (hz, rz)) : Fw h hz := by
  unfold B_X10_versionOf_60 at hJ
  exact m16 _ _ _ _ _ _ hJ
theorem wb_X10_versionOf_43 (N : Nat) (k16 : Hp → Int32 → Int32 → Int32 → Int32 → Int32 → Option (Hp × Int32)) (t0 : Nat) (h : Hp) (x1 : Int32) (x2 : Int32) (x3 : Int32) (x4 : Int32) (x5 : Int32) (y0 : Int32) (m16 : ∀ (h : Hp) (x1 : Int32) (x2 : Int32) (x3 : Int32) (x4 : Int32) (x5 : Int32), k16 h x1 x2 x3 x4 x5 = some (hz, rz) → Fw h hz) (hJ : B_X10_versionOf_43 N k16 t0 h x1 x2 x3 x4 x5 y0 = some (hz, rz)) : Fw h hz := by
  unfold B_X10_versionOf_43 at hJ
  by_cases c1 : y0 = 0
  · have hJ := it_pos c1 hJ
    exact wb_X10_versionOf_60 N k16 t0 _ _ _ _ _ _ m16 hJ
  · have hJ := it_neg c1 hJ
    by_cases c2 : x4 = 0
    · have hJ := it_pos c2 hJ
      obtain ⟨rfl, -⟩ := rs2 hJ
      exact (Fw.rf h)
    · have hJ := it_neg c2 hJ
      exact wb_X10_versionOf_60 N k16 t0 _ _ _ _ _ _ m16 hJ
theorem wb_X10_versionOf_66 (N : Nat) (t0 : Nat) (h : Hp) (hJ : B_X10_versionOf_66 N t0 h = some (hz, rz)) : Fw h hz := by
  unfold B_X10_versionOf_66 at hJ
  obtain ⟨rfl, -⟩ := rs2 hJ
  exact (Fw.rf h)
theorem wb_X10_versionOf_16 (N : Nat) (k16 : Hp → Int32 → Int32 → Int32 → Int32 → Int32 → Option (Hp × Int32)) (t0 : Nat) (h : Hp) (x1 : Int32) (x2 : Int32) (x3 : Int32) (x4 : Int32) (x5 : Int32) (m16 : ∀ (h : Hp) (x1 : Int32) (x2 : Int32) (x3 : Int32) (x4 : Int32) (x5 : Int32), k16 h x1 x2 x3 x4 x5 = some (hz, rz) → Fw h hz) (hJ : B_X10_versionOf_16 N k16 t0 h x1 x2 x3 x4 x5 = some (hz, rz)) : Fw h hz := by
  unfold B_X10_versionOf_16 at hJ
  by_cases c3 : x5 < 0
  · have hJ := it_pos c3 hJ
    exact wb_X10_versionOf_66 N t0 _ hJ
  · have hJ := it_neg c3 hJ
    by_cases c4 : x2 < 0
    · have hJ := it_pos c4 hJ
      exact wb_X10_versionOf_66 N t0 _ hJ
    · have hJ := it_neg c4 hJ
      obtain ⟨a5, ea5, -, hJ⟩ := dr_some hJ
      obtain ⟨-, hJ⟩ := ck_some hJ
      by_cases c7 : (h.bi a5 x5.toNatClampNeg) = x1
      · have hJ := it_pos c7 hJ
        obtain ⟨⟨h8, r9⟩, e10, hJ⟩ := ob_some hJ
        exact (wo_X10_isKeptVersion N t0 h x5 x3 e10).tr (wb_X10_versionOf_43 N k16 t0 _ _ _ _ _ _ _ m16 hJ)
      · have hJ := it_neg c7 hJ
        exact wb_X10_versionOf_60 N k16 t0 _ _ _ _ _ _ m16 hJ
theorem wl_X10_versionOf_16 (N : Nat) (t0 : Nat) : ∀ (n : Nat) (h : Hp) (x1 : Int32) (x2 : Int32) (x3 : Int32) (x4 : Int32) (x5 : Int32), L_X10_versionOf_16 N t0 n h x1 x2 x3 x4 x5 = some (hz, rz) → Fw h hz := by
  intro n
  induction n with
  | zero => intro h x1 x2 x3 x4 x5 hJ; cases hJ
  | succ n ih => intro h x1 x2 x3 x4 x5 hJ; exact wb_X10_versionOf_16 N (L_X10_versionOf_16 N t0 n) t0 h x1 x2 x3 x4 x5 ih hJ
theorem wb_X10_versionOf_4 (N : Nat) (t0 : Nat) (h : Hp) (x1 : Int32) (x2 : Int32) (y0 : Int32) (hJ : B_X10_versionOf_4 N t0 h x1 x2 y0 = some (hz, rz)) : Fw h hz := by
  unfold B_X10_versionOf_4 at hJ
  exact wl_X10_versionOf_16 N t0 N _ _ _ _ _ _ hJ
theorem wb_X10_versionOf_0 (N : Nat) (t0 : Nat) (h : Hp) (x1 : Int32) (x2 : Int32) (hJ : B_X10_versionOf_0 N t0 h x1 x2 = some (hz, rz)) : Fw h hz := by
  unfold B_X10_versionOf_0 at hJ
  obtain ⟨⟨h12, r13⟩, e14, hJ⟩ := ob_some hJ
  exact (wo_X10_horizon N t0 h e14).tr (wb_X10_versionOf_4 N t0 _ _ _ _ hJ)
theorem wo_X10_versionOf (N : Nat) (t0 : Nat) (h : Hp) (x1 : Int32) (x2 : Int32) (hJ : J_X10_versionOf N t0 h x1 x2 = some (hz, rz)) : Fw h hz := wb_X10_versionOf_0 N t0 h x1 x2 hJ
end V_X10_versionOf
section V_X10_version
variable {hz : Hp} {rz : Int32}
theorem wb_X10_version_73 (N : Nat) (t0 : Nat) (h : Hp) (y0 : Int32) (hJ : B_X10_version_73 N t0 h y0 = some (hz, rz)) : Fw h hz := by
  unfold B_X10_version_73 at hJ
  obtain ⟨rfl, -⟩ := rs2 hJ
  exact (Fw.rf h)
theorem wb_X10_version_31 (N : Nat) (t0 : Nat) (h : Hp) (y0 : Int32) (hJ : B_X10_version_31 N t0 h y0 = some (hz, rz)) : Fw h hz := by
  unfold B_X10_version_31 at hJ
  exact wb_X10_version_73 N t0 _ _ hJ
theorem wb_X10_version_11 (N : Nat) (t0 : Nat) (h : Hp) (x3 : Int32) (y0 : Int32) (hJ : B_X10_version_11 N t0 h x3 y0 = some (hz, rz)) : Fw h hz := by
  unfold B_X10_version_11 at hJ
  by_cases c1 : y0 = (-1 : Int32)
  · have hJ := it_pos c1 hJ
    obtain ⟨rfl, -⟩ := rs2 hJ
    exact (Fw.rf h)
  · have hJ := it_neg c1 hJ
    by_cases c2 : x3 = 0
    · have hJ := it_pos c2 hJ
      obtain ⟨⟨h10, r11⟩, e12, hJ⟩ := ob_some hJ
      exact (wo_X10_momentOf N t0 h y0 e12).tr (wb_X10_version_31 N t0 _ _ hJ)
    · have hJ := it_neg c2 hJ
      by_cases c3 : x3 = (1 : Int32)
      · have hJ := it_pos c3 hJ
        obtain ⟨a7, ea7, -, hJ⟩ := dr_some hJ
        obtain ⟨-, hJ⟩ := ck_some hJ
        by_cases c9 : (h.bi a7 y0.toNatClampNeg) = 0
        · have hJ := it_pos c9 hJ
          exact wb_X10_version_73 N t0 _ _ hJ
        · have hJ := it_neg c9 hJ
          exact wb_X10_version_73 N t0 _ _ hJ
      · have hJ := it_neg c3 hJ
        by_cases c4 : x3 = (2 : Int32)
        · have hJ := it_pos c4 hJ
          obtain ⟨a5, ea5, -, hJ⟩ := dr_some hJ
          obtain ⟨-, hJ⟩ := ck_some hJ
          exact wb_X10_version_73 N t0 _ _ hJ
        · have hJ := it_neg c4 hJ
          exact wb_X10_version_73 N t0 _ _ hJ
theorem wb_X10_version_0 (N : Nat) (t0 : Nat) (h : Hp) (x1 : Int32) (x2 : Int32) (x3 : Int32) (hJ : B_X10_version_0 N t0 h x1 x2 x3 = some (hz, rz)) : Fw h hz := by
  unfold B_X10_version_0 at hJ
  obtain ⟨⟨h14, r15⟩, e16, hJ⟩ := ob_some hJ
  exact (Fw.tr (show Fw h (h.sgi 1300 t0 (0 : Int32)) from (Fw.rf h)) ((wo_X10_versionOf N t0 (h.sgi 1300 t0 (0 : Int32)) x1 x2 e16).tr (wb_X10_version_11 N t0 _ _ _ hJ)))
theorem wo_X10_version (N : Nat) (t0 : Nat) (h : Hp) (x1 : Int32) (x2 : Int32) (x3 : Int32) (hJ : J_X10_version N t0 h x1 x2 x3 = some (hz, rz)) : Fw h hz := wb_X10_version_0 N t0 h x1 x2 x3 hJ
end V_X10_version
section V_X10_versionValue
variable {hz : Hp} {rz : Int64}
theorem wb_X10_versionValue_36 (N : Nat) (t0 : Nat) (h : Hp) (y0 : Int64) (hJ : B_X10_versionValue_36 N t0 h y0 = some (hz, rz)) : Fw h hz := by
  unfold B_X10_versionValue_36 at hJ
  obtain ⟨rfl, -⟩ := rs2 hJ
  exact (Fw.rf h)
theorem wb_X10_versionValue_26 (N : Nat) (t0 : Nat) (h : Hp) (hJ : B_X10_versionValue_26 N t0 h = some (hz, rz)) : Fw h hz := by
  unfold B_X10_versionValue_26 at hJ
  exact wb_X10_versionValue_36 N t0 _ _ hJ
theorem wb_X10_versionValue_11 (N : Nat) (t0 : Nat) (h : Hp) (y0 : Int32) (hJ : B_X10_versionValue_11 N t0 h y0 = some (hz, rz)) : Fw h hz := by
  unfold B_X10_versionValue_11 at hJ
  by_cases c1 : y0 = (-1 : Int32)
  · have hJ := it_pos c1 hJ
    exact wb_X10_versionValue_26 N t0 _ hJ
  · have hJ := it_neg c1 hJ
    obtain ⟨a2, ea2, -, hJ⟩ := dr_some hJ
    obtain ⟨-, hJ⟩ := ck_some hJ
    by_cases c4 : (h.bi a2 y0.toNatClampNeg) = 0
    · have hJ := it_pos c4 hJ
      exact wb_X10_versionValue_26 N t0 _ hJ
    · have hJ := it_neg c4 hJ
      obtain ⟨a5, ea5, -, hJ⟩ := dr_some hJ
      obtain ⟨-, hJ⟩ := ck_some hJ
      exact wb_X10_versionValue_36 N t0 _ _ hJ
theorem wb_X10_versionValue_0 (N : Nat) (t0 : Nat) (h : Hp) (x1 : Int32) (x2 : Int32) (hJ : B_X10_versionValue_0 N t0 h x1 x2 = some (hz, rz)) : Fw h hz := by
  unfold B_X10_versionValue_0 at hJ
  obtain ⟨⟨h7, r8⟩, e9, hJ⟩ := ob_some hJ
  exact (Fw.tr (show Fw h (h.sgi 1300 t0 (0 : Int32)) from (Fw.rf h)) ((wo_X10_versionOf N t0 (h.sgi 1300 t0 (0 : Int32)) x1 x2 e9).tr (wb_X10_versionValue_11 N t0 _ _ hJ)))
theorem wo_X10_versionValue (N : Nat) (t0 : Nat) (h : Hp) (x1 : Int32) (x2 : Int32) (hJ : J_X10_versionValue N t0 h x1 x2 = some (hz, rz)) : Fw h hz := wb_X10_versionValue_0 N t0 h x1 x2 hJ
end V_X10_versionValue
