section V_X10_keptMany
variable {hz : Hp} {rz : Int32}
theorem wb_X10_keptMany_61 (N : Nat) (k4 : Hp → Int32 → Int32 → Int32 → Option (Hp × Int32)) (t0 : Nat) (h : Hp) (x1 : Int32) (x3 : Int32) (y0 : Int32) (y1 : Int32) (m4 : ∀ (h : Hp) (x1 : Int32) (x2 : Int32) (x3 : Int32), k4 h x1 x2 x3 = some (hz, rz) → Fw h hz) (hJ : B_X10_keptMany_61 N k4 t0 h x1 x3 y0 y1 = some (hz, rz)) : Fw h hz := by
  unfold B_X10_keptMany_61 at hJ
  exact m4 _ _ _ _ hJ
theorem wb_X10_keptMany_60 (N : Nat) (k4 : Hp → Int32 → Int32 → Int32 → Option (Hp × Int32)) (t0 : Nat) (h : Hp) (x1 : Int32) (x3 : Int32) (y0 : Int32) (m4 : ∀ (h : Hp) (x1 : Int32) (x2 : Int32) (x3 : Int32), k4 h x1 x2 x3 = some (hz, rz) → Fw h hz) (hJ : B_X10_keptMany_60 N k4 t0 h x1 x3 y0 = some (hz, rz)) : Fw h hz := by
  unfold B_X10_keptMany_60 at hJ
  exact wb_X10_keptMany_61 N k4 t0 _ _ _ _ _ m4 hJ
theorem wb_X10_keptMany_46 (N : Nat) (k4 : Hp → Int32 → Int32 → Int32 → Option (Hp × Int32)) (t0 : Nat) (h : Hp) (x1 : Int32) (x2 : Int32) (x3 : Int32) (x4 : Int32) (m4 : ∀ (h : Hp) (x1 : Int32) (x2 : Int32) (x3 : Int32), k4 h x1 x2 x3 = some (hz, rz) → Fw h hz) (hJ : B_X10_keptMany_46 N k4 t0 h x1 x2 x3 x4 = some (hz, rz)) : Fw h hz := by
  unfold B_X10_keptMany_46 at hJ
  by_cases c1 : x1 = 0
  · have hJ := it_pos c1 hJ
    by_cases c2 : x4 = 0
    · have hJ := it_pos c2 hJ
      exact wb_X10_keptMany_60 N k4 t0 _ _ _ _ m4 hJ
    · have hJ := it_neg c2 hJ
      exact wb_X10_keptMany_61 N k4 t0 _ _ _ _ _ m4 hJ
  · have hJ := it_neg c1 hJ
    exact wb_X10_keptMany_60 N k4 t0 _ _ _ _ m4 hJ
theorem wb_X10_keptMany_44 (N : Nat) (k4 : Hp → Int32 → Int32 → Int32 → Option (Hp × Int32)) (t0 : Nat) (h : Hp) (x1 : Int32) (x3 : Int32) (x4 : Int32) (y0 : Int32) (y1 : Int32) (m4 : ∀ (h : Hp) (x1 : Int32) (x2 : Int32) (x3 : Int32), k4 h x1 x2 x3 = some (hz, rz) → Fw h hz) (hJ : B_X10_keptMany_44 N k4 t0 h x1 x3 x4 y0 y1 = some (hz, rz)) : Fw h hz := by
  unfold B_X10_keptMany_44 at hJ
  exact wb_X10_keptMany_46 N k4 t0 _ _ _ _ _ m4 hJ
theorem wb_X10_keptMany_38 (N : Nat) (k4 : Hp → Int32 → Int32 → Int32 → Option (Hp × Int32)) (t0 : Nat) (h : Hp) (x1 : Int32) (x2 : Int32) (x3 : Int32) (x4 : Int32) (m4 : ∀ (h : Hp) (x1 : Int32) (x2 : Int32) (x3 : Int32), k4 h x1 x2 x3 = some (hz, rz) → Fw h hz) (hJ : B_X10_keptMany_38 N k4 t0 h x1 x2 x3 x4 = some (hz, rz)) : Fw h hz := by
  unfold B_X10_keptMany_38 at hJ
  obtain ⟨⟨h3, r4⟩, e5, hJ⟩ := ob_some hJ
  exact (wo_X10_runsOf N t0 h x3 e5).tr (wb_X10_keptMany_44 N k4 t0 _ _ _ _ _ _ m4 hJ)
theorem wb_X10_keptMany_17 (N : Nat) (k4 : Hp → Int32 → Int32 → Int32 → Option (Hp × Int32)) (t0 : Nat) (h : Hp) (x1 : Int32) (x2 : Int32) (x3 : Int32) (y0 : Int32) (m4 : ∀ (h : Hp) (x1 : Int32) (x2 : Int32) (x3 : Int32), k4 h x1 x2 x3 = some (hz, rz) → Fw h hz) (hJ : B_X10_keptMany_17 N k4 t0 h x1 x2 x3 y0 = some (hz, rz)) : Fw h hz := by
  unfold B_X10_keptMany_17 at hJ
  by_cases c7 : x1 = 0
  · have hJ := it_pos c7 hJ
    exact wb_X10_keptMany_46 N k4 t0 _ _ _ _ _ m4 hJ
  · have hJ := it_neg c7 hJ
    by_cases c8 : y0 = 0
    · have hJ := it_pos c8 hJ
      obtain ⟨a9, ea9, -, hJ⟩ := dr_some hJ
      obtain ⟨-, hJ⟩ := ck_some hJ
      by_cases c11 : (h.bi a9 x3.toNatClampNeg) = (1 : Int32)
      · have hJ := it_pos c11 hJ
        exact wb_X10_keptMany_38 N k4 t0 _ _ _ _ _ m4 hJ
      · have hJ := it_neg c11 hJ
        exact wb_X10_keptMany_46 N k4 t0 _ _ _ _ _ m4 hJ
    · have hJ := it_neg c8 hJ
      exact wb_X10_keptMany_38 N k4 t0 _ _ _ _ _ m4 hJ
theorem wb_X10_keptMany_4 (N : Nat) (k4 : Hp → Int32 → Int32 → Int32 → Option (Hp × Int32)) (t0 : Nat) (h : Hp) (x1 : Int32) (x2 : Int32) (x3 : Int32) (m4 : ∀ (h : Hp) (x1 : Int32) (x2 : Int32) (x3 : Int32), k4 h x1 x2 x3 = some (hz, rz) → Fw h hz) (hJ : B_X10_keptMany_4 N k4 t0 h x1 x2 x3 = some (hz, rz)) : Fw h hz := by
  unfold B_X10_keptMany_4 at hJ
  by_cases c12 : (h.gi 1311 t0) < x3
  · have hJ := it_pos c12 hJ
    obtain ⟨rfl, -⟩ := rs2 hJ
    exact (Fw.rf h)
  · have hJ := it_neg c12 hJ
    obtain ⟨⟨h13, r14⟩, e15, hJ⟩ := ob_some hJ
    exact (wo_X10_isKept N t0 h x3 e15).tr (wb_X10_keptMany_17 N k4 t0 _ _ _ _ _ m4 hJ)
theorem wl_X10_keptMany_4 (N : Nat) (t0 : Nat) : ∀ (n : Nat) (h : Hp) (x1 : Int32) (x2 : Int32) (x3 : Int32), L_X10_keptMany_4 N t0 n h x1 x2 x3 = some (hz, rz) → Fw h hz := by
  intro n
  induction n with
  | zero => intro h x1 x2 x3 hJ; cases hJ
  | succ n ih => intro h x1 x2 x3 hJ; exact wb_X10_keptMany_4 N (L_X10_keptMany_4 N t0 n) t0 h x1 x2 x3 ih hJ
theorem wb_X10_keptMany_0 (N : Nat) (t0 : Nat) (h : Hp) (x1 : Int32) (hJ : B_X10_keptMany_0 N t0 h x1 = some (hz, rz)) : Fw h hz := by
  unfold B_X10_keptMany_0 at hJ
  exact wl_X10_keptMany_4 N t0 N _ _ _ _ hJ
theorem wo_X10_keptMany (N : Nat) (t0 : Nat) (h : Hp) (x1 : Int32) (hJ : J_X10_keptMany N t0 h x1 = some (hz, rz)) : Fw h hz := wb_X10_keptMany_0 N t0 h x1 hJ
end V_X10_keptMany
section V_X10_manyThat
variable {hz : Hp} {rz : Int32}
theorem wb_X10_manyThat_28 (N : Nat) (k4 : Hp → Int32 → Int32 → Int32 → Option (Hp × Int32)) (t0 : Nat) (h : Hp) (x1 : Int32) (x3 : Int32) (y0 : Int32) (y1 : Int32) (m4 : ∀ (h : Hp) (x1 : Int32) (x2 : Int32) (x3 : Int32), k4 h x1 x2 x3 = some (hz, rz) → Fw h hz) (hJ : B_X10_manyThat_28 N k4 t0 h x1 x3 y0 y1 = some (hz, rz)) : Fw h hz := by
  unfold B_X10_manyThat_28 at hJ
  exact m4 _ _ _ _ hJ
theorem wb_X10_manyThat_4 (N : Nat) (k4 : Hp → Int32 → Int32 → Int32 → Option (Hp × Int32)) (t0 : Nat) (h : Hp) (x1 : Int32) (x2 : Int32) (x3 : Int32) (m4 : ∀ (h : Hp) (x1 : Int32) (x2 : Int32) (x3 : Int32), k4 h x1 x2 x3 = some (hz, rz) → Fw h hz) (hJ : B_X10_manyThat_4 N k4 t0 h x1 x2 x3 = some (hz, rz)) : Fw h hz := by
  unfold B_X10_manyThat_4 at hJ
  by_cases c1 : (h.gi 1311 t0) < x3
  · have hJ := it_pos c1 hJ
    obtain ⟨rfl, -⟩ := rs2 hJ
    exact (Fw.rf h)
  · have hJ := it_neg c1 hJ
    obtain ⟨a2, ea2, -, hJ⟩ := dr_some hJ
    obtain ⟨-, hJ⟩ := ck_some hJ
    by_cases c4 : (h.bi a2 x3.toNatClampNeg) = x1
    · have hJ := it_pos c4 hJ
      exact wb_X10_manyThat_28 N k4 t0 _ _ _ _ _ m4 hJ
    · have hJ := it_neg c4 hJ
      exact wb_X10_manyThat_28 N k4 t0 _ _ _ _ _ m4 hJ
theorem wl_X10_manyThat_4 (N : Nat) (t0 : Nat) : ∀ (n : Nat) (h : Hp) (x1 : Int32) (x2 : Int32) (x3 : Int32), L_X10_manyThat_4 N t0 n h x1 x2 x3 = some (hz, rz) → Fw h hz := by
  intro n
  induction n with
  | zero => intro h x1 x2 x3 hJ; cases hJ
  | succ n ih => intro h x1 x2 x3 hJ; exact wb_X10_manyThat_4 N (L_X10_manyThat_4 N t0 n) t0 h x1 x2 x3 ih hJ
theorem wb_X10_manyThat_0 (N : Nat) (t0 : Nat) (h : Hp) (x1 : Int32) (hJ : B_X10_manyThat_0 N t0 h x1 = some (hz, rz)) : Fw h hz := by
  unfold B_X10_manyThat_0 at hJ
  exact wl_X10_manyThat_4 N t0 N _ _ _ _ hJ
theorem wo_X10_manyThat (N : Nat) (t0 : Nat) (h : Hp) (x1 : Int32) (hJ : J_X10_manyThat N t0 h x1 = some (hz, rz)) : Fw h hz := wb_X10_manyThat_0 N t0 h x1 hJ
end V_X10_manyThat
section V_X10_versionMany
variable {hz : Hp} {rz : Int32}
theorem wb_X10_versionMany_70 (N : Nat) (k10 : Hp → Int32 → Int32 → Int32 → Int32 → Option (Hp × Int32)) (t0 : Nat) (h : Hp) (x1 : Int32) (x2 : Int32) (x3 : Int32) (x4 : Int32) (m10 : ∀ (h : Hp) (x1 : Int32) (x2 : Int32) (x3 : Int32) (x4 : Int32), k10 h x1 x2 x3 x4 = some (hz, rz) → Fw h hz) (hJ : B_X10_versionMany_70 N k10 t0 h x1 x2 x3 x4 = some (hz, rz)) : Fw h hz := by
  unfold B_X10_versionMany_70 at hJ
  exact m10 _ _ _ _ _ hJ
theorem wb_X10_versionMany_68 (N : Nat) (k10 : Hp → Int32 → Int32 → Int32 → Int32 → Option (Hp × Int32)) (t0 : Nat) (h : Hp) (x1 : Int32) (x3 : Int32) (x4 : Int32) (y0 : Int32) (y1 : Int32) (m10 : ∀ (h : Hp) (x1 : Int32) (x2 : Int32) (x3 : Int32) (x4 : Int32), k10 h x1 x2 x3 x4 = some (hz, rz) → Fw h hz) (hJ : B_X10_versionMany_68 N k10 t0 h x1 x3 x4 y0 y1 = some (hz, rz)) : Fw h hz := by
  unfold B_X10_versionMany_68 at hJ
  exact wb_X10_versionMany_70 N k10 t0 _ _ _ _ _ m10 hJ
theorem wb_X10_versionMany_63 (N : Nat) (k10 : Hp → Int32 → Int32 → Int32 → Int32 → Option (Hp × Int32)) (t0 : Nat) (h : Hp) (x1 : Int32) (x3 : Int32) (x4 : Int32) (y0 : Int32) (m10 : ∀ (h : Hp) (x1 : Int32) (x2 : Int32) (x3 : Int32) (x4 : Int32), k10 h x1 x2 x3 x4 = some (hz, rz) → Fw h hz) (hJ : B_X10_versionMany_63 N k10 t0 h x1 x3 x4 y0 = some (hz, rz)) : Fw h hz := by
  unfold B_X10_versionMany_63 at hJ
  exact wb_X10_versionMany_68 N k10 t0 _ _ _ _ _ _ m10 hJ
theorem wb_X10_versionMany_51 (N : Nat) (k10 : Hp → Int32 → Int32 → Int32 → Int32 → Option (Hp × Int32)) (t0 : Nat) (h : Hp) (x1 : Int32) (x2 : Int32) (x3 : Int32) (x4 : Int32) (y0 : Int32) (m10 : ∀ (h : Hp) (x1 : Int32) (x2 : Int32) (x3 : Int32) (x4 : Int32), k10 h x1 x2 x3 x4 = some (hz, rz) → Fw h hz) (hJ : B_X10_versionMany_51 N k10 t0 h x1 x2 x3 x4 y0 = some (hz, rz)) : Fw h hz := by
  unfold B_X10_versionMany_51 at hJ
  by_cases c1 : x1 = 0
  · have hJ := it_pos c1 hJ
    exact wb_X10_versionMany_63 N k10 t0 _ _ _ _ _ m10 hJ
  · have hJ := it_neg c1 hJ
    by_cases c2 : y0 = 0
    · have hJ := it_pos c2 hJ
      exact wb_X10_versionMany_68 N k10 t0 _ _ _ _ _ _ m10 hJ
    · have hJ := it_neg c2 hJ
      exact wb_X10_versionMany_63 N k10 t0 _ _ _ _ _ m10 hJ
theorem wb_X10_versionMany_41 (N : Nat) (k10 : Hp → Int32 → Int32 → Int32 → Int32 → Option (Hp × Int32)) (t0 : Nat) (h : Hp) (x1 : Int32) (x2 : Int32) (x3 : Int32) (x4 : Int32) (y0 : Int32) (m10 : ∀ (h : Hp) (x1 : Int32) (x2 : Int32) (x3 : Int32) (x4 : Int32), k10 h x1 x2 x3 x4 = some (hz, rz) → Fw h hz) (hJ : B_X10_versionMany_41 N k10 t0 h x1 x2 x3 x4 y0 = some (hz, rz)) : Fw h hz := by
  unfold B_X10_versionMany_41 at hJ
  by_cases c3 : y0 = x4
  · have hJ := it_pos c3 hJ
    exact wb_X10_versionMany_51 N k10 t0 _ _ _ _ _ _ m10 hJ
  · have hJ := it_neg c3 hJ
    exact wb_X10_versionMany_51 N k10 t0 _ _ _ _ _ _ m10 hJ
theorem wb_X10_versionMany_26 (N : Nat) (k10 : Hp → Int32 → Int32 → Int32 → Int32 → Option (Hp × Int32)) (t0 : Nat) (h : Hp) (x1 : Int32) (x2 : Int32) (x3 : Int32) (x4 : Int32) (y0 : Int32) (m10 : ∀ (h : Hp) (x1 : Int32) (x2 : Int32) (x3 : Int32) (x4 : Int32), k10 h x1 x2 x3 x4 = some (hz, rz) → Fw h hz) (hJ : B_X10_versionMany_26 N k10 t0 h x1 x2 x3 x4 y0 = some (hz, rz)) : Fw h hz := by
  unfold B_X10_versionMany_26 at hJ
  by_cases c4 : y0 = 0
  · have hJ := it_pos c4 hJ
    exact wb_X10_versionMany_70 N k10 t0 _ _ _ _ _ m10 hJ
  · have hJ := it_neg c4 hJ
    obtain ⟨a5, ea5, -, hJ⟩ := dr_some hJ
    obtain ⟨-, hJ⟩ := ck_some hJ
    obtain ⟨⟨h7, r8⟩, e9, hJ⟩ := ob_some hJ
    exact (wo_X10_versionOf N t0 h (h.bi a5 x4.toNatClampNeg) (0 : Int32) e9).tr (wb_X10_versionMany_41 N k10 t0 _ _ _ _ _ _ m10 hJ)
theorem wb_X10_versionMany_10 (N : Nat) (k10 : Hp → Int32 → Int32 → Int32 → Int32 → Option (Hp × Int32)) (t0 : Nat) (h : Hp) (x1 : Int32) (x2 : Int32) (x3 : Int32) (x4 : Int32) (m10 : ∀ (h : Hp) (x1 : Int32) (x2 : Int32) (x3 : Int32) (x4 : Int32), k10 h x1 x2 x3 x4 = some (hz, rz) → Fw h hz) (hJ : B_X10_versionMany_10 N k10 t0 h x1 x2 x3 x4 = some (hz, rz)) : Fw h hz := by
  unfold B_X10_versionMany_10 at hJ
  by_cases c11 : (h.gi 1328 t0) ≤ x4
  · have hJ := it_pos c11 hJ
    obtain ⟨rfl, -⟩ := rs2 hJ
    exact (Fw.rf h)
  · have hJ := it_neg c11 hJ
    obtain ⟨⟨h12, r13⟩, e14, hJ⟩ := ob_some hJ
    exact (wo_X10_isKeptVersion N t0 h x4 x3 e14).tr (wb_X10_versionMany_26 N k10 t0 _ _ _ _ _ _ m10 hJ)
theorem wl_X10_versionMany_10 (N : Nat) (t0 : Nat) : ∀ (n : Nat) (h : Hp) (x1 : Int32) (x2 : Int32) (x3 : Int32) (x4 : Int32), L_X10_versionMany_10 N t0 n h x1 x2 x3 x4 = some (hz, rz) → Fw h hz := by
  intro n
  induction n with
  | zero => intro h x1 x2 x3 x4 hJ; cases hJ
  | succ n ih => intro h x1 x2 x3 x4 hJ; exact wb_X10_versionMany_10 N (L_X10_versionMany_10 N t0 n) t0 h x1 x2 x3 x4 ih hJ
theorem wb_X10_versionMany_6 (N : Nat) (t0 : Nat) (h : Hp) (x1 : Int32) (x2 : Int32) (y0 : Int32) (hJ : B_X10_versionMany_6 N t0 h x1 x2 y0 = some (hz, rz)) : Fw h hz := by
  unfold B_X10_versionMany_6 at hJ
  exact wl_X10_versionMany_10 N t0 N _ _ _ _ _ hJ
theorem wb_X10_versionMany_0 (N : Nat) (t0 : Nat) (h : Hp) (x1 : Int32) (hJ : B_X10_versionMany_0 N t0 h x1 = some (hz, rz)) : Fw h hz := by
  unfold B_X10_versionMany_0 at hJ
  obtain ⟨⟨h16, r17⟩, e18, hJ⟩ := ob_some hJ
  exact (wo_X10_horizon N t0 h e18).tr (wb_X10_versionMany_6 N t0 _ _ _ _ hJ)
theorem wo_X10_versionMany (N : Nat) (t0 : Nat) (h : Hp) (x1 : Int32) (hJ : J_X10_versionMany N t0 h x1 = some (hz, rz)) : Fw h hz := wb_X10_versionMany_0 N t0 h x1 hJ
end V_X10_versionMany
section V_X10_count
variable {hz : Hp} {rz : Int32}
theorem wb_X10_count_107 (N : Nat) (t0 : Nat) (h : Hp) (y0 : Int32) (hJ : B_X10_count_107 N t0 h y0 = some (hz, rz)) : Fw h hz := by
  unfold B_X10_count_107 at hJ
  obtain ⟨rfl, -⟩ := rs2 hJ
  exact (Fw.rf h)
theorem wb_X10_count_102 (N : Nat) (t0 : Nat) (h : Hp) (y0 : Int32) (hJ : B_X10_count_102 N t0 h y0 = some (hz, rz)) : Fw h hz := by
  unfold B_X10_count_102 at hJ
  obtain ⟨rfl, -⟩ := rs2 hJ
  exact (Fw.rf h)
theorem wb_X10_count_96 (N : Nat) (t0 : Nat) (h : Hp) (y0 : Int32) (hJ : B_X10_count_96 N t0 h y0 = some (hz, rz)) : Fw h hz := by
  unfold B_X10_count_96 at hJ
  obtain ⟨rfl, -⟩ := rs2 hJ
  exact (Fw.rf h)
theorem wb_X10_count_90 (N : Nat) (t0 : Nat) (h : Hp) (y0 : Int32) (hJ : B_X10_count_90 N t0 h y0 = some (hz, rz)) : Fw h hz := by
  unfold B_X10_count_90 at hJ
  obtain ⟨rfl, -⟩ := rs2 hJ
  exact (Fw.rf h)
theorem wb_X10_count_84 (N : Nat) (t0 : Nat) (h : Hp) (y0 : Int32) (hJ : B_X10_count_84 N t0 h y0 = some (hz, rz)) : Fw h hz := by
  unfold B_X10_count_84 at hJ
  obtain ⟨rfl, -⟩ := rs2 hJ
  exact (Fw.rf h)
theorem wb_X10_count_78 (N : Nat) (t0 : Nat) (h : Hp) (y0 : Int32) (hJ : B_X10_count_78 N t0 h y0 = some (hz, rz)) : Fw h hz := by
  unfold B_X10_count_78 at hJ
  obtain ⟨rfl, -⟩ := rs2 hJ
  exact (Fw.rf h)
theorem wb_X10_count_73 (N : Nat) (t0 : Nat) (h : Hp) (x1 : Int32) (hJ : B_X10_count_73 N t0 h x1 = some (hz, rz)) : Fw h hz := by
  unfold B_X10_count_73 at hJ
  obtain ⟨⟨h1, r2⟩, e3, hJ⟩ := ob_some hJ
  exact (wo_X10_manyThat N t0 h x1 e3).tr (wb_X10_count_78 N t0 _ _ hJ)
theorem wb_X10_count_0 (N : Nat) (t0 : Nat) (h : Hp) (x1 : Int32) (hJ : B_X10_count_0 N t0 h x1 = some (hz, rz)) : Fw h hz := by
  unfold B_X10_count_0 at hJ
  by_cases c5 : x1 = (0 : Int32)
  · have hJ := it_pos c5 hJ
    obtain ⟨rfl, -⟩ := rs2 hJ
    exact (Fw.rf h)
  · have hJ := it_neg c5 hJ
    by_cases c6 : x1 = (1 : Int32)
    · have hJ := it_pos c6 hJ
      exact (Fw.tr (show Fw h (h.sgi 1300 t0 (0 : Int32)) from (Fw.rf h)) (wb_X10_count_73 N t0 _ _ hJ))
    · have hJ := it_neg c6 hJ
      by_cases c7 : x1 = (2 : Int32)
      · have hJ := it_pos c7 hJ
        exact (Fw.tr (show Fw h (h.sgi 1300 t0 (0 : Int32)) from (Fw.rf h)) (wb_X10_count_73 N t0 _ _ hJ))
      · have hJ := it_neg c7 hJ
        by_cases c8 : x1 = (3 : Int32)
        · have hJ := it_pos c8 hJ
          exact (Fw.tr (show Fw h (h.sgi 1300 t0 (0 : Int32)) from (Fw.rf h)) (wb_X10_count_73 N t0 _ _ hJ))
        · have hJ := it_neg c8 hJ
          by_cases c9 : x1 = (4 : Int32)
          · have hJ := it_pos c9 hJ
            exact (Fw.tr (show Fw h (h.sgi 1300 t0 (0 : Int32)) from (Fw.rf h)) (wb_X10_count_73 N t0 _ _ hJ))
          · have hJ := it_neg c9 hJ
            by_cases c10 : x1 = (5 : Int32)
            · have hJ := it_pos c10 hJ
              exact (Fw.tr (show Fw h (h.sgi 1300 t0 (0 : Int32)) from (Fw.rf h)) (wb_X10_count_73 N t0 _ _ hJ))
            · have hJ := it_neg c10 hJ
              by_cases c11 : x1 = (6 : Int32)
              · have hJ := it_pos c11 hJ
                obtain ⟨⟨h12, r13⟩, e14, hJ⟩ := ob_some hJ
                exact (Fw.tr (show Fw h (h.sgi 1300 t0 (0 : Int32)) from (Fw.rf h)) ((wo_X10_keptMany N t0 (h.sgi 1300 t0 (0 : Int32)) (0 : Int32) e14).tr (wb_X10_count_84 N t0 _ _ hJ)))
              · have hJ := it_neg c11 hJ
                by_cases c16 : x1 = (7 : Int32)
                · have hJ := it_pos c16 hJ
                  obtain ⟨⟨h17, r18⟩, e19, hJ⟩ := ob_some hJ
                  exact (Fw.tr (show Fw h (h.sgi 1300 t0 (0 : Int32)) from (Fw.rf h)) ((wo_X10_keptMany N t0 (h.sgi 1300 t0 (0 : Int32)) (1 : Int32) e19).tr (wb_X10_count_90 N t0 _ _ hJ)))
                · have hJ := it_neg c16 hJ
                  by_cases c21 : x1 = (8 : Int32)
                  · have hJ := it_pos c21 hJ
                    obtain ⟨⟨h22, r23⟩, e24, hJ⟩ := ob_some hJ
                    exact (Fw.tr (show Fw h (h.sgi 1300 t0 (0 : Int32)) from (Fw.rf h)) ((wo_X10_versionMany N t0 (h.sgi 1300 t0 (0 : Int32)) (0 : Int32) e24).tr (wb_X10_count_96 N t0 _ _ hJ)))
                  · have hJ := it_neg c21 hJ
                    by_cases c26 : x1 = (9 : Int32)
                    · have hJ := it_pos c26 hJ
                      obtain ⟨⟨h27, r28⟩, e29, hJ⟩ := ob_some hJ
                      exact (Fw.tr (show Fw h (h.sgi 1300 t0 (0 : Int32)) from (Fw.rf h)) ((wo_X10_versionMany N t0 (h.sgi 1300 t0 (0 : Int32)) (1 : Int32) e29).tr (wb_X10_count_102 N t0 _ _ hJ)))
                    · have hJ := it_neg c26 hJ
                      by_cases c31 : x1 = (10 : Int32)
                      · have hJ := it_pos c31 hJ
                        obtain ⟨⟨h32, r33⟩, e34, hJ⟩ := ob_some hJ
                        exact (Fw.tr (show Fw h (h.sgi 1300 t0 (0 : Int32)) from (Fw.rf h)) ((wo_X10_horizon N t0 (h.sgi 1300 t0 (0 : Int32)) e34).tr (wb_X10_count_107 N t0 _ _ hJ)))
                      · have hJ := it_neg c31 hJ
                        by_cases c36 : x1 = (11 : Int32)
                        · have hJ := it_pos c36 hJ
                          obtain ⟨rfl, -⟩ := rs2 hJ
                          exact (Fw.rf h)
                        · have hJ := it_neg c36 hJ
                          obtain ⟨rfl, -⟩ := rs2 hJ
                          exact (Fw.rf h)
theorem wo_X10_count (N : Nat) (t0 : Nat) (h : Hp) (x1 : Int32) (hJ : J_X10_count N t0 h x1 = some (hz, rz)) : Fw h hz := wb_X10_count_0 N t0 h x1 hJ
end V_X10_count
section V_X10_keyAt
variable {hz : Hp} {rz : Int32}
theorem wb_X10_keyAt_2 (N : Nat) (k2 : Hp → Int32 → Int32 → Option (Hp × Int32)) (t0 : Nat) (h : Hp) (x1 : Int32) (x2 : Int32) (m2 : ∀ (h : Hp) (x1 : Int32) (x2 : Int32), k2 h x1 x2 = some (hz, rz) → Fw h hz) (hJ : B_X10_keyAt_2 N k2 t0 h x1 x2 = some (hz, rz)) : Fw h hz := by
  unfold B_X10_keyAt_2 at hJ
  by_cases c1 : (h.gi 1353 t0) ≤ x2
  · have hJ := it_pos c1 hJ
    obtain ⟨rfl, -⟩ := rs2 hJ
    exact (Fw.rf h)
  · have hJ := it_neg c1 hJ
    obtain ⟨a2, ea2, -, hJ⟩ := dr_some hJ
    obtain ⟨-, hJ⟩ := ck_some hJ
    by_cases c4 : (h.bi a2 x2.toNatClampNeg) = x1
    · have hJ := it_pos c4 hJ
      obtain ⟨rfl, -⟩ := rs2 hJ
      exact (Fw.rf h)
    · have hJ := it_neg c4 hJ
      exact m2 _ _ _ hJ
theorem wl_X10_keyAt_2 (N : Nat) (t0 : Nat) : ∀ (n : Nat) (h : Hp) (x1 : Int32) (x2 : Int32), L_X10_keyAt_2 N t0 n h x1 x2 = some (hz, rz) → Fw h hz := by
  intro n
  induction n with
  | zero => intro h x1 x2 hJ; cases hJ
  | succ n ih => intro h x1 x2 hJ; exact wb_X10_keyAt_2 N (L_X10_keyAt_2 N t0 n) t0 h x1 x2 ih hJ
theorem wb_X10_keyAt_0 (N : Nat) (t0 : Nat) (h : Hp) (x1 : Int32) (hJ : B_X10_keyAt_0 N t0 h x1 = some (hz, rz)) : Fw h hz := by
  unfold B_X10_keyAt_0 at hJ
  exact wl_X10_keyAt_2 N t0 N _ _ _ hJ
theorem wo_X10_keyAt (N : Nat) (t0 : Nat) (h : Hp) (x1 : Int32) (hJ : J_X10_keyAt N t0 h x1 = some (hz, rz)) : Fw h hz := wb_X10_keyAt_0 N t0 h x1 hJ
end V_X10_keyAt
section V_X10_hasNow
variable {hz : Hp} {rz : Int32}
theorem wb_X10_hasNow_64 (N : Nat) (t0 : Nat) (h : Hp) (hJ : B_X10_hasNow_64 N t0 h = some (hz, rz)) : Fw h hz := by
  unfold B_X10_hasNow_64 at hJ
  obtain ⟨rfl, -⟩ := rs2 hJ
  exact (Fw.rf h)
theorem wb_X10_hasNow_49 (N : Nat) (t0 : Nat) (h : Hp) (y0 : Int32) (hJ : B_X10_hasNow_49 N t0 h y0 = some (hz, rz)) : Fw h hz := by
  unfold B_X10_hasNow_49 at hJ
  by_cases c1 : y0 = (-1 : Int32)
  · have hJ := it_pos c1 hJ
    exact wb_X10_hasNow_64 N t0 _ hJ
  · have hJ := it_neg c1 hJ
    obtain ⟨a2, ea2, -, hJ⟩ := dr_some hJ
    obtain ⟨-, hJ⟩ := ck_some hJ
    by_cases c4 : (h.bi a2 y0.toNatClampNeg) = 0
    · have hJ := it_pos c4 hJ
      exact wb_X10_hasNow_64 N t0 _ hJ
    · have hJ := it_neg c4 hJ
      obtain ⟨a5, ea5, -, hJ⟩ := dr_some hJ
      obtain ⟨-, hJ⟩ := ck_some hJ
      obtain ⟨rfl, -⟩ := rs2 hJ
      exact (Fw.rf h)
theorem wb_X10_hasNow_7 (N : Nat) (k7 : Hp → Int32 → Int32 → Option (Hp × Int32)) (t0 : Nat) (h : Hp) (x1 : Int32) (x2 : Int32) (m7 : ∀ (h : Hp) (x1 : Int32) (x2 : Int32), k7 h x1 x2 = some (hz, rz) → Fw h hz) (hJ : B_X10_hasNow_7 N k7 t0 h x1 x2 = some (hz, rz)) : Fw h hz := by
  unfold B_X10_hasNow_7 at hJ
  by_cases c7 : x2 < 0
  · have hJ := it_pos c7 hJ
    obtain ⟨⟨h8, r9⟩, e10, hJ⟩ := ob_some hJ
    exact (wo_X10_keyAt N t0 h x1 e10).tr (wb_X10_hasNow_49 N t0 _ _ hJ)
  · have hJ := it_neg c7 hJ
    obtain ⟨a12, ea12, -, hJ⟩ := dr_some hJ
    obtain ⟨-, hJ⟩ := ck_some hJ
    by_cases c14 : (h.bi a12 x2.toNatClampNeg) = x1
    · have hJ := it_pos c14 hJ
      obtain ⟨a15, ea15, -, hJ⟩ := dr_some hJ
      obtain ⟨-, hJ⟩ := ck_some hJ
      obtain ⟨a17, ea17, -, hJ⟩ := dr_some hJ
      obtain ⟨-, hJ⟩ := ck_some hJ
      obtain ⟨-, hJ⟩ := ck_some hJ
      obtain ⟨rfl, -⟩ := rs2 hJ
      exact (Fw.rf h)
    · have hJ := it_neg c14 hJ
      exact m7 _ _ _ hJ
theorem wl_X10_hasNow_7 (N : Nat) (t0 : Nat) : ∀ (n : Nat) (h : Hp) (x1 : Int32) (x2 : Int32), L_X10_hasNow_7 N t0 n h x1 x2 = some (hz, rz) → Fw h hz := by
  intro n
  induction n with
  | zero => intro h x1 x2 hJ; cases hJ
  | succ n ih => intro h x1 x2 hJ; exact wb_X10_hasNow_7 N (L_X10_hasNow_7 N t0 n) t0 h x1 x2 ih hJ
theorem wb_X10_hasNow_0 (N : Nat) (t0 : Nat) (h : Hp) (x1 : Int32) (hJ : B_X10_hasNow_0 N t0 h x1 = some (hz, rz)) : Fw h hz := by
  unfold B_X10_hasNow_0 at hJ
  exact wl_X10_hasNow_7 N t0 N _ _ _ hJ
theorem wo_X10_hasNow (N : Nat) (t0 : Nat) (h : Hp) (x1 : Int32) (hJ : J_X10_hasNow N t0 h x1 = some (hz, rz)) : Fw h hz := wb_X10_hasNow_0 N t0 h x1 hJ
end V_X10_hasNow
section V_X10_isNearAgain
variable {hz : Hp} {rz : Int32}
theorem wb_X10_isNearAgain_92 (N : Nat) (k5 : Hp → Int32 → Int32 → Int32 → Int32 → Option (Hp × Int32)) (t0 : Nat) (h : Hp) (x1 : Int32) (x2 : Int32) (x3 : Int32) (x4 : Int32) (m5 : ∀ (h : Hp) (x1 : Int32) (x2 : Int32) (x3 : Int32) (x4 : Int32), k5 h x1 x2 x3 x4 = some (hz, rz) → Fw h hz) (hJ : B_X10_isNearAgain_92 N k5 t0 h x1 x2 x3 x4 = some (hz, rz)) : Fw h hz := by
  unfold B_X10_isNearAgain_92 at hJ
  exact m5 _ _ _ _ _ hJ
theorem wb_X10_isNearAgain_86 (N : Nat) (k5 : Hp → Int32 → Int32 → Int32 → Int32 → Option (Hp × Int32)) (t0 : Nat) (h : Hp) (x1 : Int32) (x2 : Int32) (x3 : Int32) (x4 : Int32) (y0 : Int32) (m5 : ∀ (h : Hp) (x1 : Int32) (x2 : Int32) (x3 : Int32) (x4 : Int32), k5 h x1 x2 x3 x4 = some (hz, rz) → Fw h hz) (hJ : B_X10_isNearAgain_86 N k5 t0 h x1 x2 x3 x4 y0 = some (hz, rz)) : Fw h hz := by
  unfold B_X10_isNearAgain_86 at hJ
  by_cases c1 : y0 = 0
  · have hJ := it_pos c1 hJ
    exact wb_X10_isNearAgain_92 N k5 t0 _ _ _ _ _ m5 hJ
  · have hJ := it_neg c1 hJ
    exact wb_X10_isNearAgain_92 N k5 t0 _ _ _ _ _ m5 hJ
theorem wb_X10_isNearAgain_68 (N : Nat) (k5 : Hp → Int32 → Int32 → Int32 → Int32 → Option (Hp × Int32)) (t0 : Nat) (h : Hp) (x1 : Int32) (x2 : Int32) (x3 : Int32) (x4 : Int32) (y0 : Int32) (m5 : ∀ (h : Hp) (x1 : Int32) (x2 : Int32) (x3 : Int32) (x4 : Int32), k5 h x1 x2 x3 x4 = some (hz, rz) → Fw h hz) (hJ : B_X10_isNearAgain_68 N k5 t0 h x1 x2 x3 x4 y0 = some (hz, rz)) : Fw h hz := by
  unfold B_X10_isNearAgain_68 at hJ
  by_cases c2 : y0 = 0
  · have hJ := it_pos c2 hJ
    exact wb_X10_isNearAgain_92 N k5 t0 _ _ _ _ _ m5 hJ
  · have hJ := it_neg c2 hJ
    obtain ⟨a3, ea3, -, hJ⟩ := dr_some hJ
    obtain ⟨-, hJ⟩ := ck_some hJ
    obtain ⟨⟨h5, r6⟩, e7, hJ⟩ := ob_some hJ
    exact (wo_X10_hasNow N t0 h (h.bi a3 x4.toNatClampNeg) e7).tr (wb_X10_isNearAgain_86 N k5 t0 _ _ _ _ _ _ m5 hJ)
theorem wb_X10_isNearAgain_43 (N : Nat) (k5 : Hp → Int32 → Int32 → Int32 → Int32 → Option (Hp × Int32)) (t0 : Nat) (h : Hp) (x1 : Int32) (x2 : Int32) (x3 : Int32) (x4 : Int32) (m5 : ∀ (h : Hp) (x1 : Int32) (x2 : Int32) (x3 : Int32) (x4 : Int32), k5 h x1 x2 x3 x4 = some (hz, rz) → Fw h hz) (hJ : B_X10_isNearAgain_43 N k5 t0 h x1 x2 x3 x4 = some (hz, rz)) : Fw h hz := by
  unfold B_X10_isNearAgain_43 at hJ
  exact wb_X10_isNearAgain_68 N k5 t0 _ _ _ _ _ _ m5 hJ
theorem wb_X10_isNearAgain_131 (N : Nat) (t0 : Nat) (h : Hp) (y0 : Int32) (hJ : B_X10_isNearAgain_131 N t0 h y0 = some (hz, rz)) : Fw h hz := by
  unfold B_X10_isNearAgain_131 at hJ
  obtain ⟨-, hJ⟩ := ck_some hJ
  obtain ⟨rfl, -⟩ := rs2 hJ
  exact (Fw.rf h)
theorem wb_X10_isNearAgain_130 (N : Nat) (t0 : Nat) (h : Hp) (hJ : B_X10_isNearAgain_130 N t0 h = some (hz, rz)) : Fw h hz := by
  unfold B_X10_isNearAgain_130 at hJ
  exact wb_X10_isNearAgain_131 N t0 _ _ hJ
theorem wb_X10_isNearAgain_112 (N : Nat) (t0 : Nat) (h : Hp) (x1 : Int32) (x3 : Int32) (hJ : B_X10_isNearAgain_112 N t0 h x1 x3 = some (hz, rz)) : Fw h hz := by
  unfold B_X10_isNearAgain_112 at hJ
  by_cases c10 : x3 = (-1 : Int32)
  · have hJ := it_pos c10 hJ
    obtain ⟨a11, ea11, -, hJ⟩ := dr_some hJ
    obtain ⟨-, hJ⟩ := ck_some hJ
    by_cases c13 : (h.bi a11 x1.toNatClampNeg) = 0
    · have hJ := it_pos c13 hJ
      exact wb_X10_isNearAgain_131 N t0 _ _ hJ
    · have hJ := it_neg c13 hJ
      exact wb_X10_isNearAgain_130 N t0 _ hJ
  · have hJ := it_neg c10 hJ
    exact wb_X10_isNearAgain_130 N t0 _ hJ
theorem wb_X10_isNearAgain_179 (N : Nat) (t0 : Nat) (h : Hp) (y0 : Int32) (hJ : B_X10_isNearAgain_179 N t0 h y0 = some (hz, rz)) : Fw h hz := by
  unfold B_X10_isNearAgain_179 at hJ
  obtain ⟨-, hJ⟩ := ck_some hJ
  obtain ⟨rfl, -⟩ := rs2 hJ
  exact (Fw.rf h)
theorem wb_X10_isNearAgain_178 (N : Nat) (t0 : Nat) (h : Hp) (hJ : B_X10_isNearAgain_178 N t0 h = some (hz, rz)) : Fw h hz := by
  unfold B_X10_isNearAgain_178 at hJ
  exact wb_X10_isNearAgain_179 N t0 _ _ hJ
theorem wb_X10_isNearAgain_142 (N : Nat) (t0 : Nat) (h : Hp) (x1 : Int32) (x3 : Int32) (y0 : Int32) (hJ : B_X10_isNearAgain_142 N t0 h x1 x3 y0 = some (hz, rz)) : Fw h hz := by
  unfold B_X10_isNearAgain_142 at hJ
  by_cases c15 : y0 = 0
  · have hJ := it_pos c15 hJ
    exact wb_X10_isNearAgain_178 N t0 _ hJ
  · have hJ := it_neg c15 hJ
    obtain ⟨a16, ea16, -, hJ⟩ := dr_some hJ
    obtain ⟨-, hJ⟩ := ck_some hJ
    obtain ⟨a18, ea18, -, hJ⟩ := dr_some hJ
    obtain ⟨-, hJ⟩ := ck_some hJ
    by_cases c20 : (h.bi a16 x3.toNatClampNeg) = (h.bi a18 x1.toNatClampNeg)
    · have hJ := it_pos c20 hJ
      obtain ⟨a21, ea21, -, hJ⟩ := dr_some hJ
      obtain ⟨-, hJ⟩ := ck_some hJ
      by_cases c23 : (lg_cmp (h.gl 1351 t0) (h.bw a21 x1.toNatClampNeg)) = 0
      · have hJ := it_pos c23 hJ
        exact wb_X10_isNearAgain_179 N t0 _ _ hJ
      · have hJ := it_neg c23 hJ
        exact wb_X10_isNearAgain_178 N t0 _ hJ
    · have hJ := it_neg c20 hJ
      exact wb_X10_isNearAgain_178 N t0 _ hJ
theorem wb_X10_isNearAgain_5 (N : Nat) (k5 : Hp → Int32 → Int32 → Int32 → Int32 → Option (Hp × Int32)) (t0 : Nat) (h : Hp) (x1 : Int32) (x2 : Int32) (x3 : Int32) (x4 : Int32) (m5 : ∀ (h : Hp) (x1 : Int32) (x2 : Int32) (x3 : Int32) (x4 : Int32), k5 h x1 x2 x3 x4 = some (hz, rz) → Fw h hz) (hJ : B_X10_isNearAgain_5 N k5 t0 h x1 x2 x3 x4 = some (hz, rz)) : Fw h hz := by
  unfold B_X10_isNearAgain_5 at hJ
  by_cases c24 : (h.gi 1353 t0) ≤ x4
  · have hJ := it_pos c24 hJ
    by_cases c25 : x3 = (-1 : Int32)
    · have hJ := it_pos c25 hJ
      exact wb_X10_isNearAgain_112 N t0 _ _ _ hJ
    · have hJ := it_neg c25 hJ
      obtain ⟨a26, ea26, -, hJ⟩ := dr_some hJ
      obtain ⟨-, hJ⟩ := ck_some hJ
      by_cases c28 : (h.bi a26 x1.toNatClampNeg) = 0
      · have hJ := it_pos c28 hJ
        exact wb_X10_isNearAgain_112 N t0 _ _ _ hJ
      · have hJ := it_neg c28 hJ
        obtain ⟨a29, ea29, -, hJ⟩ := dr_some hJ
        obtain ⟨-, hJ⟩ := ck_some hJ
        obtain ⟨⟨h31, r32⟩, e33, hJ⟩ := ob_some hJ
        exact (wo_X10_hasNow N t0 h (h.bi a29 x3.toNatClampNeg) e33).tr (wb_X10_isNearAgain_142 N t0 _ _ _ _ hJ)
  · have hJ := it_neg c24 hJ
    by_cases c35 : x2 = 0
    · have hJ := it_pos c35 hJ
      obtain ⟨a36, ea36, -, hJ⟩ := dr_some hJ
      obtain ⟨-, hJ⟩ := ck_some hJ
      obtain ⟨a38, ea38, -, hJ⟩ := dr_some hJ
      obtain ⟨-, hJ⟩ := ck_some hJ
      by_cases c40 : (h.bi a38 x1.toNatClampNeg) < (h.bi a36 x4.toNatClampNeg)
      · have hJ := it_pos c40 hJ
        exact wb_X10_isNearAgain_68 N k5 t0 _ _ _ _ _ _ m5 hJ
      · have hJ := it_neg c40 hJ
        exact wb_X10_isNearAgain_68 N k5 t0 _ _ _ _ _ _ m5 hJ
    · have hJ := it_neg c35 hJ
      obtain ⟨a41, ea41, -, hJ⟩ := dr_some hJ
      obtain ⟨-, hJ⟩ := ck_some hJ
      obtain ⟨a43, ea43, -, hJ⟩ := dr_some hJ
      obtain ⟨-, hJ⟩ := ck_some hJ
      by_cases c45 : (h.bi a41 x4.toNatClampNeg) < (h.bi a43 x1.toNatClampNeg)
      · have hJ := it_pos c45 hJ
        exact wb_X10_isNearAgain_43 N k5 t0 _ _ _ _ _ m5 hJ
      · have hJ := it_neg c45 hJ
        by_cases c46 : x3 = (-1 : Int32)
        · have hJ := it_pos c46 hJ
          exact wb_X10_isNearAgain_68 N k5 t0 _ _ _ _ _ _ m5 hJ
        · have hJ := it_neg c46 hJ
          exact wb_X10_isNearAgain_43 N k5 t0 _ _ _ _ _ m5 hJ
theorem wl_X10_isNearAgain_5 (N : Nat) (t0 : Nat) : ∀ (n : Nat) (h : Hp) (x1 : Int32) (x2 : Int32) (x3 : Int32) (x4 : Int32), L_X10_isNearAgain_5 N t0 n h x1 x2 x3 x4 = some (hz, rz) → Fw h hz := by
  intro n
  induction n with
  | zero => intro h x1 x2 x3 x4 hJ; cases hJ
  | succ n ih => intro h x1 x2 x3 x4 hJ; exact wb_X10_isNearAgain_5 N (L_X10_isNearAgain_5 N t0 n) t0 h x1 x2 x3 x4 ih hJ
theorem wb_X10_isNearAgain_0 (N : Nat) (t0 : Nat) (h : Hp) (x1 : Int32) (x2 : Int32) (hJ : B_X10_isNearAgain_0 N t0 h x1 x2 = some (hz, rz)) : Fw h hz := by
  unfold B_X10_isNearAgain_0 at hJ
  exact wl_X10_isNearAgain_5 N t0 N _ _ _ _ _ hJ
theorem wo_X10_isNearAgain (N : Nat) (t0 : Nat) (h : Hp) (x1 : Int32) (x2 : Int32) (hJ : J_X10_isNearAgain N t0 h x1 x2 = some (hz, rz)) : Fw h hz := wb_X10_isNearAgain_0 N t0 h x1 x2 hJ
end V_X10_isNearAgain
section V_X10_isScanAgain
variable {hz : Hp} {rz : Int32}
theorem wb_X10_isScanAgain_142 (N : Nat) (k7 : Hp → Int32 → Int32 → Int32 → Int32 → Option (Hp × Int32)) (t0 : Nat) (h : Hp) (x1 : Int32) (x2 : Int32) (x3 : Int32) (x4 : Int32) (m7 : ∀ (h : Hp) (x1 : Int32) (x2 : Int32) (x3 : Int32) (x4 : Int32), k7 h x1 x2 x3 x4 = some (hz, rz) → Fw h hz) (hJ : B_X10_isScanAgain_142 N k7 t0 h x1 x2 x3 x4 = some (hz, rz)) : Fw h hz := by
  unfold B_X10_isScanAgain_142 at hJ
  exact m7 _ _ _ _ _ hJ
theorem wb_X10_isScanAgain_138 (N : Nat) (k7 : Hp → Int32 → Int32 → Int32 → Int32 → Option (Hp × Int32)) (t0 : Nat) (h : Hp) (x1 : Int32) (x2 : Int32) (x4 : Int32) (y0 : Int32) (m7 : ∀ (h : Hp) (x1 : Int32) (x2 : Int32) (x3 : Int32) (x4 : Int32), k7 h x1 x2 x3 x4 = some (hz, rz) → Fw h hz) (hJ : B_X10_isScanAgain_138 N k7 t0 h x1 x2 x4 y0 = some (hz, rz)) : Fw h hz := by
  unfold B_X10_isScanAgain_138 at hJ
  exact wb_X10_isScanAgain_142 N k7 t0 _ _ _ _ _ m7 hJ
theorem wb_X10_isScanAgain_137 (N : Nat) (k7 : Hp → Int32 → Int32 → Int32 → Int32 → Option (Hp × Int32)) (t0 : Nat) (h : Hp) (x1 : Int32) (x2 : Int32) (x4 : Int32) (m7 : ∀ (h : Hp) (x1 : Int32) (x2 : Int32) (x3 : Int32) (x4 : Int32), k7 h x1 x2 x3 x4 = some (hz, rz) → Fw h hz) (hJ : B_X10_isScanAgain_137 N k7 t0 h x1 x2 x4 = some (hz, rz)) : Fw h hz := by
  unfold B_X10_isScanAgain_137 at hJ
  exact wb_X10_isScanAgain_138 N k7 t0 _ _ _ _ _ m7 hJ
theorem wb_X10_isScanAgain_69 (N : Nat) (k7 : Hp → Int32 → Int32 → Int32 → Int32 → Option (Hp × Int32)) (t0 : Nat) (h : Hp) (x1 : Int32) (x2 : Int32) (x3 : Int32) (x4 : Int32) (y0 : Int32) (m7 : ∀ (h : Hp) (x1 : Int32) (x2 : Int32) (x3 : Int32) (x4 : Int32), k7 h x1 x2 x3 x4 = some (hz, rz) → Fw h hz) (hJ : B_X10_isScanAgain_69 N k7 t0 h x1 x2 x3 x4 y0 = some (hz, rz)) : Fw h hz := by
  unfold B_X10_isScanAgain_69 at hJ
  by_cases c1 : y0 = 0
  · have hJ := it_pos c1 hJ
    exact wb_X10_isScanAgain_142 N k7 t0 _ _ _ _ _ m7 hJ
  · have hJ := it_neg c1 hJ
    by_cases c2 : x3 = 0
    · have hJ := it_pos c2 hJ
      exact wb_X10_isScanAgain_137 N k7 t0 _ _ _ _ m7 hJ
    · have hJ := it_neg c2 hJ
      obtain ⟨a3, ea3, -, hJ⟩ := dr_some hJ
      obtain ⟨-, hJ⟩ := ck_some hJ
      by_cases c5 : (h.bi a3 x1.toNatClampNeg) ≤ x2
      · have hJ := it_pos c5 hJ
        exact wb_X10_isScanAgain_137 N k7 t0 _ _ _ _ m7 hJ
      · have hJ := it_neg c5 hJ
        obtain ⟨a6, ea6, -, hJ⟩ := dr_some hJ
        obtain ⟨-, hJ⟩ := ck_some hJ
        obtain ⟨a8, ea8, -, hJ⟩ := dr_some hJ
        obtain ⟨-, hJ⟩ := ck_some hJ
        obtain ⟨a10, ea10, -, hJ⟩ := dr_some hJ
        obtain ⟨-, hJ⟩ := ck_some hJ
        by_cases c12 : (h.bi a8 ((h.bi a6 x1.toNatClampNeg) + x2).toNatClampNeg) = (h.bi a10 x4.toNatClampNeg)
        · have hJ := it_pos c12 hJ
          obtain ⟨a13, ea13, -, hJ⟩ := dr_some hJ
          obtain ⟨-, hJ⟩ := ck_some hJ
          obtain ⟨a15, ea15, -, hJ⟩ := dr_some hJ
          obtain ⟨-, hJ⟩ := ck_some hJ
          by_cases c17 : (lg_cmp (h.bw a15 ((h.bi a13 x1.toNatClampNeg) + x2).toNatClampNeg) (h.gl 1351 t0)) = 0
          · have hJ := it_pos c17 hJ
            exact wb_X10_isScanAgain_138 N k7 t0 _ _ _ _ _ m7 hJ
          · have hJ := it_neg c17 hJ
            exact wb_X10_isScanAgain_137 N k7 t0 _ _ _ _ m7 hJ
        · have hJ := it_neg c12 hJ
          exact wb_X10_isScanAgain_137 N k7 t0 _ _ _ _ m7 hJ
theorem wb_X10_isScanAgain_167 (N : Nat) (t0 : Nat) (h : Hp) (y0 : Int32) (hJ : B_X10_isScanAgain_167 N t0 h y0 = some (hz, rz)) : Fw h hz := by
  unfold B_X10_isScanAgain_167 at hJ
  obtain ⟨-, hJ⟩ := ck_some hJ
  obtain ⟨rfl, -⟩ := rs2 hJ
  exact (Fw.rf h)
theorem wb_X10_isScanAgain_166 (N : Nat) (t0 : Nat) (h : Hp) (hJ : B_X10_isScanAgain_166 N t0 h = some (hz, rz)) : Fw h hz := by
  unfold B_X10_isScanAgain_166 at hJ
  exact wb_X10_isScanAgain_167 N t0 _ _ hJ
theorem wb_X10_isScanAgain_148 (N : Nat) (t0 : Nat) (h : Hp) (x1 : Int32) (x2 : Int32) (x3 : Int32) (hJ : B_X10_isScanAgain_148 N t0 h x1 x2 x3 = some (hz, rz)) : Fw h hz := by
  unfold B_X10_isScanAgain_148 at hJ
  by_cases c19 : x3 = 0
  · have hJ := it_pos c19 hJ
    exact wb_X10_isScanAgain_166 N t0 _ hJ
  · have hJ := it_neg c19 hJ
    obtain ⟨a20, ea20, -, hJ⟩ := dr_some hJ
    obtain ⟨-, hJ⟩ := ck_some hJ
    by_cases c22 : x2 = (h.bi a20 x1.toNatClampNeg)
    · have hJ := it_pos c22 hJ
      exact wb_X10_isScanAgain_167 N t0 _ _ hJ
    · have hJ := it_neg c22 hJ
      exact wb_X10_isScanAgain_166 N t0 _ hJ
theorem wb_X10_isScanAgain_7 (N : Nat) (k7 : Hp → Int32 → Int32 → Int32 → Int32 → Option (Hp × Int32)) (t0 : Nat) (h : Hp) (x1 : Int32) (x2 : Int32) (x3 : Int32) (x4 : Int32) (m7 : ∀ (h : Hp) (x1 : Int32) (x2 : Int32) (x3 : Int32) (x4 : Int32), k7 h x1 x2 x3 x4 = some (hz, rz) → Fw h hz) (hJ : B_X10_isScanAgain_7 N k7 t0 h x1 x2 x3 x4 = some (hz, rz)) : Fw h hz := by
  unfold B_X10_isScanAgain_7 at hJ
  by_cases c23 : (h.gi 1353 t0) ≤ x4
  · have hJ := it_pos c23 hJ
    exact wb_X10_isScanAgain_148 N t0 _ _ _ _ hJ
  · have hJ := it_neg c23 hJ
    obtain ⟨a24, ea24, -, hJ⟩ := dr_some hJ
    obtain ⟨-, hJ⟩ := ck_some hJ
    by_cases c26 : (h.bi a24 x1.toNatClampNeg) ≤ x2
    · have hJ := it_pos c26 hJ
      exact wb_X10_isScanAgain_148 N t0 _ _ _ _ hJ
    · have hJ := it_neg c26 hJ
      obtain ⟨a27, ea27, -, hJ⟩ := dr_some hJ
      obtain ⟨-, hJ⟩ := ck_some hJ
      obtain ⟨a29, ea29, -, hJ⟩ := dr_some hJ
      obtain ⟨-, hJ⟩ := ck_some hJ
      by_cases c31 : (h.bi a27 x4.toNatClampNeg) < (h.bi a29 x1.toNatClampNeg)
      · have hJ := it_pos c31 hJ
        exact wb_X10_isScanAgain_142 N k7 t0 _ _ _ _ _ m7 hJ
      · have hJ := it_neg c31 hJ
        obtain ⟨a32, ea32, -, hJ⟩ := dr_some hJ
        obtain ⟨-, hJ⟩ := ck_some hJ
        obtain ⟨a34, ea34, -, hJ⟩ := dr_some hJ
        obtain ⟨-, hJ⟩ := ck_some hJ
        by_cases c36 : (h.bi a34 x1.toNatClampNeg) < (h.bi a32 x4.toNatClampNeg)
        · have hJ := it_pos c36 hJ
          exact wb_X10_isScanAgain_142 N k7 t0 _ _ _ _ _ m7 hJ
        · have hJ := it_neg c36 hJ
          obtain ⟨a37, ea37, -, hJ⟩ := dr_some hJ
          obtain ⟨-, hJ⟩ := ck_some hJ
          obtain ⟨⟨h39, r40⟩, e41, hJ⟩ := ob_some hJ
          exact (wo_X10_hasNow N t0 h (h.bi a37 x4.toNatClampNeg) e41).tr (wb_X10_isScanAgain_69 N k7 t0 _ _ _ _ _ _ m7 hJ)
theorem wl_X10_isScanAgain_7 (N : Nat) (t0 : Nat) : ∀ (n : Nat) (h : Hp) (x1 : Int32) (x2 : Int32) (x3 : Int32) (x4 : Int32), L_X10_isScanAgain_7 N t0 n h x1 x2 x3 x4 = some (hz, rz) → Fw h hz := by
  intro n
  induction n with
  | zero => intro h x1 x2 x3 x4 hJ; cases hJ
  | succ n ih => intro h x1 x2 x3 x4 hJ; exact wb_X10_isScanAgain_7 N (L_X10_isScanAgain_7 N t0 n) t0 h x1 x2 x3 x4 ih hJ
theorem wb_X10_isScanAgain_0 (N : Nat) (t0 : Nat) (h : Hp) (x1 : Int32) (hJ : B_X10_isScanAgain_0 N t0 h x1 = some (hz, rz)) : Fw h hz := by
  unfold B_X10_isScanAgain_0 at hJ
  exact wl_X10_isScanAgain_7 N t0 N _ _ _ _ _ hJ
theorem wo_X10_isScanAgain (N : Nat) (t0 : Nat) (h : Hp) (x1 : Int32) (hJ : J_X10_isScanAgain N t0 h x1 = some (hz, rz)) : Fw h hz := wb_X10_isScanAgain_0 N t0 h x1 hJ
end V_X10_isScanAgain
