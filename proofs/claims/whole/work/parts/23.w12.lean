section V_X9_keptVersions
variable {hz : Hp} {rz : Int32}
theorem wb_X9_keptVersions_46 (N : Nat) (k9 : Hp → Int32 → Int32 → Int32 → Option (Hp × Int32)) (t0 : Nat) (h : Hp) (x1 : Int32) (x3 : Int32) (y0 : Int32) (y1 : Int32) (m9 : ∀ (h : Hp) (x1 : Int32) (x2 : Int32) (x3 : Int32), k9 h x1 x2 x3 = some (hz, rz) → Fw h hz) (hJ : B_X9_keptVersions_46 N k9 t0 h x1 x3 y0 y1 = some (hz, rz)) : Fw h hz := by
  unfold B_X9_keptVersions_46 at hJ
  exact m9 _ _ _ _ hJ
theorem wb_X9_keptVersions_28 (N : Nat) (k9 : Hp → Int32 → Int32 → Int32 → Option (Hp × Int32)) (t0 : Nat) (h : Hp) (x1 : Int32) (x2 : Int32) (x3 : Int32) (y0 : Option Nat) (m9 : ∀ (h : Hp) (x1 : Int32) (x2 : Int32) (x3 : Int32), k9 h x1 x2 x3 = some (hz, rz) → Fw h hz) (hJ : B_X9_keptVersions_28 N k9 t0 h x1 x2 x3 y0 = some (hz, rz)) : Fw h hz := by
  unfold B_X9_keptVersions_28 at hJ
  cases ea1 : y0 with
  | none =>
    have hJ := nl_none ea1 hJ
    exact wb_X9_keptVersions_46 N k9 t0 _ _ _ _ _ m9 hJ
  | some a1 =>
    have hJ := nl_some ea1 hJ
    obtain ⟨-, hJ⟩ := ck_some hJ
    obtain ⟨⟨h3, r4⟩, e5, hJ⟩ := ob_some hJ
    exact (wo_X3_keptAbove N a1 h x1 e5).tr (wb_X9_keptVersions_46 N k9 t0 _ _ _ _ _ m9 hJ)
theorem wb_X9_keptVersions_17 (N : Nat) (k9 : Hp → Int32 → Int32 → Int32 → Option (Hp × Int32)) (t0 : Nat) (h : Hp) (x1 : Int32) (x2 : Int32) (x3 : Int32) (y0 : Int32) (y1 : Int32) (m9 : ∀ (h : Hp) (x1 : Int32) (x2 : Int32) (x3 : Int32), k9 h x1 x2 x3 = some (hz, rz) → Fw h hz) (hJ : B_X9_keptVersions_17 N k9 t0 h x1 x2 x3 y0 y1 = some (hz, rz)) : Fw h hz := by
  unfold B_X9_keptVersions_17 at hJ
  by_cases c7 : y1 ≤ y0
  · have hJ := it_pos c7 hJ
    obtain ⟨rfl, -⟩ := rs2 hJ
    exact (Fw.rf h)
  · have hJ := it_neg c7 hJ
    obtain ⟨a8, ea8, -, hJ⟩ := dr_some hJ
    obtain ⟨⟨h9, r10⟩, e11, hJ⟩ := ob_some hJ
    exact (wo_X5_chainAt N a8 h x3 e11).tr (wb_X9_keptVersions_28 N k9 t0 _ _ _ _ _ m9 hJ)
theorem wb_X9_keptVersions_9 (N : Nat) (k9 : Hp → Int32 → Int32 → Int32 → Option (Hp × Int32)) (t0 : Nat) (h : Hp) (x1 : Int32) (x2 : Int32) (x3 : Int32) (m9 : ∀ (h : Hp) (x1 : Int32) (x2 : Int32) (x3 : Int32), k9 h x1 x2 x3 = some (hz, rz) → Fw h hz) (hJ : B_X9_keptVersions_9 N k9 t0 h x1 x2 x3 = some (hz, rz)) : Fw h hz := by
  unfold B_X9_keptVersions_9 at hJ
  obtain ⟨a13, ea13, -, hJ⟩ := dr_some hJ
  obtain ⟨⟨h14, r15⟩, e16, hJ⟩ := ob_some hJ
  exact (wo_X5_size N a13 h e16).tr (wb_X9_keptVersions_17 N k9 t0 _ _ _ _ _ _ m9 hJ)
theorem wl_X9_keptVersions_9 (N : Nat) (t0 : Nat) : ∀ (n : Nat) (h : Hp) (x1 : Int32) (x2 : Int32) (x3 : Int32), L_X9_keptVersions_9 N t0 n h x1 x2 x3 = some (hz, rz) → Fw h hz := by
  intro n
  induction n with
  | zero => intro h x1 x2 x3 hJ; cases hJ
  | succ n ih => intro h x1 x2 x3 hJ; exact wb_X9_keptVersions_9 N (L_X9_keptVersions_9 N t0 n) t0 h x1 x2 x3 ih hJ
theorem wb_X9_keptVersions_4 (N : Nat) (t0 : Nat) (h : Hp) (y0 : Int32) (hJ : B_X9_keptVersions_4 N t0 h y0 = some (hz, rz)) : Fw h hz := by
  unfold B_X9_keptVersions_4 at hJ
  exact wl_X9_keptVersions_9 N t0 N _ _ _ _ hJ
theorem wb_X9_keptVersions_0 (N : Nat) (t0 : Nat) (h : Hp) (hJ : B_X9_keptVersions_0 N t0 h = some (hz, rz)) : Fw h hz := by
  unfold B_X9_keptVersions_0 at hJ
  obtain ⟨⟨h18, r19⟩, e20, hJ⟩ := ob_some hJ
  exact (wo_X9_horizon N t0 h e20).tr (wb_X9_keptVersions_4 N t0 _ _ hJ)
theorem wo_X9_keptVersions (N : Nat) (t0 : Nat) (h : Hp) (hJ : J_X9_keptVersions N t0 h = some (hz, rz)) : Fw h hz := wb_X9_keptVersions_0 N t0 h hJ
end V_X9_keptVersions
section V_X9_keysWithVersions
variable {hz : Hp} {rz : Int32}
theorem wb_X9_keysWithVersions_47 (N : Nat) (k9 : Hp → Int32 → Int32 → Int32 → Option (Hp × Int32)) (t0 : Nat) (h : Hp) (x1 : Int32) (x2 : Int32) (x3 : Int32) (m9 : ∀ (h : Hp) (x1 : Int32) (x2 : Int32) (x3 : Int32), k9 h x1 x2 x3 = some (hz, rz) → Fw h hz) (hJ : B_X9_keysWithVersions_47 N k9 t0 h x1 x2 x3 = some (hz, rz)) : Fw h hz := by
  unfold B_X9_keysWithVersions_47 at hJ
  exact m9 _ _ _ _ hJ
theorem wb_X9_keysWithVersions_41 (N : Nat) (k9 : Hp → Int32 → Int32 → Int32 → Option (Hp × Int32)) (t0 : Nat) (h : Hp) (x1 : Int32) (x2 : Int32) (x3 : Int32) (y0 : Int32) (m9 : ∀ (h : Hp) (x1 : Int32) (x2 : Int32) (x3 : Int32), k9 h x1 x2 x3 = some (hz, rz) → Fw h hz) (hJ : B_X9_keysWithVersions_41 N k9 t0 h x1 x2 x3 y0 = some (hz, rz)) : Fw h hz := by
  unfold B_X9_keysWithVersions_41 at hJ
  by_cases c1 : y0 ≤ 0
  · have hJ := it_pos c1 hJ
    exact wb_X9_keysWithVersions_47 N k9 t0 _ _ _ _ m9 hJ
  · have hJ := it_neg c1 hJ
    exact wb_X9_keysWithVersions_47 N k9 t0 _ _ _ _ m9 hJ
theorem wb_X9_keysWithVersions_28 (N : Nat) (k9 : Hp → Int32 → Int32 → Int32 → Option (Hp × Int32)) (t0 : Nat) (h : Hp) (x1 : Int32) (x2 : Int32) (x3 : Int32) (y0 : Option Nat) (m9 : ∀ (h : Hp) (x1 : Int32) (x2 : Int32) (x3 : Int32), k9 h x1 x2 x3 = some (hz, rz) → Fw h hz) (hJ : B_X9_keysWithVersions_28 N k9 t0 h x1 x2 x3 y0 = some (hz, rz)) : Fw h hz := by
  unfold B_X9_keysWithVersions_28 at hJ
  cases ea2 : y0 with
  | none =>
    have hJ := nl_none ea2 hJ
    exact wb_X9_keysWithVersions_47 N k9 t0 _ _ _ _ m9 hJ
  | some a2 =>
    have hJ := nl_some ea2 hJ
    obtain ⟨-, hJ⟩ := ck_some hJ
    obtain ⟨⟨h4, r5⟩, e6, hJ⟩ := ob_some hJ
    exact (wo_X3_keptAbove N a2 h x1 e6).tr (wb_X9_keysWithVersions_41 N k9 t0 _ _ _ _ _ m9 hJ)
theorem wb_X9_keysWithVersions_17 (N : Nat) (k9 : Hp → Int32 → Int32 → Int32 → Option (Hp × Int32)) (t0 : Nat) (h : Hp) (x1 : Int32) (x2 : Int32) (x3 : Int32) (y0 : Int32) (y1 : Int32) (m9 : ∀ (h : Hp) (x1 : Int32) (x2 : Int32) (x3 : Int32), k9 h x1 x2 x3 = some (hz, rz) → Fw h hz) (hJ : B_X9_keysWithVersions_17 N k9 t0 h x1 x2 x3 y0 y1 = some (hz, rz)) : Fw h hz := by
  unfold B_X9_keysWithVersions_17 at hJ
  by_cases c8 : y1 ≤ y0
  · have hJ := it_pos c8 hJ
    obtain ⟨rfl, -⟩ := rs2 hJ
    exact (Fw.rf h)
  · have hJ := it_neg c8 hJ
    obtain ⟨a9, ea9, -, hJ⟩ := dr_some hJ
    obtain ⟨⟨h10, r11⟩, e12, hJ⟩ := ob_some hJ
    exact (wo_X5_chainAt N a9 h x3 e12).tr (wb_X9_keysWithVersions_28 N k9 t0 _ _ _ _ _ m9 hJ)
theorem wb_X9_keysWithVersions_9 (N : Nat) (k9 : Hp → Int32 → Int32 → Int32 → Option (Hp × Int32)) (t0 : Nat) (h : Hp) (x1 : Int32) (x2 : Int32) (x3 : Int32) (m9 : ∀ (h : Hp) (x1 : Int32) (x2 : Int32) (x3 : Int32), k9 h x1 x2 x3 = some (hz, rz) → Fw h hz) (hJ : B_X9_keysWithVersions_9 N k9 t0 h x1 x2 x3 = some (hz, rz)) : Fw h hz := by
  unfold B_X9_keysWithVersions_9 at hJ
  obtain ⟨a14, ea14, -, hJ⟩ := dr_some hJ
  obtain ⟨⟨h15, r16⟩, e17, hJ⟩ := ob_some hJ
  exact (wo_X5_size N a14 h e17).tr (wb_X9_keysWithVersions_17 N k9 t0 _ _ _ _ _ _ m9 hJ)
theorem wl_X9_keysWithVersions_9 (N : Nat) (t0 : Nat) : ∀ (n : Nat) (h : Hp) (x1 : Int32) (x2 : Int32) (x3 : Int32), L_X9_keysWithVersions_9 N t0 n h x1 x2 x3 = some (hz, rz) → Fw h hz := by
  intro n
  induction n with
  | zero => intro h x1 x2 x3 hJ; cases hJ
  | succ n ih => intro h x1 x2 x3 hJ; exact wb_X9_keysWithVersions_9 N (L_X9_keysWithVersions_9 N t0 n) t0 h x1 x2 x3 ih hJ
theorem wb_X9_keysWithVersions_4 (N : Nat) (t0 : Nat) (h : Hp) (y0 : Int32) (hJ : B_X9_keysWithVersions_4 N t0 h y0 = some (hz, rz)) : Fw h hz := by
  unfold B_X9_keysWithVersions_4 at hJ
  exact wl_X9_keysWithVersions_9 N t0 N _ _ _ _ hJ
theorem wb_X9_keysWithVersions_0 (N : Nat) (t0 : Nat) (h : Hp) (hJ : B_X9_keysWithVersions_0 N t0 h = some (hz, rz)) : Fw h hz := by
  unfold B_X9_keysWithVersions_0 at hJ
  obtain ⟨⟨h19, r20⟩, e21, hJ⟩ := ob_some hJ
  exact (wo_X9_horizon N t0 h e21).tr (wb_X9_keysWithVersions_4 N t0 _ _ hJ)
theorem wo_X9_keysWithVersions (N : Nat) (t0 : Nat) (h : Hp) (hJ : J_X9_keysWithVersions N t0 h = some (hz, rz)) : Fw h hz := wb_X9_keysWithVersions_0 N t0 h hJ
end V_X9_keysWithVersions
section V_X9_count
variable {hz : Hp} {rz : Int32}
theorem wb_X9_count_129 (N : Nat) (t0 : Nat) (h : Hp) (hJ : B_X9_count_129 N t0 h = some (hz, rz)) : Fw h hz := by
  unfold B_X9_count_129 at hJ
  obtain ⟨rfl, -⟩ := rs2 hJ
  exact (Fw.rf h)
theorem wb_X9_count_128 (N : Nat) (t0 : Nat) (h : Hp) (y0 : Int32) (hJ : B_X9_count_128 N t0 h y0 = some (hz, rz)) : Fw h hz := by
  unfold B_X9_count_128 at hJ
  obtain ⟨rfl, -⟩ := rs2 hJ
  exact (Fw.rf h)
theorem wb_X9_count_120 (N : Nat) (t0 : Nat) (h : Hp) (y0 : Int32) (hJ : B_X9_count_120 N t0 h y0 = some (hz, rz)) : Fw h hz := by
  unfold B_X9_count_120 at hJ
  obtain ⟨rfl, -⟩ := rs2 hJ
  exact (Fw.rf h)
theorem wb_X9_count_115 (N : Nat) (t0 : Nat) (h : Hp) (y0 : Int32) (hJ : B_X9_count_115 N t0 h y0 = some (hz, rz)) : Fw h hz := by
  unfold B_X9_count_115 at hJ
  obtain ⟨rfl, -⟩ := rs2 hJ
  exact (Fw.rf h)
theorem wb_X9_count_110 (N : Nat) (t0 : Nat) (h : Hp) (y0 : Int32) (hJ : B_X9_count_110 N t0 h y0 = some (hz, rz)) : Fw h hz := by
  unfold B_X9_count_110 at hJ
  obtain ⟨rfl, -⟩ := rs2 hJ
  exact (Fw.rf h)
theorem wb_X9_count_105 (N : Nat) (t0 : Nat) (h : Hp) (y0 : Int32) (hJ : B_X9_count_105 N t0 h y0 = some (hz, rz)) : Fw h hz := by
  unfold B_X9_count_105 at hJ
  obtain ⟨rfl, -⟩ := rs2 hJ
  exact (Fw.rf h)
theorem wb_X9_count_99 (N : Nat) (t0 : Nat) (h : Hp) (y0 : Int32) (y1 : Int32) (hJ : B_X9_count_99 N t0 h y0 y1 = some (hz, rz)) : Fw h hz := by
  unfold B_X9_count_99 at hJ
  obtain ⟨rfl, -⟩ := rs2 hJ
  exact (Fw.rf h)
theorem wb_X9_count_95 (N : Nat) (t0 : Nat) (h : Hp) (y0 : Int32) (hJ : B_X9_count_95 N t0 h y0 = some (hz, rz)) : Fw h hz := by
  unfold B_X9_count_95 at hJ
  obtain ⟨⟨h1, r2⟩, e3, hJ⟩ := ob_some hJ
  exact (wo_X9_horizon N t0 h e3).tr (wb_X9_count_99 N t0 _ _ _ hJ)
theorem wb_X9_count_87 (N : Nat) (t0 : Nat) (h : Hp) (y0 : Int32) (hJ : B_X9_count_87 N t0 h y0 = some (hz, rz)) : Fw h hz := by
  unfold B_X9_count_87 at hJ
  obtain ⟨rfl, -⟩ := rs2 hJ
  exact (Fw.rf h)
theorem wb_X9_count_17 (N : Nat) (t0 : Nat) (h : Hp) (x1 : Int32) (hJ : B_X9_count_17 N t0 h x1 = some (hz, rz)) : Fw h hz := by
  unfold B_X9_count_17 at hJ
  by_cases c5 : x1 = (0 : Int32)
  · have hJ := it_pos c5 hJ
    obtain ⟨a6, ea6, -, hJ⟩ := dr_some hJ
    obtain ⟨⟨h7, r8⟩, e9, hJ⟩ := ob_some hJ
    exact (wo_Jx4a65c_size_8abf5 N a6 h e9).tr (wb_X9_count_87 N t0 _ _ hJ)
  · have hJ := it_neg c5 hJ
    by_cases c11 : x1 = (1 : Int32)
    · have hJ := it_pos c11 hJ
      exact wb_X9_count_129 N t0 _ hJ
    · have hJ := it_neg c11 hJ
      by_cases c12 : x1 = (2 : Int32)
      · have hJ := it_pos c12 hJ
        exact wb_X9_count_129 N t0 _ hJ
      · have hJ := it_neg c12 hJ
        by_cases c13 : x1 = (3 : Int32)
        · have hJ := it_pos c13 hJ
          exact wb_X9_count_129 N t0 _ hJ
        · have hJ := it_neg c13 hJ
          by_cases c14 : x1 = (4 : Int32)
          · have hJ := it_pos c14 hJ
            exact wb_X9_count_129 N t0 _ hJ
          · have hJ := it_neg c14 hJ
            by_cases c15 : x1 = (5 : Int32)
            · have hJ := it_pos c15 hJ
              exact wb_X9_count_129 N t0 _ hJ
            · have hJ := it_neg c15 hJ
              by_cases c16 : x1 = (6 : Int32)
              · have hJ := it_pos c16 hJ
                obtain ⟨a17, ea17, -, hJ⟩ := dr_some hJ
                obtain ⟨⟨h18, r19⟩, e20, hJ⟩ := ob_some hJ
                exact (wo_Jx4a65c_size_8abf5 N a17 h e20).tr (wb_X9_count_95 N t0 _ _ hJ)
              · have hJ := it_neg c16 hJ
                by_cases c22 : x1 = (7 : Int32)
                · have hJ := it_pos c22 hJ
                  obtain ⟨⟨h23, r24⟩, e25, hJ⟩ := ob_some hJ
                  exact (wo_X9_allRuns N t0 h e25).tr (wb_X9_count_105 N t0 _ _ hJ)
                · have hJ := it_neg c22 hJ
                  by_cases c27 : x1 = (8 : Int32)
                  · have hJ := it_pos c27 hJ
                    obtain ⟨⟨h28, r29⟩, e30, hJ⟩ := ob_some hJ
                    exact (wo_X9_keptVersions N t0 h e30).tr (wb_X9_count_110 N t0 _ _ hJ)
                  · have hJ := it_neg c27 hJ
                    by_cases c32 : x1 = (9 : Int32)
                    · have hJ := it_pos c32 hJ
                      obtain ⟨⟨h33, r34⟩, e35, hJ⟩ := ob_some hJ
                      exact (wo_X9_keysWithVersions N t0 h e35).tr (wb_X9_count_115 N t0 _ _ hJ)
                    · have hJ := it_neg c32 hJ
                      by_cases c37 : x1 = (10 : Int32)
                      · have hJ := it_pos c37 hJ
                        obtain ⟨⟨h38, r39⟩, e40, hJ⟩ := ob_some hJ
                        exact (wo_X9_horizon N t0 h e40).tr (wb_X9_count_120 N t0 _ _ hJ)
                      · have hJ := it_neg c37 hJ
                        by_cases c42 : x1 = (11 : Int32)
                        · have hJ := it_pos c42 hJ
                          obtain ⟨a43, ea43, -, hJ⟩ := dr_some hJ
                          obtain ⟨⟨h44, r45⟩, e46, hJ⟩ := ob_some hJ
                          exact (wo_Jx4a65c_size_8abf5 N a43 h e46).tr (wb_X9_count_128 N t0 _ _ hJ)
                        · have hJ := it_neg c42 hJ
                          exact wb_X9_count_129 N t0 _ hJ
theorem wb_X9_count_0 (N : Nat) (t0 : Nat) (h : Hp) (x1 : Int32) (hJ : B_X9_count_0 N t0 h x1 = some (hz, rz)) : Fw h hz := by
  unfold B_X9_count_0 at hJ
  by_cases c48 : x1 < (1 : Int32)
  · have hJ := it_pos c48 hJ
    exact wb_X9_count_17 N t0 _ _ hJ
  · have hJ := it_neg c48 hJ
    by_cases c49 : (5 : Int32) < x1
    · have hJ := it_pos c49 hJ
      exact wb_X9_count_17 N t0 _ _ hJ
    · have hJ := it_neg c49 hJ
      obtain ⟨a50, ea50, -, hJ⟩ := dr_some hJ
      obtain ⟨-, hJ⟩ := ck_some hJ
      obtain ⟨rfl, -⟩ := rs2 hJ
      exact (Fw.rf h)
theorem wo_X9_count (N : Nat) (t0 : Nat) (h : Hp) (x1 : Int32) (hJ : J_X9_count N t0 h x1 = some (hz, rz)) : Fw h hz := wb_X9_count_0 N t0 h x1 hJ
end V_X9_count
section V_X9_astray
variable {hz : Hp} {rz : Int32}
theorem wb_X9_astray_75 (N : Nat) (t0 : Nat) (h : Hp) (hJ : B_X9_astray_75 N t0 h = some (hz, rz)) : Fw h hz := by
  unfold B_X9_astray_75 at hJ
  obtain ⟨rfl, -⟩ := rs2 hJ
  exact (Fw.rf h)
theorem wb_X9_astray_72 (N : Nat) (t0 : Nat) (h : Hp) (y0 : Option Nat) (y1 : Int32) (hJ : B_X9_astray_72 N t0 h y0 y1 = some (hz, rz)) : Fw h hz := by
  unfold B_X9_astray_72 at hJ
  obtain ⟨a1, ea1, -, hJ⟩ := dr_some hJ
  exact (Fw.tr (show Fw h (h.sfi 1212 a1 y1) from (Fw.rf h)) (wb_X9_astray_75 N t0 _ hJ))
theorem wb_X9_astray_61 (N : Nat) (t0 : Nat) (h : Hp) (y0 : Option Nat) (y1 : Int32) (hJ : B_X9_astray_61 N t0 h y0 y1 = some (hz, rz)) : Fw h hz := by
  unfold B_X9_astray_61 at hJ
  obtain ⟨a2, ea2, -, hJ⟩ := dr_some hJ
  obtain ⟨a3, ea3, -, hJ⟩ := dr_some hJ
  obtain ⟨⟨h4, r5⟩, e6, hJ⟩ := ob_some hJ
  exact (Fw.tr (show Fw h (h.sfi 1213 a2 y1) from (Fw.rf h)) ((wo_Jx4a65c_size_8abf5 N a3 (h.sfi 1213 a2 y1) e6).tr (wb_X9_astray_72 N t0 _ _ _ hJ)))
theorem wb_X9_astray_54 (N : Nat) (t0 : Nat) (h : Hp) (y0 : Option Nat) (y1 : Int32) (hJ : B_X9_astray_54 N t0 h y0 y1 = some (hz, rz)) : Fw h hz := by
  unfold B_X9_astray_54 at hJ
  exact wb_X9_astray_61 N t0 _ _ _ hJ
theorem wb_X9_astray_43 (N : Nat) (t0 : Nat) (h : Hp) (x1 : Option Nat) (y0 : Option Nat) (y1 : Int32) (hJ : B_X9_astray_43 N t0 h x1 y0 y1 = some (hz, rz)) : Fw h hz := by
  unfold B_X9_astray_43 at hJ
  by_cases c8 : y1 = 0
  · have hJ := it_pos c8 hJ
    obtain ⟨a9, ea9, -, hJ⟩ := dr_some hJ
    obtain ⟨⟨h10, r11⟩, e12, hJ⟩ := ob_some hJ
    exact (wo_X1_onRings N a9 h e12).tr (wb_X9_astray_61 N t0 _ _ _ hJ)
  · have hJ := it_neg c8 hJ
    obtain ⟨a14, ea14, -, hJ⟩ := dr_some hJ
    obtain ⟨⟨h15, r16⟩, e17, hJ⟩ := ob_some hJ
    exact (wo_X1_differences N a14 h (h.fr 1206 t0) e17).tr (wb_X9_astray_54 N t0 _ _ _ hJ)
theorem wb_X9_astray_38 (N : Nat) (t0 : Nat) (h : Hp) (x1 : Option Nat) (hJ : B_X9_astray_38 N t0 h x1 = some (hz, rz)) : Fw h hz := by
  unfold B_X9_astray_38 at hJ
  obtain ⟨a19, ea19, -, hJ⟩ := dr_some hJ
  obtain ⟨⟨h20, r21⟩, e22, hJ⟩ := ob_some hJ
  exact (wo_X1_lineUp N a19 h e22).tr (wb_X9_astray_43 N t0 _ _ _ _ hJ)
theorem wb_X9_astray_34 (N : Nat) (t0 : Nat) (h : Hp) (x1 : Option Nat) (hJ : B_X9_astray_34 N t0 h x1 = some (hz, rz)) : Fw h hz := by
  unfold B_X9_astray_34 at hJ
  obtain ⟨a24, ea24, -, hJ⟩ := dr_some hJ
  obtain ⟨⟨h25, r26⟩, e27, hJ⟩ := ob_some hJ
  exact (wo_X1_drawLookings N a24 h e27).tr (wb_X9_astray_38 N t0 _ _ hJ)
theorem wb_X9_astray_29 (N : Nat) (t0 : Nat) (h : Hp) (y0 : Option Nat) (hJ : B_X9_astray_29 N t0 h y0 = some (hz, rz)) : Fw h hz := by
  unfold B_X9_astray_29 at hJ
  obtain ⟨a29, ea29, -, hJ⟩ := dr_some hJ
  obtain ⟨⟨h30, r31⟩, e32, hJ⟩ := ob_some hJ
  exact (wo_X1_drawVersions N a29 h e32).tr (wb_X9_astray_34 N t0 _ _ hJ)
theorem wb_X9_astray_17 (N : Nat) (t0 : Nat) (h : Hp) (y0 : Option Nat) (hJ : B_X9_astray_17 N t0 h y0 = some (hz, rz)) : Fw h hz := by
  unfold B_X9_astray_17 at hJ
  obtain ⟨a34, ea34, -, hJ⟩ := dr_some hJ
  obtain ⟨⟨h35, r36⟩, e37, hJ⟩ := ob_some hJ
  exact (wo_X1_init N a34 h (h.fr 1200 t0) (h.fr 1203 t0) e37).tr (wb_X9_astray_29 N t0 _ _ hJ)
theorem wb_X9_astray_11 (N : Nat) (t0 : Nat) (h : Hp) (y0 : Int32) (y1 : Int32) (hJ : B_X9_astray_11 N t0 h y0 y1 = some (hz, rz)) : Fw h hz := by
  unfold B_X9_astray_11 at hJ
  by_cases c39 : y0 = y1
  · have hJ := it_pos c39 hJ
    exact wb_X9_astray_75 N t0 _ hJ
  · have hJ := it_neg c39 hJ
    exact (Fw.new h _ _ _).tr (wb_X9_astray_17 N t0 _ _ hJ)
theorem wb_X9_astray_0 (N : Nat) (t0 : Nat) (h : Hp) (hJ : B_X9_astray_0 N t0 h = some (hz, rz)) : Fw h hz := by
  unfold B_X9_astray_0 at hJ
  obtain ⟨a41, ea41, -, hJ⟩ := dr_some hJ
  obtain ⟨⟨h42, r43⟩, e44, hJ⟩ := ob_some hJ
  exact (wo_Jx4a65c_size_8abf5 N a41 h e44).tr (wb_X9_astray_11 N t0 _ _ _ hJ)
theorem wo_X9_astray (N : Nat) (t0 : Nat) (h : Hp) (hJ : J_X9_astray N t0 h = some (hz, rz)) : Fw h hz := wb_X9_astray_0 N t0 h hJ
end V_X9_astray
section V_X9_activeOne
variable {hz : Hp} {rz : Option Nat}
theorem wb_X9_activeOne_18 (N : Nat) (t0 : Nat) (h : Hp) (hJ : B_X9_activeOne_18 N t0 h = some (hz, rz)) : Fw h hz := by
  unfold B_X9_activeOne_18 at hJ
  cases hJ
theorem wb_X9_activeOne_5 (N : Nat) (t0 : Nat) (h : Hp) (y0 : Option Nat) (hJ : B_X9_activeOne_5 N t0 h y0 = some (hz, rz)) : Fw h hz := by
  unfold B_X9_activeOne_5 at hJ
  cases ea1 : y0 with
  | none =>
    have hJ := nl_none ea1 hJ
    exact wb_X9_activeOne_18 N t0 _ hJ
  | some a1 =>
    have hJ := nl_some ea1 hJ
    obtain ⟨-, hJ⟩ := ck_some hJ
    by_cases c3 : (h.fi 1006 a1) = (1 : Int32)
    · have hJ := it_pos c3 hJ
      obtain ⟨rfl, -⟩ := rs2 hJ
      exact (Fw.rf h)
    · have hJ := it_neg c3 hJ
      exact wb_X9_activeOne_18 N t0 _ hJ
theorem wb_X9_activeOne_0 (N : Nat) (t0 : Nat) (h : Hp) (x1 : Int32) (hJ : B_X9_activeOne_0 N t0 h x1 = some (hz, rz)) : Fw h hz := by
  unfold B_X9_activeOne_0 at hJ
  obtain ⟨⟨h4, r5⟩, e6, hJ⟩ := ob_some hJ
  exact (wo_X9_numbered N t0 h x1 e6).tr (wb_X9_activeOne_5 N t0 _ _ hJ)
theorem wo_X9_activeOne (N : Nat) (t0 : Nat) (h : Hp) (x1 : Int32) (hJ : J_X9_activeOne N t0 h x1 = some (hz, rz)) : Fw h hz := wb_X9_activeOne_0 N t0 h x1 hJ
end V_X9_activeOne
section V_X9_blame
variable {hz : Hp}
theorem wb_X9_blame_29 (N : Nat) (t0 : Nat) (h : Hp) (hJ : B_X9_blame_29 N t0 h = some (hz, ())) : Fw h hz := by
  unfold B_X9_blame_29 at hJ
  obtain ⟨rfl, -⟩ := rs2 hJ
  exact (Fw.rf h)
theorem wb_X9_blame_0 (N : Nat) (t0 : Nat) (h : Hp) (x1 : Int32) (x2 : Int32) (x3 : Int32) (x4 : Int32) (hJ : B_X9_blame_0 N t0 h x1 x2 x3 x4 = some (hz, ())) : Fw h hz := by
  unfold B_X9_blame_0 at hJ
  obtain ⟨a1, ea1, -, hJ⟩ := dr_some hJ
  obtain ⟨-, hJ⟩ := ck_some hJ
  obtain ⟨a3, ea3, -, hJ⟩ := dr_some hJ
  obtain ⟨-, hJ⟩ := ck_some hJ
  obtain ⟨a5, ea5, -, hJ⟩ := dr_some hJ
  obtain ⟨-, hJ⟩ := ck_some hJ
  obtain ⟨a7, ea7, -, hJ⟩ := dr_some hJ
  obtain ⟨-, hJ⟩ := ck_some hJ
  exact (Fw.tr (show Fw h ((((h.sai a1 (0 : Int32).toNatClampNeg x1).sai a3 (1 : Int32).toNatClampNeg x2).sai a5 (2 : Int32).toNatClampNeg x3).sai a7 (3 : Int32).toNatClampNeg x4) from (Fw.rf h)) (wb_X9_blame_29 N t0 _ hJ))
theorem wo_X9_blame (N : Nat) (t0 : Nat) (h : Hp) (x1 : Int32) (x2 : Int32) (x3 : Int32) (x4 : Int32) (hJ : J_X9_blame N t0 h x1 x2 x3 x4 = some (hz, ())) : Fw h hz := wb_X9_blame_0 N t0 h x1 x2 x3 x4 hJ
end V_X9_blame
section V_X9_blameDanger
variable {hz : Hp}
theorem wb_X9_blameDanger_34 (N : Nat) (t0 : Nat) (h : Hp) (hJ : B_X9_blameDanger_34 N t0 h = some (hz, ())) : Fw h hz := by
  unfold B_X9_blameDanger_34 at hJ
  obtain ⟨rfl, -⟩ := rs2 hJ
  exact (Fw.rf h)
theorem wb_X9_blameDanger_31 (N : Nat) (t0 : Nat) (h : Hp) (y0 : Option Nat) (y1 : Int32) (y2 : Int32) (y3 : Int32) (y4 : Int32) (hJ : B_X9_blameDanger_31 N t0 h y0 y1 y2 y3 y4 = some (hz, ())) : Fw h hz := by
  unfold B_X9_blameDanger_31 at hJ
  obtain ⟨a1, ea1, -, hJ⟩ := dr_some hJ
  obtain ⟨⟨h2, r3⟩, e4, hJ⟩ := ob_some hJ
  exact (wo_X9_blame N a1 h y1 y2 y3 y4 e4).tr (wb_X9_blameDanger_34 N t0 _ hJ)
theorem wb_X9_blameDanger_8 (N : Nat) (t0 : Nat) (h : Hp) (x1 : Option Nat) (x2 : Option Nat) (y0 : Option Nat) (hJ : B_X9_blameDanger_8 N t0 h x1 x2 y0 = some (hz, ())) : Fw h hz := by
  unfold B_X9_blameDanger_8 at hJ
  obtain ⟨a6, ea6, -, hJ⟩ := dr_some hJ
  obtain ⟨a7, ea7, -, hJ⟩ := dr_some hJ
  cases ea8 : y0 with
  | none =>
    have hJ := nl_none ea8 hJ
    exact wb_X9_blameDanger_31 N t0 _ _ _ _ _ _ hJ
  | some a8 =>
    have hJ := nl_some ea8 hJ
    obtain ⟨-, hJ⟩ := ck_some hJ
    exact wb_X9_blameDanger_31 N t0 _ _ _ _ _ _ hJ
theorem wb_X9_blameDanger_0 (N : Nat) (t0 : Nat) (h : Hp) (x1 : Option Nat) (x2 : Option Nat) (hJ : B_X9_blameDanger_0 N t0 h x1 x2 = some (hz, ())) : Fw h hz := by
  unfold B_X9_blameDanger_0 at hJ
  obtain ⟨a10, ea10, -, hJ⟩ := dr_some hJ
  obtain ⟨⟨h11, r12⟩, e13, hJ⟩ := ob_some hJ
  exact (wo_X9_withMoment N t0 h (h.fi 1008 a10) e13).tr (wb_X9_blameDanger_8 N t0 _ _ _ _ hJ)
theorem wo_X9_blameDanger (N : Nat) (t0 : Nat) (h : Hp) (x1 : Option Nat) (x2 : Option Nat) (hJ : J_X9_blameDanger N t0 h x1 x2 = some (hz, ())) : Fw h hz := wb_X9_blameDanger_0 N t0 h x1 x2 hJ
end V_X9_blameDanger
section V_X9_end
variable {hz : Hp}
theorem wb_X9_end_104 (N : Nat) (k78 : Hp → (Option Nat) → Int32 → Option (Hp × Unit)) (t0 : Nat) (h : Hp) (x1 : Option Nat) (x3 : Int32) (m78 : ∀ (h : Hp) (x1 : Option Nat) (x3 : Int32), k78 h x1 x3 = some (hz, ()) → Fw h hz) (hJ : B_X9_end_104 N k78 t0 h x1 x3 = some (hz, ())) : Fw h hz := by
  unfold B_X9_end_104 at hJ
  exact m78 _ _ _ hJ
theorem wb_X9_end_97 (N : Nat) (k78 : Hp → (Option Nat) → Int32 → Option (Hp × Unit)) (t0 : Nat) (h : Hp) (x1 : Option Nat) (x3 : Int32) (y0 : Option Nat) (m78 : ∀ (h : Hp) (x1 : Option Nat) (x3 : Int32), k78 h x1 x3 = some (hz, ()) → Fw h hz) (hJ : B_X9_end_97 N k78 t0 h x1 x3 y0 = some (hz, ())) : Fw h hz := by
  unfold B_X9_end_97 at hJ
  obtain ⟨a1, ea1, -, hJ⟩ := dr_some hJ
  obtain ⟨⟨h2, r3⟩, e4, hJ⟩ := ob_some hJ
  exact (wo_X7_heedEndOf N a1 h x1 e4).tr (wb_X9_end_104 N k78 t0 _ _ _ m78 hJ)
theorem wb_X9_end_86 (N : Nat) (k78 : Hp → (Option Nat) → Int32 → Option (Hp × Unit)) (t0 : Nat) (h : Hp) (x1 : Option Nat) (x3 : Int32) (y0 : Int32) (y1 : Int32) (m78 : ∀ (h : Hp) (x1 : Option Nat) (x3 : Int32), k78 h x1 x3 = some (hz, ()) → Fw h hz) (hJ : B_X9_end_86 N k78 t0 h x1 x3 y0 y1 = some (hz, ())) : Fw h hz := by
  unfold B_X9_end_86 at hJ
  by_cases c6 : y1 ≤ y0
  · have hJ := it_pos c6 hJ
    obtain ⟨rfl, -⟩ := rs2 hJ
    exact (Fw.rf h)
  · have hJ := it_neg c6 hJ
    obtain ⟨a7, ea7, -, hJ⟩ := dr_some hJ
    obtain ⟨⟨h8, r9⟩, e10, hJ⟩ := ob_some hJ
    exact (wo_Jx4a65c_get_915e3 N a7 h x3 e10).tr (wb_X9_end_97 N k78 t0 _ _ _ _ m78 hJ)
theorem wb_X9_end_78 (N : Nat) (k78 : Hp → (Option Nat) → Int32 → Option (Hp × Unit)) (t0 : Nat) (h : Hp) (x1 : Option Nat) (x3 : Int32) (m78 : ∀ (h : Hp) (x1 : Option Nat) (x3 : Int32), k78 h x1 x3 = some (hz, ()) → Fw h hz) (hJ : B_X9_end_78 N k78 t0 h x1 x3 = some (hz, ())) : Fw h hz := by
  unfold B_X9_end_78 at hJ
  obtain ⟨a12, ea12, -, hJ⟩ := dr_some hJ
  obtain ⟨⟨h13, r14⟩, e15, hJ⟩ := ob_some hJ
  exact (wo_Jx4a65c_size_8abf5 N a12 h e15).tr (wb_X9_end_86 N k78 t0 _ _ _ _ _ m78 hJ)
theorem wl_X9_end_78 (N : Nat) (t0 : Nat) : ∀ (n : Nat) (h : Hp) (x1 : Option Nat) (x3 : Int32), L_X9_end_78 N t0 n h x1 x3 = some (hz, ()) → Fw h hz := by
  intro n
  induction n with
  | zero => intro h x1 x3 hJ; cases hJ
  | succ n ih => intro h x1 x3 hJ; exact wb_X9_end_78 N (L_X9_end_78 N t0 n) t0 h x1 x3 ih hJ
theorem wb_X9_end_68 (N : Nat) (t0 : Nat) (h : Hp) (x1 : Option Nat) (hJ : B_X9_end_68 N t0 h x1 = some (hz, ())) : Fw h hz := by
  unfold B_X9_end_68 at hJ
  obtain ⟨a17, ea17, -, hJ⟩ := dr_some hJ
  by_cases c18 : (h.fi 1005 a17) = 0
  · have hJ := it_pos c18 hJ
    exact wl_X9_end_78 N t0 N _ _ _ hJ
  · have hJ := it_neg c18 hJ
    obtain ⟨rfl, -⟩ := rs2 hJ
    exact (Fw.rf h)
theorem wb_X9_end_58 (N : Nat) (t0 : Nat) (h : Hp) (x1 : Option Nat) (y0 : Option Nat) (hJ : B_X9_end_58 N t0 h x1 y0 = some (hz, ())) : Fw h hz := by
  unfold B_X9_end_58 at hJ
  exact wb_X9_end_68 N t0 _ _ hJ
theorem wb_X9_end_46 (N : Nat) (k27 : Hp → (Option Nat) → Int32 → Option (Hp × Unit)) (t0 : Nat) (h : Hp) (x1 : Option Nat) (x3 : Int32) (y0 : Option Nat) (m27 : ∀ (h : Hp) (x1 : Option Nat) (x3 : Int32), k27 h x1 x3 = some (hz, ()) → Fw h hz) (hJ : B_X9_end_46 N k27 t0 h x1 x3 y0 = some (hz, ())) : Fw h hz := by
  unfold B_X9_end_46 at hJ
  by_cases c19 : y0 = x1
  · have hJ := it_pos c19 hJ
    obtain ⟨a20, ea20, -, hJ⟩ := dr_some hJ
    obtain ⟨⟨h21, r22⟩, e23, hJ⟩ := ob_some hJ
    exact (wo_Jx4a65c_remove_915e3 N a20 h x3 e23).tr (wb_X9_end_58 N t0 _ _ _ hJ)
  · have hJ := it_neg c19 hJ
    exact m27 _ _ _ hJ
theorem wb_X9_end_35 (N : Nat) (k27 : Hp → (Option Nat) → Int32 → Option (Hp × Unit)) (t0 : Nat) (h : Hp) (x1 : Option Nat) (x3 : Int32) (y0 : Int32) (y1 : Int32) (m27 : ∀ (h : Hp) (x1 : Option Nat) (x3 : Int32), k27 h x1 x3 = some (hz, ()) → Fw h hz) (hJ : B_X9_end_35 N k27 t0 h x1 x3 y0 y1 = some (hz, ())) : Fw h hz := by
  unfold B_X9_end_35 at hJ
  by_cases c25 : y1 ≤ y0
  · have hJ := it_pos c25 hJ
    exact wb_X9_end_68 N t0 _ _ hJ
  · have hJ := it_neg c25 hJ
    obtain ⟨a26, ea26, -, hJ⟩ := dr_some hJ
    obtain ⟨⟨h27, r28⟩, e29, hJ⟩ := ob_some hJ
    exact (wo_Jx4a65c_get_915e3 N a26 h x3 e29).tr (wb_X9_end_46 N k27 t0 _ _ _ _ m27 hJ)
theorem wb_X9_end_27 (N : Nat) (k27 : Hp → (Option Nat) → Int32 → Option (Hp × Unit)) (t0 : Nat) (h : Hp) (x1 : Option Nat) (x3 : Int32) (m27 : ∀ (h : Hp) (x1 : Option Nat) (x3 : Int32), k27 h x1 x3 = some (hz, ()) → Fw h hz) (hJ : B_X9_end_27 N k27 t0 h x1 x3 = some (hz, ())) : Fw h hz := by
  unfold B_X9_end_27 at hJ
  obtain ⟨a31, ea31, -, hJ⟩ := dr_some hJ
  obtain ⟨⟨h32, r33⟩, e34, hJ⟩ := ob_some hJ
  exact (wo_Jx4a65c_size_8abf5 N a31 h e34).tr (wb_X9_end_35 N k27 t0 _ _ _ _ _ m27 hJ)
theorem wl_X9_end_27 (N : Nat) (t0 : Nat) : ∀ (n : Nat) (h : Hp) (x1 : Option Nat) (x3 : Int32), L_X9_end_27 N t0 n h x1 x3 = some (hz, ()) → Fw h hz := by
  intro n
  induction n with
  | zero => intro h x1 x3 hJ; cases hJ
  | succ n ih => intro h x1 x3 hJ; exact wb_X9_end_27 N (L_X9_end_27 N t0 n) t0 h x1 x3 ih hJ
theorem wb_X9_end_0 (N : Nat) (t0 : Nat) (h : Hp) (x1 : Option Nat) (x2 : Int32) (hJ : B_X9_end_0 N t0 h x1 x2 = some (hz, ())) : Fw h hz := by
  unfold B_X9_end_0 at hJ
  obtain ⟨a36, ea36, -, hJ⟩ := dr_some hJ
  obtain ⟨a37, ea37, -, hJ⟩ := dr_some hJ
  obtain ⟨-, hJ⟩ := ck_some hJ
  obtain ⟨-, hJ⟩ := ck_some hJ
  obtain ⟨a40, ea40, -, hJ⟩ := dr_some hJ
  obtain ⟨-, hJ⟩ := ck_some hJ
  obtain ⟨-, hJ⟩ := ck_some hJ
  exact (Fw.tr (show Fw h (((h.sfi 1006 a36 x2).sai a37 (1 : Int32).toNatClampNeg (((h.sfi 1006 a36 x2).ai a37 (1 : Int32).toNatClampNeg) - (1 : Int32))).sai a40 x2.toNatClampNeg ((((h.sfi 1006 a36 x2).sai a37 (1 : Int32).toNatClampNeg (((h.sfi 1006 a36 x2).ai a37 (1 : Int32).toNatClampNeg) - (1 : Int32))).ai a40 x2.toNatClampNeg) + (1 : Int32))) from (Fw.rf h)) (wl_X9_end_27 N t0 N _ _ _ hJ))
theorem wo_X9_end (N : Nat) (t0 : Nat) (h : Hp) (x1 : Option Nat) (x2 : Int32) (hJ : J_X9_end N t0 h x1 x2 = some (hz, ())) : Fw h hz := wb_X9_end_0 N t0 h x1 x2 hJ
end V_X9_end
section V_X9_forbiddenOverwriter
variable {hz : Hp} {rz : Option Nat}
theorem wb_X9_forbiddenOverwriter_59 (N : Nat) (k4 : Hp → (Option Nat) → (Option Nat) → Int32 → Option (Hp × Option Nat)) (t0 : Nat) (h : Hp) (x1 : Option Nat) (x2 : Option Nat) (x3 : Int32) (m4 : ∀ (h : Hp) (x1 : Option Nat) (x2 : Option Nat) (x3 : Int32), k4 h x1 x2 x3 = some (hz, rz) → Fw h hz) (hJ : B_X9_forbiddenOverwriter_59 N k4 t0 h x1 x2 x3 = some (hz, rz)) : Fw h hz := by
  unfold B_X9_forbiddenOverwriter_59 at hJ
  exact m4 _ _ _ _ hJ
theorem wb_X9_forbiddenOverwriter_56 (N : Nat) (k4 : Hp → (Option Nat) → (Option Nat) → Int32 → Option (Hp × Option Nat)) (t0 : Nat) (h : Hp) (x1 : Option Nat) (x3 : Int32) (x4 : Option Nat) (m4 : ∀ (h : Hp) (x1 : Option Nat) (x2 : Option Nat) (x3 : Int32), k4 h x1 x2 x3 = some (hz, rz) → Fw h hz) (hJ : B_X9_forbiddenOverwriter_56 N k4 t0 h x1 x3 x4 = some (hz, rz)) : Fw h hz := by
  unfold B_X9_forbiddenOverwriter_56 at hJ
  exact wb_X9_forbiddenOverwriter_59 N k4 t0 _ _ _ _ m4 hJ
theorem wb_X9_forbiddenOverwriter_37 (N : Nat) (k4 : Hp → (Option Nat) → (Option Nat) → Int32 → Option (Hp × Option Nat)) (t0 : Nat) (h : Hp) (x1 : Option Nat) (x2 : Option Nat) (x3 : Int32) (x4 : Option Nat) (y0 : Int32) (m4 : ∀ (h : Hp) (x1 : Option Nat) (x2 : Option Nat) (x3 : Int32), k4 h x1 x2 x3 = some (hz, rz) → Fw h hz) (hJ : B_X9_forbiddenOverwriter_37 N k4 t0 h x1 x2 x3 x4 y0 = some (hz, rz)) : Fw h hz := by
  unfold B_X9_forbiddenOverwriter_37 at hJ
  by_cases c1 : y0 = 0
  · have hJ := it_pos c1 hJ
    exact wb_X9_forbiddenOverwriter_59 N k4 t0 _ _ _ _ m4 hJ
  · have hJ := it_neg c1 hJ
    cases ea2 : x2 with
    | none =>
      have hJ := nl_none ea2 hJ
      exact wb_X9_forbiddenOverwriter_56 N k4 t0 _ _ _ _ m4 hJ
    | some a2 =>
      have hJ := nl_some ea2 hJ
      obtain ⟨a3, ea3, -, hJ⟩ := dr_some hJ
      obtain ⟨-, hJ⟩ := ck_some hJ
      by_cases c5 : (h.fi 1007 a2) ≤ (h.fi 1007 a3)
      · have hJ := it_pos c5 hJ
        exact wb_X9_forbiddenOverwriter_59 N k4 t0 _ _ _ _ m4 hJ
      · have hJ := it_neg c5 hJ
        exact wb_X9_forbiddenOverwriter_56 N k4 t0 _ _ _ _ m4 hJ
theorem wb_X9_forbiddenOverwriter_23 (N : Nat) (k4 : Hp → (Option Nat) → (Option Nat) → Int32 → Option (Hp × Option Nat)) (t0 : Nat) (h : Hp) (x1 : Option Nat) (x2 : Option Nat) (x3 : Int32) (y0 : Option Nat) (m4 : ∀ (h : Hp) (x1 : Option Nat) (x2 : Option Nat) (x3 : Int32), k4 h x1 x2 x3 = some (hz, rz) → Fw h hz) (hJ : B_X9_forbiddenOverwriter_23 N k4 t0 h x1 x2 x3 y0 = some (hz, rz)) : Fw h hz := by
  unfold B_X9_forbiddenOverwriter_23 at hJ
  obtain ⟨a6, ea6, -, hJ⟩ := dr_some hJ
  obtain ⟨a7, ea7, -, hJ⟩ := dr_some hJ
  obtain ⟨⟨h8, r9⟩, e10, hJ⟩ := ob_some hJ
  exact (wo_X7_mayNotPrecede N a7 h (h.fi 1008 a6) e10).tr (wb_X9_forbiddenOverwriter_37 N k4 t0 _ _ _ _ _ _ m4 hJ)
theorem wb_X9_forbiddenOverwriter_12 (N : Nat) (k4 : Hp → (Option Nat) → (Option Nat) → Int32 → Option (Hp × Option Nat)) (t0 : Nat) (h : Hp) (x1 : Option Nat) (x2 : Option Nat) (x3 : Int32) (y0 : Int32) (y1 : Int32) (m4 : ∀ (h : Hp) (x1 : Option Nat) (x2 : Option Nat) (x3 : Int32), k4 h x1 x2 x3 = some (hz, rz) → Fw h hz) (hJ : B_X9_forbiddenOverwriter_12 N k4 t0 h x1 x2 x3 y0 y1 = some (hz, rz)) : Fw h hz := by
  unfold B_X9_forbiddenOverwriter_12 at hJ
  by_cases c12 : y1 ≤ y0
  · have hJ := it_pos c12 hJ
    obtain ⟨rfl, -⟩ := rs2 hJ
    exact (Fw.rf h)
  · have hJ := it_neg c12 hJ
    obtain ⟨a13, ea13, -, hJ⟩ := dr_some hJ
    obtain ⟨⟨h14, r15⟩, e16, hJ⟩ := ob_some hJ
    exact (wo_Jx4a65c_get_915e3 N a13 h x3 e16).tr (wb_X9_forbiddenOverwriter_23 N k4 t0 _ _ _ _ _ m4 hJ)
theorem wb_X9_forbiddenOverwriter_4 (N : Nat) (k4 : Hp → (Option Nat) → (Option Nat) → Int32 → Option (Hp × Option Nat)) (t0 : Nat) (h : Hp) (x1 : Option Nat) (x2 : Option Nat) (x3 : Int32) (m4 : ∀ (h : Hp) (x1 : Option Nat) (x2 : Option Nat) (x3 : Int32), k4 h x1 x2 x3 = some (hz, rz) → Fw h hz) (hJ : B_X9_forbiddenOverwriter_4 N k4 t0 h x1 x2 x3 = some (hz, rz)) : Fw h hz := by
  unfold B_X9_forbiddenOverwriter_4 at hJ
  obtain ⟨a18, ea18, -, hJ⟩ := dr_some hJ
  obtain ⟨⟨h19, r20⟩, e21, hJ⟩ := ob_some hJ
  exact (wo_Jx4a65c_size_8abf5 N a18 h e21).tr (wb_X9_forbiddenOverwriter_12 N k4 t0 _ _ _ _ _ _ m4 hJ)
theorem wl_X9_forbiddenOverwriter_4 (N : Nat) (t0 : Nat) : ∀ (n : Nat) (h : Hp) (x1 : Option Nat) (x2 : Option Nat) (x3 : Int32), L_X9_forbiddenOverwriter_4 N t0 n h x1 x2 x3 = some (hz, rz) → Fw h hz := by
  intro n
  induction n with
  | zero => intro h x1 x2 x3 hJ; cases hJ
  | succ n ih => intro h x1 x2 x3 hJ; exact wb_X9_forbiddenOverwriter_4 N (L_X9_forbiddenOverwriter_4 N t0 n) t0 h x1 x2 x3 ih hJ
theorem wb_X9_forbiddenOverwriter_0 (N : Nat) (t0 : Nat) (h : Hp) (x1 : Option Nat) (hJ : B_X9_forbiddenOverwriter_0 N t0 h x1 = some (hz, rz)) : Fw h hz := by
  unfold B_X9_forbiddenOverwriter_0 at hJ
  exact wl_X9_forbiddenOverwriter_4 N t0 N _ _ _ _ hJ
theorem wo_X9_forbiddenOverwriter (N : Nat) (t0 : Nat) (h : Hp) (x1 : Option Nat) (hJ : J_X9_forbiddenOverwriter N t0 h x1 = some (hz, rz)) : Fw h hz := wb_X9_forbiddenOverwriter_0 N t0 h x1 hJ
end V_X9_forbiddenOverwriter
section V_X9_gatherOverwriters
variable {hz : Hp}
theorem wb_X9_gatherOverwriters_124 (N : Nat) (t0 : Nat) (h : Hp) (hJ : B_X9_gatherOverwriters_124 N t0 h = some (hz, ())) : Fw h hz := by
  unfold B_X9_gatherOverwriters_124 at hJ
  obtain ⟨rfl, -⟩ := rs2 hJ
  exact (Fw.rf h)
theorem wb_X9_gatherOverwriters_108 (N : Nat) (k18 : Hp → (Option Nat) → Int32 → Int32 → Option (Hp × Unit)) (k65 : Hp → (Option Nat) → Int32 → Int32 → (Option Nat) → Option (Hp × Unit)) (t0 : Nat) (h : Hp) (x1 : Option Nat) (x3 : Int32) (x4 : Int32) (x6 : Option Nat) (m18 : ∀ (h : Hp) (x1 : Option Nat) (x3 : Int32) (x4 : Int32), k18 h x1 x3 x4 = some (hz, ()) → Fw h hz) (m65 : ∀ (h : Hp) (x1 : Option Nat) (x3 : Int32) (x4 : Int32) (x6 : Option Nat), k65 h x1 x3 x4 x6 = some (hz, ()) → Fw h hz) (hJ : B_X9_gatherOverwriters_108 N k18 k65 t0 h x1 x3 x4 x6 = some (hz, ())) : Fw h hz := by
  unfold B_X9_gatherOverwriters_108 at hJ
  obtain ⟨a1, ea1, -, hJ⟩ := dr_some hJ
  exact m65 _ _ _ _ _ hJ
theorem wb_X9_gatherOverwriters_107 (N : Nat) (k18 : Hp → (Option Nat) → Int32 → Int32 → Option (Hp × Unit)) (k65 : Hp → (Option Nat) → Int32 → Int32 → (Option Nat) → Option (Hp × Unit)) (t0 : Nat) (h : Hp) (x1 : Option Nat) (x3 : Int32) (x4 : Int32) (x6 : Option Nat) (y0 : Int32) (m18 : ∀ (h : Hp) (x1 : Option Nat) (x3 : Int32) (x4 : Int32), k18 h x1 x3 x4 = some (hz, ()) → Fw h hz) (m65 : ∀ (h : Hp) (x1 : Option Nat) (x3 : Int32) (x4 : Int32) (x6 : Option Nat), k65 h x1 x3 x4 x6 = some (hz, ()) → Fw h hz) (hJ : B_X9_gatherOverwriters_107 N k18 k65 t0 h x1 x3 x4 x6 y0 = some (hz, ())) : Fw h hz := by
  unfold B_X9_gatherOverwriters_107 at hJ
  exact wb_X9_gatherOverwriters_108 N k18 k65 t0 _ _ _ _ _ m18 m65 hJ
theorem wb_X9_gatherOverwriters_91 (N : Nat) (k18 : Hp → (Option Nat) → Int32 → Int32 → Option (Hp × Unit)) (k65 : Hp → (Option Nat) → Int32 → Int32 → (Option Nat) → Option (Hp × Unit)) (t0 : Nat) (h : Hp) (x1 : Option Nat) (x3 : Int32) (x4 : Int32) (x6 : Option Nat) (y0 : Option Nat) (m18 : ∀ (h : Hp) (x1 : Option Nat) (x3 : Int32) (x4 : Int32), k18 h x1 x3 x4 = some (hz, ()) → Fw h hz) (m65 : ∀ (h : Hp) (x1 : Option Nat) (x3 : Int32) (x4 : Int32) (x6 : Option Nat), k65 h x1 x3 x4 x6 = some (hz, ()) → Fw h hz) (hJ : B_X9_gatherOverwriters_91 N k18 k65 t0 h x1 x3 x4 x6 y0 = some (hz, ())) : Fw h hz := by
  unfold B_X9_gatherOverwriters_91 at hJ
  cases ea2 : y0 with
  | none =>
    have hJ := nl_none ea2 hJ
    exact wb_X9_gatherOverwriters_108 N k18 k65 t0 _ _ _ _ _ m18 m65 hJ
  | some a2 =>
    have hJ := nl_some ea2 hJ
    obtain ⟨a3, ea3, -, hJ⟩ := dr_some hJ
    obtain ⟨⟨h4, r5⟩, e6, hJ⟩ := ob_some hJ
    exact (wo_Jx4a65c_add_9ea2d N a3 h (some a2) e6).tr (wb_X9_gatherOverwriters_107 N k18 k65 t0 _ _ _ _ _ _ m18 m65 hJ)
theorem wb_X9_gatherOverwriters_118 (N : Nat) (k18 : Hp → (Option Nat) → Int32 → Int32 → Option (Hp × Unit)) (t0 : Nat) (h : Hp) (x1 : Option Nat) (x3 : Int32) (x4 : Int32) (m18 : ∀ (h : Hp) (x1 : Option Nat) (x3 : Int32) (x4 : Int32), k18 h x1 x3 x4 = some (hz, ()) → Fw h hz) (hJ : B_X9_gatherOverwriters_118 N k18 t0 h x1 x3 x4 = some (hz, ())) : Fw h hz := by
  unfold B_X9_gatherOverwriters_118 at hJ
  exact m18 _ _ _ _ hJ
theorem wb_X9_gatherOverwriters_65 (N : Nat) (k18 : Hp → (Option Nat) → Int32 → Int32 → Option (Hp × Unit)) (k65 : Hp → (Option Nat) → Int32 → Int32 → (Option Nat) → Option (Hp × Unit)) (t0 : Nat) (h : Hp) (x1 : Option Nat) (x3 : Int32) (x4 : Int32) (x6 : Option Nat) (m18 : ∀ (h : Hp) (x1 : Option Nat) (x3 : Int32) (x4 : Int32), k18 h x1 x3 x4 = some (hz, ()) → Fw h hz) (m65 : ∀ (h : Hp) (x1 : Option Nat) (x3 : Int32) (x4 : Int32) (x6 : Option Nat), k65 h x1 x3 x4 x6 = some (hz, ()) → Fw h hz) (hJ : B_X9_gatherOverwriters_65 N k18 k65 t0 h x1 x3 x4 x6 = some (hz, ())) : Fw h hz := by
  unfold B_X9_gatherOverwriters_65 at hJ
  cases ea8 : x6 with
  | none =>
    have hJ := nl_none ea8 hJ
    exact wb_X9_gatherOverwriters_118 N k18 t0 _ _ _ _ m18 hJ
  | some a8 =>
    have hJ := nl_some ea8 hJ
    obtain ⟨-, hJ⟩ := ck_some hJ
    obtain ⟨a10, ea10, -, hJ⟩ := dr_some hJ
    by_cases c11 : (h.fi 700 a8) ≤ (h.fi 1001 a10)
    · have hJ := it_pos c11 hJ
      exact wb_X9_gatherOverwriters_118 N k18 t0 _ _ _ _ m18 hJ
    · have hJ := it_neg c11 hJ
      obtain ⟨⟨h12, r13⟩, e14, hJ⟩ := ob_some hJ
      exact (wo_X9_withMoment N t0 h (h.fi 700 a8) e14).tr (wb_X9_gatherOverwriters_91 N k18 k65 t0 _ _ _ _ _ _ m18 m65 hJ)
theorem wl_X9_gatherOverwriters_65 (N : Nat) (k18 : Hp → (Option Nat) → Int32 → Int32 → Option (Hp × Unit)) (t0 : Nat) (m18 : ∀ (h : Hp) (x1 : Option Nat) (x3 : Int32) (x4 : Int32), k18 h x1 x3 x4 = some (hz, ()) → Fw h hz) : ∀ (n : Nat) (h : Hp) (x1 : Option Nat) (x3 : Int32) (x4 : Int32) (x6 : Option Nat), L_X9_gatherOverwriters_65 N k18 t0 n h x1 x3 x4 x6 = some (hz, ()) → Fw h hz := by
  intro n
  induction n with
  | zero => intro h x1 x3 x4 x6 hJ; cases hJ
  | succ n ih => intro h x1 x3 x4 x6 hJ; exact wb_X9_gatherOverwriters_65 N k18 (L_X9_gatherOverwriters_65 N k18 t0 n) t0 h x1 x3 x4 x6 m18 ih hJ
theorem wb_X9_gatherOverwriters_39 (N : Nat) (k18 : Hp → (Option Nat) → Int32 → Int32 → Option (Hp × Unit)) (t0 : Nat) (h : Hp) (x1 : Option Nat) (x3 : Int32) (x4 : Int32) (y0 : Option Nat) (m18 : ∀ (h : Hp) (x1 : Option Nat) (x3 : Int32) (x4 : Int32), k18 h x1 x3 x4 = some (hz, ()) → Fw h hz) (hJ : B_X9_gatherOverwriters_39 N k18 t0 h x1 x3 x4 y0 = some (hz, ())) : Fw h hz := by
  unfold B_X9_gatherOverwriters_39 at hJ
  cases ea16 : y0 with
  | none =>
    have hJ := nl_none ea16 hJ
    exact wb_X9_gatherOverwriters_124 N t0 _ hJ
  | some a16 =>
    have hJ := nl_some ea16 hJ
    obtain ⟨-, hJ⟩ := ck_some hJ
    by_cases c18 : (h.fi 600 a16) ≤ x3
    · have hJ := it_pos c18 hJ
      exact wl_X9_gatherOverwriters_65 N k18 t0 m18 N _ _ _ _ _ hJ
    · have hJ := it_neg c18 hJ
      exact wb_X9_gatherOverwriters_124 N t0 _ hJ
theorem wb_X9_gatherOverwriters_27 (N : Nat) (k18 : Hp → (Option Nat) → Int32 → Int32 → Option (Hp × Unit)) (t0 : Nat) (h : Hp) (x1 : Option Nat) (x3 : Int32) (x4 : Int32) (y0 : Int32) (y1 : Int32) (m18 : ∀ (h : Hp) (x1 : Option Nat) (x3 : Int32) (x4 : Int32), k18 h x1 x3 x4 = some (hz, ()) → Fw h hz) (hJ : B_X9_gatherOverwriters_27 N k18 t0 h x1 x3 x4 y0 y1 = some (hz, ())) : Fw h hz := by
  unfold B_X9_gatherOverwriters_27 at hJ
  by_cases c19 : y1 ≤ y0
  · have hJ := it_pos c19 hJ
    exact wb_X9_gatherOverwriters_124 N t0 _ hJ
  · have hJ := it_neg c19 hJ
    obtain ⟨a20, ea20, -, hJ⟩ := dr_some hJ
    obtain ⟨⟨h21, r22⟩, e23, hJ⟩ := ob_some hJ
    exact (wo_X5_chainAt N a20 h x4 e23).tr (wb_X9_gatherOverwriters_39 N k18 t0 _ _ _ _ _ m18 hJ)
theorem wb_X9_gatherOverwriters_18 (N : Nat) (k18 : Hp → (Option Nat) → Int32 → Int32 → Option (Hp × Unit)) (t0 : Nat) (h : Hp) (x1 : Option Nat) (x3 : Int32) (x4 : Int32) (m18 : ∀ (h : Hp) (x1 : Option Nat) (x3 : Int32) (x4 : Int32), k18 h x1 x3 x4 = some (hz, ()) → Fw h hz) (hJ : B_X9_gatherOverwriters_18 N k18 t0 h x1 x3 x4 = some (hz, ())) : Fw h hz := by
  unfold B_X9_gatherOverwriters_18 at hJ
  obtain ⟨a25, ea25, -, hJ⟩ := dr_some hJ
  obtain ⟨⟨h26, r27⟩, e28, hJ⟩ := ob_some hJ
  exact (wo_X5_size N a25 h e28).tr (wb_X9_gatherOverwriters_27 N k18 t0 _ _ _ _ _ _ m18 hJ)
theorem wl_X9_gatherOverwriters_18 (N : Nat) (t0 : Nat) : ∀ (n : Nat) (h : Hp) (x1 : Option Nat) (x3 : Int32) (x4 : Int32), L_X9_gatherOverwriters_18 N t0 n h x1 x3 x4 = some (hz, ()) → Fw h hz := by
  intro n
  induction n with
  | zero => intro h x1 x3 x4 hJ; cases hJ
  | succ n ih => intro h x1 x3 x4 hJ; exact wb_X9_gatherOverwriters_18 N (L_X9_gatherOverwriters_18 N t0 n) t0 h x1 x3 x4 ih hJ
theorem wb_X9_gatherOverwriters_16 (N : Nat) (t0 : Nat) (h : Hp) (x1 : Option Nat) (x3 : Int32) (y0 : Int32) (hJ : B_X9_gatherOverwriters_16 N t0 h x1 x3 y0 = some (hz, ())) : Fw h hz := by
  unfold B_X9_gatherOverwriters_16 at hJ
  exact wl_X9_gatherOverwriters_18 N t0 N _ _ _ _ hJ
theorem wb_X9_gatherOverwriters_7 (N : Nat) (t0 : Nat) (h : Hp) (x1 : Option Nat) (x2 : Int32) (x3 : Int32) (hJ : B_X9_gatherOverwriters_7 N t0 h x1 x2 x3 = some (hz, ())) : Fw h hz := by
  unfold B_X9_gatherOverwriters_7 at hJ
  obtain ⟨a30, ea30, -, hJ⟩ := dr_some hJ
  obtain ⟨⟨h31, r32⟩, e33, hJ⟩ := ob_some hJ
  exact (wo_X5_indexFrom N a30 h x2.toInt64 e33).tr (wb_X9_gatherOverwriters_16 N t0 _ _ _ _ hJ)
theorem wb_X9_gatherOverwriters_0 (N : Nat) (t0 : Nat) (h : Hp) (x1 : Option Nat) (x2 : Int32) (x3 : Int32) (hJ : B_X9_gatherOverwriters_0 N t0 h x1 x2 x3 = some (hz, ())) : Fw h hz := by
  unfold B_X9_gatherOverwriters_0 at hJ
  obtain ⟨a35, ea35, -, hJ⟩ := dr_some hJ
  obtain ⟨⟨h36, r37⟩, e38, hJ⟩ := ob_some hJ
  exact (wo_Jx4a65c_clear_da8c8 N a35 h e38).tr (wb_X9_gatherOverwriters_7 N t0 _ _ _ _ hJ)
theorem wo_X9_gatherOverwriters (N : Nat) (t0 : Nat) (h : Hp) (x1 : Option Nat) (x2 : Int32) (x3 : Int32) (hJ : J_X9_gatherOverwriters N t0 h x1 x2 x3 = some (hz, ())) : Fw h hz := wb_X9_gatherOverwriters_0 N t0 h x1 x2 x3 hJ
end V_X9_gatherOverwriters
section V_X9_lookAt
variable {hz : Hp} {rz : Int32}
theorem wb_X9_lookAt_32 (N : Nat) (t0 : Nat) (h : Hp) (hJ : B_X9_lookAt_32 N t0 h = some (hz, rz)) : Fw h hz := by
  unfold B_X9_lookAt_32 at hJ
  obtain ⟨rfl, -⟩ := rs2 hJ
  exact (Fw.rf h)
theorem wb_X9_lookAt_26 (N : Nat) (t0 : Nat) (h : Hp) (x1 : Option Nat) (hJ : B_X9_lookAt_26 N t0 h x1 = some (hz, rz)) : Fw h hz := by
  unfold B_X9_lookAt_26 at hJ
  obtain ⟨⟨h1, r2⟩, e3, hJ⟩ := ob_some hJ
  exact (wo_X9_end N t0 h x1 (5 : Int32) e3).tr (wb_X9_lookAt_32 N t0 _ hJ)
theorem wb_X9_lookAt_95 (N : Nat) (k46 : Hp → (Option Nat) → Int32 → Option (Hp × Int32)) (t0 : Nat) (h : Hp) (x1 : Option Nat) (x5 : Int32) (m46 : ∀ (h : Hp) (x1 : Option Nat) (x5 : Int32), k46 h x1 x5 = some (hz, rz) → Fw h hz) (hJ : B_X9_lookAt_95 N k46 t0 h x1 x5 = some (hz, rz)) : Fw h hz := by
  unfold B_X9_lookAt_95 at hJ
  exact m46 _ _ _ hJ
theorem wb_X9_lookAt_75 (N : Nat) (k46 : Hp → (Option Nat) → Int32 → Option (Hp × Int32)) (t0 : Nat) (h : Hp) (x1 : Option Nat) (x5 : Int32) (y0 : Option Nat) (m46 : ∀ (h : Hp) (x1 : Option Nat) (x5 : Int32), k46 h x1 x5 = some (hz, rz) → Fw h hz) (hJ : B_X9_lookAt_75 N k46 t0 h x1 x5 y0 = some (hz, rz)) : Fw h hz := by
  unfold B_X9_lookAt_75 at hJ
  obtain ⟨a5, ea5, -, hJ⟩ := dr_some hJ
  obtain ⟨a6, ea6, -, hJ⟩ := dr_some hJ
  obtain ⟨⟨h7, r8⟩, e9, hJ⟩ := ob_some hJ
  exact (Fw.tr (show Fw h (h.sfi 1009 a5 (1 : Int32)) from (Fw.rf h)) ((wo_X7_noteOut N a6 (h.sfi 1009 a5 (1 : Int32)) ((h.sfi 1009 a5 (1 : Int32)).fi 1007 a5) e9).tr (wb_X9_lookAt_95 N k46 t0 _ _ _ m46 hJ)))
theorem wb_X9_lookAt_101 (N : Nat) (t0 : Nat) (h : Hp) (hJ : B_X9_lookAt_101 N t0 h = some (hz, rz)) : Fw h hz := by
  unfold B_X9_lookAt_101 at hJ
  obtain ⟨rfl, -⟩ := rs2 hJ
  exact (Fw.rf h)
theorem wb_X9_lookAt_55 (N : Nat) (k46 : Hp → (Option Nat) → Int32 → Option (Hp × Int32)) (t0 : Nat) (h : Hp) (x1 : Option Nat) (x5 : Int32) (y0 : Int32) (y1 : Int32) (m46 : ∀ (h : Hp) (x1 : Option Nat) (x5 : Int32), k46 h x1 x5 = some (hz, rz) → Fw h hz) (hJ : B_X9_lookAt_55 N k46 t0 h x1 x5 y0 y1 = some (hz, rz)) : Fw h hz := by
  unfold B_X9_lookAt_55 at hJ
  by_cases c11 : y1 ≤ y0
  · have hJ := it_pos c11 hJ
    exact wb_X9_lookAt_101 N t0 _ hJ
  · have hJ := it_neg c11 hJ
    obtain ⟨a12, ea12, -, hJ⟩ := dr_some hJ
    by_cases c13 : (h.fi 1005 a12) = (2 : Int32)
    · have hJ := it_pos c13 hJ
      exact wb_X9_lookAt_101 N t0 _ hJ
    · have hJ := it_neg c13 hJ
      obtain ⟨a14, ea14, -, hJ⟩ := dr_some hJ
      obtain ⟨⟨h15, r16⟩, e17, hJ⟩ := ob_some hJ
      exact (wo_Jx4a65c_get_915e3 N a14 h x5 e17).tr (wb_X9_lookAt_75 N k46 t0 _ _ _ _ m46 hJ)
theorem wb_X9_lookAt_46 (N : Nat) (k46 : Hp → (Option Nat) → Int32 → Option (Hp × Int32)) (t0 : Nat) (h : Hp) (x1 : Option Nat) (x5 : Int32) (m46 : ∀ (h : Hp) (x1 : Option Nat) (x5 : Int32), k46 h x1 x5 = some (hz, rz) → Fw h hz) (hJ : B_X9_lookAt_46 N k46 t0 h x1 x5 = some (hz, rz)) : Fw h hz := by
  unfold B_X9_lookAt_46 at hJ
  obtain ⟨a19, ea19, -, hJ⟩ := dr_some hJ
  obtain ⟨⟨h20, r21⟩, e22, hJ⟩ := ob_some hJ
  exact (wo_Jx4a65c_size_8abf5 N a19 h e22).tr (wb_X9_lookAt_55 N k46 t0 _ _ _ _ _ m46 hJ)
theorem wl_X9_lookAt_46 (N : Nat) (t0 : Nat) : ∀ (n : Nat) (h : Hp) (x1 : Option Nat) (x5 : Int32), L_X9_lookAt_46 N t0 n h x1 x5 = some (hz, rz) → Fw h hz := by
  intro n
  induction n with
  | zero => intro h x1 x5 hJ; cases hJ
  | succ n ih => intro h x1 x5 hJ; exact wb_X9_lookAt_46 N (L_X9_lookAt_46 N t0 n) t0 h x1 x5 ih hJ
theorem wb_X9_lookAt_43 (N : Nat) (t0 : Nat) (h : Hp) (x1 : Option Nat) (hJ : B_X9_lookAt_43 N t0 h x1 = some (hz, rz)) : Fw h hz := by
  unfold B_X9_lookAt_43 at hJ
  exact wl_X9_lookAt_46 N t0 N _ _ _ hJ
theorem wb_X9_lookAt_12 (N : Nat) (t0 : Nat) (h : Hp) (x1 : Option Nat) (x2 : Int32) (x3 : Int32) (y0 : Option Nat) (hJ : B_X9_lookAt_12 N t0 h x1 x2 x3 y0 = some (hz, rz)) : Fw h hz := by
  unfold B_X9_lookAt_12 at hJ
  cases ea24 : y0 with
  | none =>
    have hJ := nl_none ea24 hJ
    obtain ⟨a25, ea25, -, hJ⟩ := dr_some hJ
    obtain ⟨a26, ea26, -, hJ⟩ := dr_some hJ
    obtain ⟨⟨h27, r28⟩, e29, hJ⟩ := ob_some hJ
    exact (wo_X6_add N a26 h x2 x3 e29).tr (wb_X9_lookAt_43 N t0 _ _ hJ)
  | some a24 =>
    have hJ := nl_some ea24 hJ
    obtain ⟨⟨h31, r32⟩, e33, hJ⟩ := ob_some hJ
    exact (wo_X9_blameDanger N t0 h x1 (some a24) e33).tr (wb_X9_lookAt_26 N t0 _ _ hJ)
theorem wb_X9_lookAt_7 (N : Nat) (t0 : Nat) (h : Hp) (x1 : Option Nat) (x2 : Int32) (x3 : Int32) (hJ : B_X9_lookAt_7 N t0 h x1 x2 x3 = some (hz, rz)) : Fw h hz := by
  unfold B_X9_lookAt_7 at hJ
  obtain ⟨⟨h35, r36⟩, e37, hJ⟩ := ob_some hJ
  exact (wo_X9_forbiddenOverwriter N t0 h x1 e37).tr (wb_X9_lookAt_12 N t0 _ _ _ _ _ hJ)
theorem wb_X9_lookAt_0 (N : Nat) (t0 : Nat) (h : Hp) (x1 : Option Nat) (x2 : Int32) (x3 : Int32) (hJ : B_X9_lookAt_0 N t0 h x1 x2 x3 = some (hz, rz)) : Fw h hz := by
  unfold B_X9_lookAt_0 at hJ
  obtain ⟨⟨h39, r40⟩, e41, hJ⟩ := ob_some hJ
  exact (wo_X9_gatherOverwriters N t0 h x1 x2 x3 e41).tr (wb_X9_lookAt_7 N t0 _ _ _ _ hJ)
theorem wo_X9_lookAt (N : Nat) (t0 : Nat) (h : Hp) (x1 : Option Nat) (x2 : Int32) (x3 : Int32) (hJ : J_X9_lookAt N t0 h x1 x2 x3 = some (hz, rz)) : Fw h hz := wb_X9_lookAt_0 N t0 h x1 x2 x3 hJ
end V_X9_lookAt
section V_X9_carryOut
variable {hz : Hp} {rz : Int32}
theorem wb_X9_carryOut_130 (N : Nat) (t0 : Nat) (h : Hp) (hJ : B_X9_carryOut_130 N t0 h = some (hz, rz)) : Fw h hz := by
  unfold B_X9_carryOut_130 at hJ
  obtain ⟨a1, ea1, -, hJ⟩ := dr_some hJ
  obtain ⟨rfl, -⟩ := rs2 hJ
  exact (Fw.rf h)
theorem wb_X9_carryOut_98 (N : Nat) (t0 : Nat) (h : Hp) (hJ : B_X9_carryOut_98 N t0 h = some (hz, rz)) : Fw h hz := by
  unfold B_X9_carryOut_98 at hJ
  obtain ⟨a2, ea2, -, hJ⟩ := dr_some hJ
  by_cases c3 : (h.fi 301 a2) = 0
  · have hJ := it_pos c3 hJ
    exact wb_X9_carryOut_130 N t0 _ hJ
  · have hJ := it_neg c3 hJ
    obtain ⟨a4, ea4, -, hJ⟩ := dr_some hJ
    obtain ⟨a5, ea5, -, hJ⟩ := dr_some hJ
    exact (Fw.tr (show Fw h ((h.sfi 1209 t0 (h.fi 302 a4)).sfl 1210 t0 ((h.sfi 1209 t0 (h.fi 302 a4)).fl 303 a5)) from (Fw.rf h)) (wb_X9_carryOut_130 N t0 _ hJ))
theorem wb_X9_carryOut_82 (N : Nat) (t0 : Nat) (h : Hp) (x2 : Option Nat) (hJ : B_X9_carryOut_82 N t0 h x2 = some (hz, rz)) : Fw h hz := by
  unfold B_X9_carryOut_82 at hJ
  obtain ⟨a6, ea6, -, hJ⟩ := dr_some hJ
  by_cases c7 : (h.fi 500 a6) = (2 : Int32)
  · have hJ := it_pos c7 hJ
    exact (Fw.tr (show Fw h (h.sfr 1211 t0 (h.fr 506 a6)) from (Fw.rf h)) (wb_X9_carryOut_98 N t0 _ hJ))
  · have hJ := it_neg c7 hJ
    exact wb_X9_carryOut_98 N t0 _ hJ
theorem wb_X9_carryOut_79 (N : Nat) (t0 : Nat) (h : Hp) (x2 : Option Nat) (y0 : Option Nat) (y1 : Option Nat) (hJ : B_X9_carryOut_79 N t0 h x2 y0 y1 = some (hz, rz)) : Fw h hz := by
  unfold B_X9_carryOut_79 at hJ
  obtain ⟨a8, ea8, -, hJ⟩ := dr_some hJ
  exact (Fw.tr (show Fw h (h.sfr 506 a8 y1) from (Fw.rf h)) (wb_X9_carryOut_82 N t0 _ _ hJ))
theorem wb_X9_carryOut_68 (N : Nat) (t0 : Nat) (h : Hp) (x2 : Option Nat) (y0 : Int32) (hJ : B_X9_carryOut_68 N t0 h x2 y0 = some (hz, rz)) : Fw h hz := by
  unfold B_X9_carryOut_68 at hJ
  by_cases c9 : y0 = 0
  · have hJ := it_pos c9 hJ
    exact wb_X9_carryOut_82 N t0 _ _ hJ
  · have hJ := it_neg c9 hJ
    obtain ⟨a10, ea10, -, hJ⟩ := dr_some hJ
    obtain ⟨⟨h11, r12⟩, e13, hJ⟩ := ob_some hJ
    exact (wo_X0_copy N a10 h e13).tr (wb_X9_carryOut_79 N t0 _ _ _ _ hJ)
theorem wb_X9_carryOut_63 (N : Nat) (t0 : Nat) (h : Hp) (x2 : Option Nat) (y0 : Int32) (hJ : B_X9_carryOut_63 N t0 h x2 y0 = some (hz, rz)) : Fw h hz := by
  unfold B_X9_carryOut_63 at hJ
  obtain ⟨a15, ea15, -, hJ⟩ := dr_some hJ
  obtain ⟨⟨h16, r17⟩, e18, hJ⟩ := ob_some hJ
  exact (wo_X2_isLooking N a15 h e18).tr (wb_X9_carryOut_68 N t0 _ _ _ hJ)
theorem wb_X9_carryOut_55 (N : Nat) (t0 : Nat) (h : Hp) (x1 : Option Nat) (x2 : Option Nat) (hJ : B_X9_carryOut_55 N t0 h x1 x2 = some (hz, rz)) : Fw h hz := by
  unfold B_X9_carryOut_55 at hJ
  obtain ⟨a20, ea20, -, hJ⟩ := dr_some hJ
  obtain ⟨a21, ea21, -, hJ⟩ := dr_some hJ
  obtain ⟨⟨h22, r23⟩, e24, hJ⟩ := ob_some hJ
  exact (wo_Jx4a65c_add_9ea2d N a21 h x2 e24).tr (wb_X9_carryOut_63 N t0 _ _ _ hJ)
theorem wb_X9_carryOut_50 (N : Nat) (t0 : Nat) (h : Hp) (x1 : Option Nat) (x2 : Option Nat) (y0 : Int32) (hJ : B_X9_carryOut_50 N t0 h x1 x2 y0 = some (hz, rz)) : Fw h hz := by
  unfold B_X9_carryOut_50 at hJ
  by_cases c26 : y0 = 0
  · have hJ := it_pos c26 hJ
    obtain ⟨rfl, -⟩ := rs2 hJ
    exact (Fw.rf h)
  · have hJ := it_neg c26 hJ
    exact wb_X9_carryOut_55 N t0 _ _ _ hJ
theorem wb_X9_carryOut_21 (N : Nat) (t0 : Nat) (h : Hp) (x1 : Option Nat) (x2 : Option Nat) (hJ : B_X9_carryOut_21 N t0 h x1 x2 = some (hz, rz)) : Fw h hz := by
  unfold B_X9_carryOut_21 at hJ
  obtain ⟨a27, ea27, -, hJ⟩ := dr_some hJ
  by_cases c28 : (h.fi 304 a27) = 0
  · have hJ := it_pos c28 hJ
    exact wb_X9_carryOut_55 N t0 _ _ _ hJ
  · have hJ := it_neg c28 hJ
    obtain ⟨a29, ea29, -, hJ⟩ := dr_some hJ
    obtain ⟨a30, ea30, -, hJ⟩ := dr_some hJ
    obtain ⟨⟨h31, r32⟩, e33, hJ⟩ := ob_some hJ
    exact (wo_X9_lookAt N t0 h x1 (h.fi 305 a29) (h.fi 306 a30) e33).tr (wb_X9_carryOut_50 N t0 _ _ _ _ hJ)
theorem wb_X9_carryOut_4 (N : Nat) (t0 : Nat) (h : Hp) (x1 : Option Nat) (x2 : Option Nat) (y0 : Int32) (hJ : B_X9_carryOut_4 N t0 h x1 x2 y0 = some (hz, rz)) : Fw h hz := by
  unfold B_X9_carryOut_4 at hJ
  by_cases c35 : y0 = 0
  · have hJ := it_pos c35 hJ
    obtain ⟨rfl, -⟩ := rs2 hJ
    exact (Fw.rf h)
  · have hJ := it_neg c35 hJ
    obtain ⟨a36, ea36, -, hJ⟩ := dr_some hJ
    obtain ⟨a37, ea37, -, hJ⟩ := dr_some hJ
    obtain ⟨⟨h38, r39⟩, e40, hJ⟩ := ob_some hJ
    exact (wo_X2_carryOut N a37 h (h.fr 1002 a36) (h.fr 1206 t0) e40).tr (wb_X9_carryOut_21 N t0 _ _ _ hJ)
theorem wb_X9_carryOut_0 (N : Nat) (t0 : Nat) (h : Hp) (x1 : Option Nat) (x2 : Option Nat) (hJ : B_X9_carryOut_0 N t0 h x1 x2 = some (hz, rz)) : Fw h hz := by
  unfold B_X9_carryOut_0 at hJ
  obtain ⟨⟨h42, r43⟩, e44, hJ⟩ := ob_some hJ
  exact (wo_X9_takeRecord N t0 h e44).tr (wb_X9_carryOut_4 N t0 _ _ _ _ hJ)
theorem wo_X9_carryOut (N : Nat) (t0 : Nat) (h : Hp) (x1 : Option Nat) (x2 : Option Nat) (hJ : J_X9_carryOut N t0 h x1 x2 = some (hz, rz)) : Fw h hz := wb_X9_carryOut_0 N t0 h x1 x2 hJ
end V_X9_carryOut
