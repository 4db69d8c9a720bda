section V_X10_value
variable {hz : Hp} {rz : Int64}
theorem wb_X10_value_0 (N : Nat) (t0 : Nat) (h : Hp) (hJ : B_X10_value_0 N t0 h = some (hz, rz)) : Fw h hz := by
  unfold B_X10_value_0 at hJ
  obtain ⟨rfl, -⟩ := rs2 hJ
  exact (Fw.rf h)
theorem wo_X10_value (N : Nat) (t0 : Nat) (h : Hp) (hJ : J_X10_value N t0 h = some (hz, rz)) : Fw h hz := wb_X10_value_0 N t0 h hJ
end V_X10_value
section V_X10_key
variable {hz : Hp} {rz : Int32}
theorem wb_X10_key_0 (N : Nat) (t0 : Nat) (h : Hp) (hJ : B_X10_key_0 N t0 h = some (hz, rz)) : Fw h hz := by
  unfold B_X10_key_0 at hJ
  obtain ⟨rfl, -⟩ := rs2 hJ
  exact (Fw.rf h)
theorem wo_X10_key (N : Nat) (t0 : Nat) (h : Hp) (hJ : J_X10_key N t0 h = some (hz, rz)) : Fw h hz := wb_X10_key_0 N t0 h hJ
end V_X10_key
section V_X10_scan
variable {hz : Hp} {rz : Int32}
theorem wb_X10_scan_38 (N : Nat) (t0 : Nat) (h : Hp) (hJ : B_X10_scan_38 N t0 h = some (hz, rz)) : Fw h hz := by
  unfold B_X10_scan_38 at hJ
  obtain ⟨rfl, -⟩ := rs2 hJ
  exact (Fw.rf h)
theorem wb_X10_scan_172 (N : Nat) (k58 : Hp → Int32 → Int32 → Int32 → Int32 → Int32 → Int32 → Int32 → Option (Hp × Int32)) (t0 : Nat) (h : Hp) (x1 : Int32) (x2 : Int32) (x3 : Int32) (x4 : Int32) (x5 : Int32) (x6 : Int32) (x7 : Int32) (m58 : ∀ (h : Hp) (x1 : Int32) (x2 : Int32) (x3 : Int32) (x4 : Int32) (x5 : Int32) (x6 : Int32) (x7 : Int32), k58 h x1 x2 x3 x4 x5 x6 x7 = some (hz, rz) → Fw h hz) (hJ : B_X10_scan_172 N k58 t0 h x1 x2 x3 x4 x5 x6 x7 = some (hz, rz)) : Fw h hz := by
  unfold B_X10_scan_172 at hJ
  exact m58 _ _ _ _ _ _ _ _ hJ
theorem wb_X10_scan_170 (N : Nat) (k58 : Hp → Int32 → Int32 → Int32 → Int32 → Int32 → Int32 → Int32 → Option (Hp × Int32)) (t0 : Nat) (h : Hp) (x1 : Int32) (x2 : Int32) (x3 : Int32) (x4 : Int32) (x5 : Int32) (x7 : Int32) (y0 : Int32) (m58 : ∀ (h : Hp) (x1 : Int32) (x2 : Int32) (x3 : Int32) (x4 : Int32) (x5 : Int32) (x6 : Int32) (x7 : Int32), k58 h x1 x2 x3 x4 x5 x6 x7 = some (hz, rz) → Fw h hz) (hJ : B_X10_scan_170 N k58 t0 h x1 x2 x3 x4 x5 x7 y0 = some (hz, rz)) : Fw h hz := by
  unfold B_X10_scan_170 at hJ
  exact wb_X10_scan_172 N k58 t0 _ _ _ _ _ _ _ _ m58 hJ
theorem wb_X10_scan_108 (N : Nat) (k58 : Hp → Int32 → Int32 → Int32 → Int32 → Int32 → Int32 → Int32 → Option (Hp × Int32)) (t0 : Nat) (h : Hp) (x1 : Int32) (x2 : Int32) (x3 : Int32) (x4 : Int32) (x5 : Int32) (x6 : Int32) (x7 : Int32) (y0 : Int32) (m58 : ∀ (h : Hp) (x1 : Int32) (x2 : Int32) (x3 : Int32) (x4 : Int32) (x5 : Int32) (x6 : Int32) (x7 : Int32), k58 h x1 x2 x3 x4 x5 x6 x7 = some (hz, rz) → Fw h hz) (hJ : B_X10_scan_108 N k58 t0 h x1 x2 x3 x4 x5 x6 x7 y0 = some (hz, rz)) : Fw h hz := by
  unfold B_X10_scan_108 at hJ
  by_cases c1 : y0 = 0
  · have hJ := it_pos c1 hJ
    exact wb_X10_scan_172 N k58 t0 _ _ _ _ _ _ _ _ m58 hJ
  · have hJ := it_neg c1 hJ
    obtain ⟨a2, ea2, -, hJ⟩ := dr_some hJ
    obtain ⟨-, hJ⟩ := ck_some hJ
    obtain ⟨a4, ea4, -, hJ⟩ := dr_some hJ
    obtain ⟨-, hJ⟩ := ck_some hJ
    obtain ⟨a6, ea6, -, hJ⟩ := dr_some hJ
    obtain ⟨-, hJ⟩ := ck_some hJ
    by_cases c8 : (x5 + (1 : Int32)) = x4
    · have hJ := it_pos c8 hJ
      obtain ⟨a9, ea9, -, hJ⟩ := dr_some hJ
      obtain ⟨-, hJ⟩ := ck_some hJ
      exact (Fw.tr (show Fw h ((h.sbi a4 ((h.gi 1342 t0) + x5).toNatClampNeg (h.bi a2 x7.toNatClampNeg)).sbw a6 (((h.sbi a4 ((h.gi 1342 t0) + x5).toNatClampNeg (h.bi a2 x7.toNatClampNeg)).gi 1342 t0) + x5).toNatClampNeg ((h.sbi a4 ((h.gi 1342 t0) + x5).toNatClampNeg (h.bi a2 x7.toNatClampNeg)).gl 1351 t0)) from (Fw.rf h)) (wb_X10_scan_170 N k58 t0 _ _ _ _ _ _ _ _ m58 hJ))
    · have hJ := it_neg c8 hJ
      exact (Fw.tr (show Fw h ((h.sbi a4 ((h.gi 1342 t0) + x5).toNatClampNeg (h.bi a2 x7.toNatClampNeg)).sbw a6 (((h.sbi a4 ((h.gi 1342 t0) + x5).toNatClampNeg (h.bi a2 x7.toNatClampNeg)).gi 1342 t0) + x5).toNatClampNeg ((h.sbi a4 ((h.gi 1342 t0) + x5).toNatClampNeg (h.bi a2 x7.toNatClampNeg)).gl 1351 t0)) from (Fw.rf h)) (wb_X10_scan_170 N k58 t0 _ _ _ _ _ _ _ _ m58 hJ))
theorem wb_X10_scan_237 (N : Nat) (t0 : Nat) (h : Hp) (x5 : Int32) (hJ : B_X10_scan_237 N t0 h x5 = some (hz, rz)) : Fw h hz := by
  unfold B_X10_scan_237 at hJ
  obtain ⟨rfl, -⟩ := rs2 hJ
  exact (Fw.rf h)
theorem wb_X10_scan_198 (N : Nat) (t0 : Nat) (h : Hp) (x3 : Int32) (x4 : Int32) (x5 : Int32) (y0 : Int32) (hJ : B_X10_scan_198 N t0 h x3 x4 x5 y0 = some (hz, rz)) : Fw h hz := by
  unfold B_X10_scan_198 at hJ
  obtain ⟨a11, ea11, -, hJ⟩ := dr_some hJ
  obtain ⟨-, hJ⟩ := ck_some hJ
  obtain ⟨a13, ea13, -, hJ⟩ := dr_some hJ
  obtain ⟨-, hJ⟩ := ck_some hJ
  obtain ⟨a15, ea15, -, hJ⟩ := dr_some hJ
  obtain ⟨-, hJ⟩ := ck_some hJ
  obtain ⟨a17, ea17, -, hJ⟩ := dr_some hJ
  obtain ⟨-, hJ⟩ := ck_some hJ
  exact (Fw.tr (show Fw h ((((h.sbi a11 y0.toNatClampNeg x3).sbi a13 y0.toNatClampNeg x4).sbi a15 y0.toNatClampNeg x5).sbi a17 y0.toNatClampNeg ((((h.sbi a11 y0.toNatClampNeg x3).sbi a13 y0.toNatClampNeg x4).sbi a15 y0.toNatClampNeg x5).gi 1342 t0)) from (Fw.rf h)) (wb_X10_scan_237 N t0 _ _ hJ))
theorem wb_X10_scan_186 (N : Nat) (t0 : Nat) (h : Hp) (x1 : Int32) (x2 : Int32) (x3 : Int32) (x4 : Int32) (x5 : Int32) (y0 : Int32) (hJ : B_X10_scan_186 N t0 h x1 x2 x3 x4 x5 y0 = some (hz, rz)) : Fw h hz := by
  unfold B_X10_scan_186 at hJ
  by_cases c19 : y0 = 0
  · have hJ := it_pos c19 hJ
    obtain ⟨rfl, -⟩ := rs2 hJ
    exact (Fw.rf h)
  · have hJ := it_neg c19 hJ
    obtain ⟨⟨h20, r21⟩, e22, hJ⟩ := ob_some hJ
    exact (wo_X10_log N t0 h (4 : Int32) x1 x2 e22).tr (wb_X10_scan_198 N t0 _ _ _ _ _ hJ)
theorem wb_X10_scan_178 (N : Nat) (t0 : Nat) (h : Hp) (x1 : Int32) (x2 : Int32) (x3 : Int32) (x4 : Int32) (x5 : Int32) (x6 : Int32) (hJ : B_X10_scan_178 N t0 h x1 x2 x3 x4 x5 x6 = some (hz, rz)) : Fw h hz := by
  unfold B_X10_scan_178 at hJ
  obtain ⟨⟨h24, r25⟩, e26, hJ⟩ := ob_some hJ
  exact (wo_X10_looks N t0 h x1 x2 x6 e26).tr (wb_X10_scan_186 N t0 _ _ _ _ _ _ _ hJ)
theorem wb_X10_scan_58 (N : Nat) (k58 : Hp → Int32 → Int32 → Int32 → Int32 → Int32 → Int32 → Int32 → Option (Hp × Int32)) (t0 : Nat) (h : Hp) (x1 : Int32) (x2 : Int32) (x3 : Int32) (x4 : Int32) (x5 : Int32) (x6 : Int32) (x7 : Int32) (m58 : ∀ (h : Hp) (x1 : Int32) (x2 : Int32) (x3 : Int32) (x4 : Int32) (x5 : Int32) (x6 : Int32) (x7 : Int32), k58 h x1 x2 x3 x4 x5 x6 x7 = some (hz, rz) → Fw h hz) (hJ : B_X10_scan_58 N k58 t0 h x1 x2 x3 x4 x5 x6 x7 = some (hz, rz)) : Fw h hz := by
  unfold B_X10_scan_58 at hJ
  by_cases c28 : (h.gi 1353 t0) ≤ x7
  · have hJ := it_pos c28 hJ
    exact wb_X10_scan_178 N t0 _ _ _ _ _ _ _ hJ
  · have hJ := it_neg c28 hJ
    by_cases c29 : x4 ≤ x5
    · have hJ := it_pos c29 hJ
      exact wb_X10_scan_178 N t0 _ _ _ _ _ _ _ hJ
    · have hJ := it_neg c29 hJ
      obtain ⟨a30, ea30, -, hJ⟩ := dr_some hJ
      obtain ⟨-, hJ⟩ := ck_some hJ
      by_cases c32 : (h.bi a30 x7.toNatClampNeg) < x2
      · have hJ := it_pos c32 hJ
        exact wb_X10_scan_172 N k58 t0 _ _ _ _ _ _ _ _ m58 hJ
      · have hJ := it_neg c32 hJ
        obtain ⟨a33, ea33, -, hJ⟩ := dr_some hJ
        obtain ⟨-, hJ⟩ := ck_some hJ
        by_cases c35 : x3 < (h.bi a33 x7.toNatClampNeg)
        · have hJ := it_pos c35 hJ
          exact wb_X10_scan_172 N k58 t0 _ _ _ _ _ _ _ _ m58 hJ
        · have hJ := it_neg c35 hJ
          obtain ⟨a36, ea36, -, hJ⟩ := dr_some hJ
          obtain ⟨-, hJ⟩ := ck_some hJ
          obtain ⟨⟨h38, r39⟩, e40, hJ⟩ := ob_some hJ
          exact (wo_X10_sees N t0 h x1 (h.bi a36 x7.toNatClampNeg) e40).tr (wb_X10_scan_108 N k58 t0 _ _ _ _ _ _ _ _ _ m58 hJ)
theorem wl_X10_scan_58 (N : Nat) (t0 : Nat) : ∀ (n : Nat) (h : Hp) (x1 : Int32) (x2 : Int32) (x3 : Int32) (x4 : Int32) (x5 : Int32) (x6 : Int32) (x7 : Int32), L_X10_scan_58 N t0 n h x1 x2 x3 x4 x5 x6 x7 = some (hz, rz) → Fw h hz := by
  intro n
  induction n with
  | zero => intro h x1 x2 x3 x4 x5 x6 x7 hJ; cases hJ
  | succ n ih => intro h x1 x2 x3 x4 x5 x6 x7 hJ; exact wb_X10_scan_58 N (L_X10_scan_58 N t0 n) t0 h x1 x2 x3 x4 x5 x6 x7 ih hJ
theorem wb_X10_scan_49 (N : Nat) (t0 : Nat) (h : Hp) (x1 : Int32) (x2 : Int32) (x3 : Int32) (x4 : Int32) (hJ : B_X10_scan_49 N t0 h x1 x2 x3 x4 = some (hz, rz)) : Fw h hz := by
  unfold B_X10_scan_49 at hJ
  exact wl_X10_scan_58 N t0 N _ _ _ _ _ _ _ _ hJ
theorem wb_X10_scan_15 (N : Nat) (t0 : Nat) (h : Hp) (x1 : Int32) (x2 : Int32) (x3 : Int32) (x4 : Int32) (y0 : Int32) (hJ : B_X10_scan_15 N t0 h x1 x2 x3 x4 y0 = some (hz, rz)) : Fw h hz := by
  unfold B_X10_scan_15 at hJ
  by_cases c42 : y0 = 0
  · have hJ := it_pos c42 hJ
    by_cases c43 : x3 < x2
    · have hJ := it_pos c43 hJ
      exact wb_X10_scan_38 N t0 _ hJ
    · have hJ := it_neg c43 hJ
      by_cases c44 : x4 < (1 : Int32)
      · have hJ := it_pos c44 hJ
        exact wb_X10_scan_38 N t0 _ hJ
      · have hJ := it_neg c44 hJ
        by_cases c45 : x4 ≤ (100 : Int32)
        · have hJ := it_pos c45 hJ
          obtain ⟨⟨h46, r47⟩, e48, hJ⟩ := ob_some hJ
          exact (wo_X10_gatherKeys N t0 h e48).tr (wb_X10_scan_49 N t0 _ _ _ _ _ hJ)
        · have hJ := it_neg c45 hJ
          exact wb_X10_scan_38 N t0 _ hJ
  · have hJ := it_neg c42 hJ
    obtain ⟨rfl, -⟩ := rs2 hJ
    exact (Fw.rf h)
theorem wb_X10_scan_0 (N : Nat) (t0 : Nat) (h : Hp) (x1 : Int32) (x2 : Int32) (x3 : Int32) (x4 : Int32) (hJ : B_X10_scan_0 N t0 h x1 x2 x3 x4 = some (hz, rz)) : Fw h hz := by
  unfold B_X10_scan_0 at hJ
  obtain ⟨⟨h50, r51⟩, e52, hJ⟩ := ob_some hJ
  exact (Fw.tr (show Fw h (h.sgi 1313 t0 ((h.gi 1313 t0) + (1 : Int32))) from (Fw.rf h)) ((wo_X10_isIdle N t0 (h.sgi 1313 t0 ((h.gi 1313 t0) + (1 : Int32))) x1 e52).tr (wb_X10_scan_15 N t0 _ _ _ _ _ _ hJ)))
theorem wo_X10_scan (N : Nat) (t0 : Nat) (h : Hp) (x1 : Int32) (x2 : Int32) (x3 : Int32) (x4 : Int32) (hJ : J_X10_scan N t0 h x1 x2 x3 x4 = some (hz, rz)) : Fw h hz := wb_X10_scan_0 N t0 h x1 x2 x3 x4 hJ
end V_X10_scan
section V_X10_isRow
variable {hz : Hp} {rz : Int32}
theorem wb_X10_isRow_33 (N : Nat) (t0 : Nat) (h : Hp) (y0 : Int32) (hJ : B_X10_isRow_33 N t0 h y0 = some (hz, rz)) : Fw h hz := by
  unfold B_X10_isRow_33 at hJ
  obtain ⟨-, hJ⟩ := ck_some hJ
  obtain ⟨rfl, -⟩ := rs2 hJ
  exact (Fw.rf h)
theorem wb_X10_isRow_18 (N : Nat) (t0 : Nat) (h : Hp) (y0 : Option Nat) (y1 : Int32) (hJ : B_X10_isRow_18 N t0 h y0 y1 = some (hz, rz)) : Fw h hz := by
  unfold B_X10_isRow_18 at hJ
  obtain ⟨a2, ea2, -, hJ⟩ := dr_some hJ
  by_cases c3 : ((h.sgi 1300 a2 y1).gi 1300 t0) = 0
  · have hJ := it_pos c3 hJ
    exact (Fw.tr (show Fw h (h.sgi 1300 a2 y1) from (Fw.rf h)) (wb_X10_isRow_33 N t0 _ _ hJ))
  · have hJ := it_neg c3 hJ
    exact (Fw.tr (show Fw h (h.sgi 1300 a2 y1) from (Fw.rf h)) (wb_X10_isRow_33 N t0 _ _ hJ))
theorem wb_X10_isRow_13 (N : Nat) (t0 : Nat) (h : Hp) (y0 : Option Nat) (hJ : B_X10_isRow_13 N t0 h y0 = some (hz, rz)) : Fw h hz := by
  unfold B_X10_isRow_13 at hJ
  exact wb_X10_isRow_18 N t0 _ _ _ hJ
theorem wb_X10_isRow_0 (N : Nat) (t0 : Nat) (h : Hp) (x1 : Int32) (hJ : B_X10_isRow_0 N t0 h x1 = some (hz, rz)) : Fw h hz := by
  unfold B_X10_isRow_0 at hJ
  by_cases c4 : x1 < 0
  · have hJ := it_pos c4 hJ
    exact wb_X10_isRow_13 N t0 _ _ hJ
  · have hJ := it_neg c4 hJ
    by_cases c5 : x1 < (h.gi 1346 t0)
    · have hJ := it_pos c5 hJ
      exact wb_X10_isRow_18 N t0 _ _ _ hJ
    · have hJ := it_neg c5 hJ
      exact wb_X10_isRow_13 N t0 _ _ hJ
theorem wo_X10_isRow (N : Nat) (t0 : Nat) (h : Hp) (x1 : Int32) (hJ : J_X10_isRow N t0 h x1 = some (hz, rz)) : Fw h hz := wb_X10_isRow_0 N t0 h x1 hJ
end V_X10_isRow
section V_X10_rowKey
variable {hz : Hp} {rz : Int32}
theorem wb_X10_rowKey_23 (N : Nat) (t0 : Nat) (h : Hp) (y0 : Int32) (hJ : B_X10_rowKey_23 N t0 h y0 = some (hz, rz)) : Fw h hz := by
  unfold B_X10_rowKey_23 at hJ
  obtain ⟨rfl, -⟩ := rs2 hJ
  exact (Fw.rf h)
theorem wb_X10_rowKey_5 (N : Nat) (t0 : Nat) (h : Hp) (x1 : Int32) (y0 : Int32) (hJ : B_X10_rowKey_5 N t0 h x1 y0 = some (hz, rz)) : Fw h hz := by
  unfold B_X10_rowKey_5 at hJ
  by_cases c1 : y0 = 0
  · have hJ := it_pos c1 hJ
    exact wb_X10_rowKey_23 N t0 _ _ hJ
  · have hJ := it_neg c1 hJ
    obtain ⟨a2, ea2, -, hJ⟩ := dr_some hJ
    obtain ⟨-, hJ⟩ := ck_some hJ
    exact wb_X10_rowKey_23 N t0 _ _ hJ
theorem wb_X10_rowKey_0 (N : Nat) (t0 : Nat) (h : Hp) (x1 : Int32) (hJ : B_X10_rowKey_0 N t0 h x1 = some (hz, rz)) : Fw h hz := by
  unfold B_X10_rowKey_0 at hJ
  obtain ⟨⟨h4, r5⟩, e6, hJ⟩ := ob_some hJ
  exact (wo_X10_isRow N t0 h x1 e6).tr (wb_X10_rowKey_5 N t0 _ _ _ hJ)
theorem wo_X10_rowKey (N : Nat) (t0 : Nat) (h : Hp) (x1 : Int32) (hJ : J_X10_rowKey N t0 h x1 = some (hz, rz)) : Fw h hz := wb_X10_rowKey_0 N t0 h x1 hJ
end V_X10_rowKey
section V_X10_rowValue
variable {hz : Hp} {rz : Int64}
theorem wb_X10_rowValue_23 (N : Nat) (t0 : Nat) (h : Hp) (y0 : Int64) (hJ : B_X10_rowValue_23 N t0 h y0 = some (hz, rz)) : Fw h hz := by
  unfold B_X10_rowValue_23 at hJ
  obtain ⟨rfl, -⟩ := rs2 hJ
  exact (Fw.rf h)
theorem wb_X10_rowValue_5 (N : Nat) (t0 : Nat) (h : Hp) (x1 : Int32) (y0 : Int32) (hJ : B_X10_rowValue_5 N t0 h x1 y0 = some (hz, rz)) : Fw h hz := by
  unfold B_X10_rowValue_5 at hJ
  by_cases c1 : y0 = 0
  · have hJ := it_pos c1 hJ
    exact wb_X10_rowValue_23 N t0 _ _ hJ
  · have hJ := it_neg c1 hJ
    obtain ⟨a2, ea2, -, hJ⟩ := dr_some hJ
    obtain ⟨-, hJ⟩ := ck_some hJ
    exact wb_X10_rowValue_23 N t0 _ _ hJ
theorem wb_X10_rowValue_0 (N : Nat) (t0 : Nat) (h : Hp) (x1 : Int32) (hJ : B_X10_rowValue_0 N t0 h x1 = some (hz, rz)) : Fw h hz := by
  unfold B_X10_rowValue_0 at hJ
  obtain ⟨⟨h4, r5⟩, e6, hJ⟩ := ob_some hJ
  exact (wo_X10_isRow N t0 h x1 e6).tr (wb_X10_rowValue_5 N t0 _ _ _ hJ)
theorem wo_X10_rowValue (N : Nat) (t0 : Nat) (h : Hp) (x1 : Int32) (hJ : J_X10_rowValue N t0 h x1 = some (hz, rz)) : Fw h hz := wb_X10_rowValue_0 N t0 h x1 hJ
end V_X10_rowValue
section V_X10_wroteMany
variable {hz : Hp} {rz : Int32}
theorem wb_X10_wroteMany_43 (N : Nat) (k4 : Hp → Int32 → Int32 → Int32 → Option (Hp × Int32)) (t0 : Nat) (h : Hp) (x1 : Int32) (x3 : Int32) (y0 : Int32) (y1 : Int32) (m4 : ∀ (h : Hp) (x1 : Int32) (x2 : Int32) (x3 : Int32), k4 h x1 x2 x3 = some (hz, rz) → Fw h hz) (hJ : B_X10_wroteMany_43 N k4 t0 h x1 x3 y0 y1 = some (hz, rz)) : Fw h hz := by
  unfold B_X10_wroteMany_43 at hJ
  exact m4 _ _ _ _ hJ
theorem wb_X10_wroteMany_42 (N : Nat) (k4 : Hp → Int32 → Int32 → Int32 → Option (Hp × Int32)) (t0 : Nat) (h : Hp) (x1 : Int32) (x3 : Int32) (y0 : Int32) (m4 : ∀ (h : Hp) (x1 : Int32) (x2 : Int32) (x3 : Int32), k4 h x1 x2 x3 = some (hz, rz) → Fw h hz) (hJ : B_X10_wroteMany_42 N k4 t0 h x1 x3 y0 = some (hz, rz)) : Fw h hz := by
  unfold B_X10_wroteMany_42 at hJ
  exact wb_X10_wroteMany_43 N k4 t0 _ _ _ _ _ m4 hJ
theorem wb_X10_wroteMany_34 (N : Nat) (k4 : Hp → Int32 → Int32 → Int32 → Option (Hp × Int32)) (t0 : Nat) (h : Hp) (x1 : Int32) (x3 : Int32) (y0 : Int32) (y1 : Int32) (m4 : ∀ (h : Hp) (x1 : Int32) (x2 : Int32) (x3 : Int32), k4 h x1 x2 x3 = some (hz, rz) → Fw h hz) (hJ : B_X10_wroteMany_34 N k4 t0 h x1 x3 y0 y1 = some (hz, rz)) : Fw h hz := by
  unfold B_X10_wroteMany_34 at hJ
  by_cases c1 : y1 = x3
  · have hJ := it_pos c1 hJ
    exact wb_X10_wroteMany_43 N k4 t0 _ _ _ _ _ m4 hJ
  · have hJ := it_neg c1 hJ
    exact wb_X10_wroteMany_42 N k4 t0 _ _ _ _ m4 hJ
theorem wb_X10_wroteMany_4 (N : Nat) (k4 : Hp → Int32 → Int32 → Int32 → Option (Hp × Int32)) (t0 : Nat) (h : Hp) (x1 : Int32) (x2 : Int32) (x3 : Int32) (m4 : ∀ (h : Hp) (x1 : Int32) (x2 : Int32) (x3 : Int32), k4 h x1 x2 x3 = some (hz, rz) → Fw h hz) (hJ : B_X10_wroteMany_4 N k4 t0 h x1 x2 x3 = some (hz, rz)) : Fw h hz := by
  unfold B_X10_wroteMany_4 at hJ
  by_cases c2 : (h.gi 1319 t0) ≤ x3
  · have hJ := it_pos c2 hJ
    obtain ⟨rfl, -⟩ := rs2 hJ
    exact (Fw.rf h)
  · have hJ := it_neg c2 hJ
    obtain ⟨a3, ea3, -, hJ⟩ := dr_some hJ
    obtain ⟨-, hJ⟩ := ck_some hJ
    by_cases c5 : (h.bi a3 x3.toNatClampNeg) = x1
    · have hJ := it_pos c5 hJ
      obtain ⟨a6, ea6, -, hJ⟩ := dr_some hJ
      obtain ⟨-, hJ⟩ := ck_some hJ
      obtain ⟨⟨h8, r9⟩, e10, hJ⟩ := ob_some hJ
      exact (wo_X10_ownOf N t0 h x1 (h.bi a6 x3.toNatClampNeg) e10).tr (wb_X10_wroteMany_34 N k4 t0 _ _ _ _ _ m4 hJ)
    · have hJ := it_neg c5 hJ
      exact wb_X10_wroteMany_42 N k4 t0 _ _ _ _ m4 hJ
theorem wl_X10_wroteMany_4 (N : Nat) (t0 : Nat) : ∀ (n : Nat) (h : Hp) (x1 : Int32) (x2 : Int32) (x3 : Int32), L_X10_wroteMany_4 N t0 n h x1 x2 x3 = some (hz, rz) → Fw h hz := by
  intro n
  induction n with
  | zero => intro h x1 x2 x3 hJ; cases hJ
  | succ n ih => intro h x1 x2 x3 hJ; exact wb_X10_wroteMany_4 N (L_X10_wroteMany_4 N t0 n) t0 h x1 x2 x3 ih hJ
theorem wb_X10_wroteMany_0 (N : Nat) (t0 : Nat) (h : Hp) (x1 : Int32) (hJ : B_X10_wroteMany_0 N t0 h x1 = some (hz, rz)) : Fw h hz := by
  unfold B_X10_wroteMany_0 at hJ
  exact wl_X10_wroteMany_4 N t0 N _ _ _ _ hJ
theorem wo_X10_wroteMany (N : Nat) (t0 : Nat) (h : Hp) (x1 : Int32) (hJ : J_X10_wroteMany N t0 h x1 = some (hz, rz)) : Fw h hz := wb_X10_wroteMany_0 N t0 h x1 hJ
end V_X10_wroteMany
section V_X10_writes
variable {hz : Hp} {rz : Int32}
theorem wb_X10_writes_119 (N : Nat) (t0 : Nat) (h : Hp) (y0 : Int32) (hJ : B_X10_writes_119 N t0 h y0 = some (hz, rz)) : Fw h hz := by
  unfold B_X10_writes_119 at hJ
  obtain ⟨rfl, -⟩ := rs2 hJ
  exact (Fw.rf h)
theorem wb_X10_writes_104 (N : Nat) (t0 : Nat) (h : Hp) (x1 : Int32) (x3 : Int64) (y0 : Int32) (hJ : B_X10_writes_104 N t0 h x1 x3 y0 = some (hz, rz)) : Fw h hz := by
  unfold B_X10_writes_104 at hJ
  obtain ⟨a1, ea1, -, hJ⟩ := dr_some hJ
  obtain ⟨-, hJ⟩ := ck_some hJ
  obtain ⟨⟨h3, r4⟩, e5, hJ⟩ := ob_some hJ
  exact (Fw.tr (show Fw h (h.sbw a1 y0.toNatClampNeg x3) from (Fw.rf h)) ((wo_X10_wroteMany N t0 (h.sbw a1 y0.toNatClampNeg x3) x1 e5).tr (wb_X10_writes_119 N t0 _ _ hJ)))
theorem wb_X10_writes_99 (N : Nat) (t0 : Nat) (h : Hp) (x1 : Int32) (x2 : Int32) (x3 : Int64) (y0 : Option Nat) (y1 : Int32) (hJ : B_X10_writes_99 N t0 h x1 x2 x3 y0 y1 = some (hz, rz)) : Fw h hz := by
  unfold B_X10_writes_99 at hJ
  obtain ⟨a7, ea7, -, hJ⟩ := dr_some hJ
  obtain ⟨⟨h8, r9⟩, e10, hJ⟩ := ob_some hJ
  exact (wo_X10_log N a7 h y1 x1 x2 e10).tr (wb_X10_writes_104 N t0 _ _ _ _ hJ)
theorem wb_X10_writes_66 (N : Nat) (t0 : Nat) (h : Hp) (x1 : Int32) (x2 : Int32) (x3 : Int64) (x5 : Int32) (hJ : B_X10_writes_66 N t0 h x1 x2 x3 x5 = some (hz, rz)) : Fw h hz := by
  unfold B_X10_writes_66 at hJ
  obtain ⟨a12, ea12, -, hJ⟩ := dr_some hJ
  obtain ⟨-, hJ⟩ := ck_some hJ
  obtain ⟨-, hJ⟩ := ck_some hJ
  by_cases c15 : x5 = 0
  · have hJ := it_pos c15 hJ
    exact (Fw.tr (show Fw h ((h.sbi a12 (h.gi 1319 t0).toNatClampNeg x5).sgi 1319 t0 (((h.sbi a12 (h.gi 1319 t0).toNatClampNeg x5).gi 1319 t0) + (1 : Int32))) from (Fw.rf h)) (wb_X10_writes_99 N t0 _ _ _ _ _ _ hJ))
  · have hJ := it_neg c15 hJ
    exact (Fw.tr (show Fw h ((h.sbi a12 (h.gi 1319 t0).toNatClampNeg x5).sgi 1319 t0 (((h.sbi a12 (h.gi 1319 t0).toNatClampNeg x5).gi 1319 t0) + (1 : Int32))) from (Fw.rf h)) (wb_X10_writes_99 N t0 _ _ _ _ _ _ hJ))
theorem wb_X10_writes_15 (N : Nat) (t0 : Nat) (h : Hp) (x1 : Int32) (x2 : Int32) (x3 : Int64) (x5 : Int32) (y0 : Int32) (hJ : B_X10_writes_15 N t0 h x1 x2 x3 x5 y0 = some (hz, rz)) : Fw h hz := by
  unfold B_X10_writes_15 at hJ
  by_cases c16 : y0 = 0
  · have hJ := it_pos c16 hJ
    obtain ⟨a17, ea17, -, hJ⟩ := dr_some hJ
    obtain ⟨-, hJ⟩ := ck_some hJ
    by_cases c19 : (h.bi a17 x1.toNatClampNeg) = 0
    · have hJ := it_pos c19 hJ
      obtain ⟨a20, ea20, -, hJ⟩ := dr_some hJ
      obtain ⟨-, hJ⟩ := ck_some hJ
      obtain ⟨a22, ea22, -, hJ⟩ := dr_some hJ
      obtain ⟨-, hJ⟩ := ck_some hJ
      obtain ⟨a24, ea24, -, hJ⟩ := dr_some hJ
      obtain ⟨-, hJ⟩ := ck_some hJ
      exact (Fw.tr (show Fw h (((h.sbi a20 (h.gi 1319 t0).toNatClampNeg x1).sbi a22 ((h.sbi a20 (h.gi 1319 t0).toNatClampNeg x1).gi 1319 t0).toNatClampNeg x2).sbw a24 (((h.sbi a20 (h.gi 1319 t0).toNatClampNeg x1).sbi a22 ((h.sbi a20 (h.gi 1319 t0).toNatClampNeg x1).gi 1319 t0).toNatClampNeg x2).gi 1319 t0).toNatClampNeg x3) from (Fw.rf h)) (wb_X10_writes_66 N t0 _ _ _ _ _ hJ))
    · have hJ := it_neg c19 hJ
      obtain ⟨rfl, -⟩ := rs2 hJ
      exact (Fw.rf h)
  · have hJ := it_neg c16 hJ
    obtain ⟨rfl, -⟩ := rs2 hJ
    exact (Fw.rf h)
theorem wb_X10_writes_0 (N : Nat) (t0 : Nat) (h : Hp) (x1 : Int32) (x2 : Int32) (x3 : Int64) (x5 : Int32) (hJ : B_X10_writes_0 N t0 h x1 x2 x3 x5 = some (hz, rz)) : Fw h hz := by
  unfold B_X10_writes_0 at hJ
  obtain ⟨⟨h26, r27⟩, e28, hJ⟩ := ob_some hJ
  exact (Fw.tr (show Fw h (h.sgi 1313 t0 ((h.gi 1313 t0) + (1 : Int32))) from (Fw.rf h)) ((wo_X10_isIdle N t0 (h.sgi 1313 t0 ((h.gi 1313 t0) + (1 : Int32))) x1 e28).tr (wb_X10_writes_15 N t0 _ _ _ _ _ _ hJ)))
theorem wo_X10_writes (N : Nat) (t0 : Nat) (h : Hp) (x1 : Int32) (x2 : Int32) (x3 : Int64) (x5 : Int32) (hJ : J_X10_writes N t0 h x1 x2 x3 x5 = some (hz, rz)) : Fw h hz := wb_X10_writes_0 N t0 h x1 x2 x3 x5 hJ
end V_X10_writes
section V_X10_write
variable {hz : Hp} {rz : Int32}
theorem wb_X10_write_8 (N : Nat) (t0 : Nat) (h : Hp) (y0 : Int32) (hJ : B_X10_write_8 N t0 h y0 = some (hz, rz)) : Fw h hz := by
  unfold B_X10_write_8 at hJ
  obtain ⟨rfl, -⟩ := rs2 hJ
  exact (Fw.rf h)
theorem wb_X10_write_0 (N : Nat) (t0 : Nat) (h : Hp) (x1 : Int32) (x2 : Int32) (x3 : Int64) (hJ : B_X10_write_0 N t0 h x1 x2 x3 = some (hz, rz)) : Fw h hz := by
  unfold B_X10_write_0 at hJ
  obtain ⟨⟨h1, r2⟩, e3, hJ⟩ := ob_some hJ
  exact (wo_X10_writes N t0 h x1 x2 x3 (1 : Int32) e3).tr (wb_X10_write_8 N t0 _ _ hJ)
theorem wo_X10_write (N : Nat) (t0 : Nat) (h : Hp) (x1 : Int32) (x2 : Int32) (x3 : Int64) (hJ : J_X10_write N t0 h x1 x2 x3 = some (hz, rz)) : Fw h hz := wb_X10_write_0 N t0 h x1 x2 x3 hJ
end V_X10_write
section V_X10_remove
variable {hz : Hp} {rz : Int32}
theorem wb_X10_remove_8 (N : Nat) (t0 : Nat) (h : Hp) (y0 : Int32) (hJ : B_X10_remove_8 N t0 h y0 = some (hz, rz)) : Fw h hz := by
  unfold B_X10_remove_8 at hJ
  obtain ⟨rfl, -⟩ := rs2 hJ
  exact (Fw.rf h)
theorem wb_X10_remove_0 (N : Nat) (t0 : Nat) (h : Hp) (x1 : Int32) (x2 : Int32) (hJ : B_X10_remove_0 N t0 h x1 x2 = some (hz, rz)) : Fw h hz := by
  unfold B_X10_remove_0 at hJ
  obtain ⟨⟨h1, r2⟩, e3, hJ⟩ := ob_some hJ
  exact (wo_X10_writes N t0 h x1 x2 (0 : Int64) (0 : Int32) e3).tr (wb_X10_remove_8 N t0 _ _ hJ)
theorem wo_X10_remove (N : Nat) (t0 : Nat) (h : Hp) (x1 : Int32) (x2 : Int32) (hJ : J_X10_remove N t0 h x1 x2 = some (hz, rz)) : Fw h hz := wb_X10_remove_0 N t0 h x1 x2 hJ
end V_X10_remove
section V_X10_save
variable {hz : Hp} {rz : Int32}
theorem wb_X10_save_71 (N : Nat) (t0 : Nat) (h : Hp) (x1 : Int32) (y0 : Int32) (hJ : B_X10_save_71 N t0 h x1 y0 = some (hz, rz)) : Fw h hz := by
  unfold B_X10_save_71 at hJ
  obtain ⟨a1, ea1, -, hJ⟩ := dr_some hJ
  obtain ⟨-, hJ⟩ := ck_some hJ
  obtain ⟨rfl, -⟩ := rs2 hJ
  exact (Fw.rf h)
theorem wb_X10_save_15 (N : Nat) (t0 : Nat) (h : Hp) (x1 : Int32) (y0 : Int32) (hJ : B_X10_save_15 N t0 h x1 y0 = some (hz, rz)) : Fw h hz := by
  unfold B_X10_save_15 at hJ
  by_cases c3 : y0 = 0
  · have hJ := it_pos c3 hJ
    obtain ⟨a4, ea4, -, hJ⟩ := dr_some hJ
    obtain ⟨-, hJ⟩ := ck_some hJ
    by_cases c6 : (h.bi a4 x1.toNatClampNeg) = (10 : Int32)
    · have hJ := it_pos c6 hJ
      obtain ⟨rfl, -⟩ := rs2 hJ
      exact (Fw.rf h)
    · have hJ := it_neg c6 hJ
      obtain ⟨a7, ea7, -, hJ⟩ := dr_some hJ
      obtain ⟨-, hJ⟩ := ck_some hJ
      obtain ⟨a9, ea9, -, hJ⟩ := dr_some hJ
      obtain ⟨-, hJ⟩ := ck_some hJ
      obtain ⟨a11, ea11, -, hJ⟩ := dr_some hJ
      obtain ⟨-, hJ⟩ := ck_some hJ
      obtain ⟨-, hJ⟩ := ck_some hJ
      obtain ⟨⟨h14, r15⟩, e16, hJ⟩ := ob_some hJ
      exact (Fw.tr (show Fw h ((h.sbi a9 (((10 : Int32) * x1) + (h.bi a7 x1.toNatClampNeg)).toNatClampNeg (h.gi 1319 t0)).sbi a11 x1.toNatClampNeg (((h.sbi a9 (((10 : Int32) * x1) + (h.bi a7 x1.toNatClampNeg)).toNatClampNeg (h.gi 1319 t0)).bi a11 x1.toNatClampNeg) + (1 : Int32))) from (Fw.rf h)) ((wo_X10_log N t0 ((h.sbi a9 (((10 : Int32) * x1) + (h.bi a7 x1.toNatClampNeg)).toNatClampNeg (h.gi 1319 t0)).sbi a11 x1.toNatClampNeg (((h.sbi a9 (((10 : Int32) * x1) + (h.bi a7 x1.toNatClampNeg)).toNatClampNeg (h.gi 1319 t0)).bi a11 x1.toNatClampNeg) + (1 : Int32))) (7 : Int32) x1 (0 : Int32) e16).tr (wb_X10_save_71 N t0 _ _ _ hJ)))
  · have hJ := it_neg c3 hJ
    obtain ⟨rfl, -⟩ := rs2 hJ
    exact (Fw.rf h)
theorem wb_X10_save_0 (N : Nat) (t0 : Nat) (h : Hp) (x1 : Int32) (hJ : B_X10_save_0 N t0 h x1 = some (hz, rz)) : Fw h hz := by
  unfold B_X10_save_0 at hJ
  obtain ⟨⟨h18, r19⟩, e20, hJ⟩ := ob_some hJ
  exact (Fw.tr (show Fw h (h.sgi 1313 t0 ((h.gi 1313 t0) + (1 : Int32))) from (Fw.rf h)) ((wo_X10_isIdle N t0 (h.sgi 1313 t0 ((h.gi 1313 t0) + (1 : Int32))) x1 e20).tr (wb_X10_save_15 N t0 _ _ _ hJ)))
theorem wo_X10_save (N : Nat) (t0 : Nat) (h : Hp) (x1 : Int32) (hJ : J_X10_save N t0 h x1 = some (hz, rz)) : Fw h hz := wb_X10_save_0 N t0 h x1 hJ
end V_X10_save
section V_X10_undo
variable {hz : Hp} {rz : Int32}
theorem wb_X10_undo_35 (N : Nat) (t0 : Nat) (h : Hp) (hJ : B_X10_undo_35 N t0 h = some (hz, rz)) : Fw h hz := by
  unfold B_X10_undo_35 at hJ
  obtain ⟨rfl, -⟩ := rs2 hJ
  exact (Fw.rf h)
theorem wb_X10_undo_93 (N : Nat) (k56 : Hp → Int32 → Int32 → Int32 → Option (Hp × Int32)) (t0 : Nat) (h : Hp) (x1 : Int32) (x2 : Int32) (x3 : Int32) (y0 : Option Nat) (y1 : Int32) (y2 : Int32) (m56 : ∀ (h : Hp) (x1 : Int32) (x2 : Int32) (x3 : Int32), k56 h x1 x2 x3 = some (hz, rz) → Fw h hz) (hJ : B_X10_undo_93 N k56 t0 h x1 x2 x3 y0 y1 y2 = some (hz, rz)) : Fw h hz := by
  unfold B_X10_undo_93 at hJ
  obtain ⟨a1, ea1, -, hJ⟩ := dr_some hJ
  obtain ⟨-, hJ⟩ := ck_some hJ
  obtain ⟨-, hJ⟩ := ck_some hJ
  exact (Fw.tr (show Fw h (h.sbi a1 y1.toNatClampNeg y2) from (Fw.rf h)) (m56 _ _ _ _ hJ))
theorem wb_X10_undo_88 (N : Nat) (k56 : Hp → Int32 → Int32 → Int32 → Option (Hp × Int32)) (t0 : Nat) (h : Hp) (x1 : Int32) (x2 : Int32) (x3 : Int32) (y0 : Option Nat) (y1 : Int32) (m56 : ∀ (h : Hp) (x1 : Int32) (x2 : Int32) (x3 : Int32), k56 h x1 x2 x3 = some (hz, rz) → Fw h hz) (hJ : B_X10_undo_88 N k56 t0 h x1 x2 x3 y0 y1 = some (hz, rz)) : Fw h hz := by
  unfold B_X10_undo_88 at hJ
  exact wb_X10_undo_93 N k56 t0 _ _ _ _ _ _ _ m56 hJ
theorem wb_X10_undo_121 (N : Nat) (t0 : Nat) (h : Hp) (y0 : Int32) (hJ : B_X10_undo_121 N t0 h y0 = some (hz, rz)) : Fw h hz := by
  unfold B_X10_undo_121 at hJ
  obtain ⟨rfl, -⟩ := rs2 hJ
  exact (Fw.rf h)
theorem wb_X10_undo_115 (N : Nat) (t0 : Nat) (h : Hp) (x1 : Int32) (y0 : Int32) (hJ : B_X10_undo_115 N t0 h x1 y0 = some (hz, rz)) : Fw h hz := by
  unfold B_X10_undo_115 at hJ
  obtain ⟨⟨h4, r5⟩, e6, hJ⟩ := ob_some hJ
  exact (wo_X10_wroteMany N t0 h x1 e6).tr (wb_X10_undo_121 N t0 _ _ hJ)
theorem wb_X10_undo_56 (N : Nat) (k56 : Hp → Int32 → Int32 → Int32 → Option (Hp × Int32)) (t0 : Nat) (h : Hp) (x1 : Int32) (x2 : Int32) (x3 : Int32) (m56 : ∀ (h : Hp) (x1 : Int32) (x2 : Int32) (x3 : Int32), k56 h x1 x2 x3 = some (hz, rz) → Fw h hz) (hJ : B_X10_undo_56 N k56 t0 h x1 x2 x3 = some (hz, rz)) : Fw h hz := by
  unfold B_X10_undo_56 at hJ
  by_cases c8 : (h.gi 1319 t0) ≤ x3
  · have hJ := it_pos c8 hJ
    obtain ⟨a9, ea9, -, hJ⟩ := dr_some hJ
    obtain ⟨-, hJ⟩ := ck_some hJ
    obtain ⟨⟨h11, r12⟩, e13, hJ⟩ := ob_some hJ
    exact (Fw.tr (show Fw h (h.sbi a9 x1.toNatClampNeg x2) from (Fw.rf h)) ((wo_X10_log N t0 (h.sbi a9 x1.toNatClampNeg x2) (8 : Int32) x1 x2 e13).tr (wb_X10_undo_115 N t0 _ _ _ hJ)))
  · have hJ := it_neg c8 hJ
    obtain ⟨a15, ea15, -, hJ⟩ := dr_some hJ
    obtain ⟨-, hJ⟩ := ck_some hJ
    by_cases c17 : (h.bi a15 x3.toNatClampNeg) = 0
    · have hJ := it_pos c17 hJ
      obtain ⟨a18, ea18, -, hJ⟩ := dr_some hJ
      obtain ⟨-, hJ⟩ := ck_some hJ
      by_cases c20 : (h.bi a18 x3.toNatClampNeg) = x1
      · have hJ := it_pos c20 hJ
        exact wb_X10_undo_88 N k56 t0 _ _ _ _ _ _ m56 hJ
      · have hJ := it_neg c20 hJ
        exact wb_X10_undo_93 N k56 t0 _ _ _ _ _ _ _ m56 hJ
    · have hJ := it_neg c17 hJ
      exact wb_X10_undo_88 N k56 t0 _ _ _ _ _ _ m56 hJ
theorem wl_X10_undo_56 (N : Nat) (t0 : Nat) : ∀ (n : Nat) (h : Hp) (x1 : Int32) (x2 : Int32) (x3 : Int32), L_X10_undo_56 N t0 n h x1 x2 x3 = some (hz, rz) → Fw h hz := by
  intro n
  induction n with
  | zero => intro h x1 x2 x3 hJ; cases hJ
  | succ n ih => intro h x1 x2 x3 hJ; exact wb_X10_undo_56 N (L_X10_undo_56 N t0 n) t0 h x1 x2 x3 ih hJ
theorem wb_X10_undo_15 (N : Nat) (t0 : Nat) (h : Hp) (x1 : Int32) (x2 : Int32) (y0 : Int32) (hJ : B_X10_undo_15 N t0 h x1 x2 y0 = some (hz, rz)) : Fw h hz := by
  unfold B_X10_undo_15 at hJ
  by_cases c21 : y0 = 0
  · have hJ := it_pos c21 hJ
    by_cases c22 : x2 < (1 : Int32)
    · have hJ := it_pos c22 hJ
      exact wb_X10_undo_35 N t0 _ hJ
    · have hJ := it_neg c22 hJ
      obtain ⟨a23, ea23, -, hJ⟩ := dr_some hJ
      obtain ⟨-, hJ⟩ := ck_some hJ
      by_cases c25 : x2 ≤ (h.bi a23 x1.toNatClampNeg)
      · have hJ := it_pos c25 hJ
        obtain ⟨a26, ea26, -, hJ⟩ := dr_some hJ
        obtain ⟨-, hJ⟩ := ck_some hJ
        exact wl_X10_undo_56 N t0 N _ _ _ _ hJ
      · have hJ := it_neg c25 hJ
        exact wb_X10_undo_35 N t0 _ hJ
  · have hJ := it_neg c21 hJ
    obtain ⟨rfl, -⟩ := rs2 hJ
    exact (Fw.rf h)
theorem wb_X10_undo_0 (N : Nat) (t0 : Nat) (h : Hp) (x1 : Int32) (x2 : Int32) (hJ : B_X10_undo_0 N t0 h x1 x2 = some (hz, rz)) : Fw h hz := by
  unfold B_X10_undo_0 at hJ
  obtain ⟨⟨h28, r29⟩, e30, hJ⟩ := ob_some hJ
  exact (Fw.tr (show Fw h (h.sgi 1313 t0 ((h.gi 1313 t0) + (1 : Int32))) from (Fw.rf h)) ((wo_X10_isIdle N t0 (h.sgi 1313 t0 ((h.gi 1313 t0) + (1 : Int32))) x1 e30).tr (wb_X10_undo_15 N t0 _ _ _ _ hJ)))
theorem wo_X10_undo (N : Nat) (t0 : Nat) (h : Hp) (x1 : Int32) (x2 : Int32) (hJ : J_X10_undo N t0 h x1 x2 = some (hz, rz)) : Fw h hz := wb_X10_undo_0 N t0 h x1 x2 hJ
end V_X10_undo
