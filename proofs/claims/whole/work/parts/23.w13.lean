section V_X9_read
variable {hz : Hp} {rz : Int32}
theorem wb_X9_read_20 (N : Nat) (t0 : Nat) (h : Hp) (y0 : Int32) (hJ : B_X9_read_20 N t0 h y0 = some (hz, rz)) : Fw h hz := by
  unfold B_X9_read_20 at hJ
  obtain ⟨rfl, -⟩ := rs2 hJ
  exact (Fw.rf h)
theorem wb_X9_read_17 (N : Nat) (t0 : Nat) (h : Hp) (y0 : Option Nat) (y1 : Option Nat) (y2 : Option Nat) (hJ : B_X9_read_17 N t0 h y0 y1 y2 = some (hz, rz)) : Fw h hz := by
  unfold B_X9_read_17 at hJ
  obtain ⟨a1, ea1, -, hJ⟩ := dr_some hJ
  obtain ⟨⟨h2, r3⟩, e4, hJ⟩ := ob_some hJ
  exact (wo_X9_carryOut N a1 h y1 y2 e4).tr (wb_X9_read_20 N t0 _ _ hJ)
theorem wb_X9_read_11 (N : Nat) (t0 : Nat) (h : Hp) (x2 : Int32) (y0 : Option Nat) (y1 : Option Nat) (y2 : Option Nat) (hJ : B_X9_read_11 N t0 h x2 y0 y1 y2 = some (hz, rz)) : Fw h hz := by
  unfold B_X9_read_11 at hJ
  obtain ⟨a6, ea6, -, hJ⟩ := dr_some hJ
  obtain ⟨⟨h7, r8⟩, e9, hJ⟩ := ob_some hJ
  exact (wo_X2_init N a6 h (0 : Int32) x2 e9).tr (wb_X9_read_17 N t0 _ _ _ _ hJ)
theorem wb_X9_read_5 (N : Nat) (t0 : Nat) (h : Hp) (x2 : Int32) (y0 : Option Nat) (hJ : B_X9_read_5 N t0 h x2 y0 = some (hz, rz)) : Fw h hz := by
  unfold B_X9_read_5 at hJ
  exact (Fw.new h _ _ _).tr (wb_X9_read_11 N t0 _ _ _ _ _ hJ)
theorem wb_X9_read_0 (N : Nat) (t0 : Nat) (h : Hp) (x1 : Int32) (x2 : Int32) (hJ : B_X9_read_0 N t0 h x1 x2 = some (hz, rz)) : Fw h hz := by
  unfold B_X9_read_0 at hJ
  obtain ⟨⟨h12, r13⟩, e14, hJ⟩ := ob_some hJ
  exact (wo_X9_activeOne N t0 h x1 e14).tr (wb_X9_read_5 N t0 _ _ _ hJ)
theorem wo_X9_read (N : Nat) (t0 : Nat) (h : Hp) (x1 : Int32) (x2 : Int32) (hJ : J_X9_read N t0 h x1 x2 = some (hz, rz)) : Fw h hz := wb_X9_read_0 N t0 h x1 x2 hJ
end V_X9_read
section V_X9_near
variable {hz : Hp} {rz : Int32}
theorem wb_X9_near_32 (N : Nat) (t0 : Nat) (h : Hp) (y0 : Int32) (hJ : B_X9_near_32 N t0 h y0 = some (hz, rz)) : Fw h hz := by
  unfold B_X9_near_32 at hJ
  obtain ⟨rfl, -⟩ := rs2 hJ
  exact (Fw.rf h)
theorem wb_X9_near_16 (N : Nat) (t0 : Nat) (h : Hp) (x3 : Int32) (x4 : Option Nat) (y0 : Option Nat) (hJ : B_X9_near_16 N t0 h x3 x4 y0 = some (hz, rz)) : Fw h hz := by
  unfold B_X9_near_16 at hJ
  obtain ⟨a1, ea1, -, hJ⟩ := dr_some hJ
  obtain ⟨-, hJ⟩ := ck_some hJ
  obtain ⟨⟨h3, r4⟩, e5, hJ⟩ := ob_some hJ
  exact (Fw.tr (show Fw h (h.sfi 504 a1 x3) from (Fw.rf h)) ((wo_X9_carryOut N t0 (h.sfi 504 a1 x3) x4 (some a1) e5).tr (wb_X9_near_32 N t0 _ _ hJ)))
theorem wb_X9_near_10 (N : Nat) (t0 : Nat) (h : Hp) (x2 : Int32) (x3 : Int32) (x4 : Option Nat) (y0 : Option Nat) (hJ : B_X9_near_10 N t0 h x2 x3 x4 y0 = some (hz, rz)) : Fw h hz := by
  unfold B_X9_near_10 at hJ
  obtain ⟨a7, ea7, -, hJ⟩ := dr_some hJ
  obtain ⟨⟨h8, r9⟩, e10, hJ⟩ := ob_some hJ
  exact (wo_X2_init N a7 h (1 : Int32) x2 e10).tr (wb_X9_near_16 N t0 _ _ _ _ hJ)
theorem wb_X9_near_5 (N : Nat) (t0 : Nat) (h : Hp) (x2 : Int32) (x3 : Int32) (y0 : Option Nat) (hJ : B_X9_near_5 N t0 h x2 x3 y0 = some (hz, rz)) : Fw h hz := by
  unfold B_X9_near_5 at hJ
  exact (Fw.new h _ _ _).tr (wb_X9_near_10 N t0 _ _ _ _ _ hJ)
theorem wb_X9_near_0 (N : Nat) (t0 : Nat) (h : Hp) (x1 : Int32) (x2 : Int32) (x3 : Int32) (hJ : B_X9_near_0 N t0 h x1 x2 x3 = some (hz, rz)) : Fw h hz := by
  unfold B_X9_near_0 at hJ
  obtain ⟨⟨h13, r14⟩, e15, hJ⟩ := ob_some hJ
  exact (wo_X9_activeOne N t0 h x1 e15).tr (wb_X9_near_5 N t0 _ _ _ _ hJ)
theorem wo_X9_near (N : Nat) (t0 : Nat) (h : Hp) (x1 : Int32) (x2 : Int32) (x3 : Int32) (hJ : J_X9_near N t0 h x1 x2 x3 = some (hz, rz)) : Fw h hz := wb_X9_near_0 N t0 h x1 x2 x3 hJ
end V_X9_near
section V_X9_scan
variable {hz : Hp} {rz : Int32}
theorem wb_X9_scan_35 (N : Nat) (t0 : Nat) (h : Hp) (hJ : B_X9_scan_35 N t0 h = some (hz, rz)) : Fw h hz := by
  unfold B_X9_scan_35 at hJ
  cases hJ
theorem wb_X9_scan_77 (N : Nat) (t0 : Nat) (h : Hp) (y0 : Int32) (hJ : B_X9_scan_77 N t0 h y0 = some (hz, rz)) : Fw h hz := by
  unfold B_X9_scan_77 at hJ
  obtain ⟨rfl, -⟩ := rs2 hJ
  exact (Fw.rf h)
theorem wb_X9_scan_54 (N : Nat) (t0 : Nat) (h : Hp) (x3 : Int32) (x4 : Int32) (x5 : Option Nat) (y0 : Option Nat) (hJ : B_X9_scan_54 N t0 h x3 x4 x5 y0 = some (hz, rz)) : Fw h hz := by
  unfold B_X9_scan_54 at hJ
  obtain ⟨a1, ea1, -, hJ⟩ := dr_some hJ
  obtain ⟨⟨h2, r3⟩, e4, hJ⟩ := ob_some hJ
  exact (Fw.tr (show Fw h ((h.sfi 502 a1 x3).sfi 503 a1 x4) from (Fw.rf h)) ((wo_X9_carryOut N t0 ((h.sfi 502 a1 x3).sfi 503 a1 x4) x5 (some a1) e4).tr (wb_X9_scan_77 N t0 _ _ hJ)))
theorem wb_X9_scan_48 (N : Nat) (t0 : Nat) (h : Hp) (x2 : Int32) (x3 : Int32) (x4 : Int32) (x5 : Option Nat) (y0 : Option Nat) (hJ : B_X9_scan_48 N t0 h x2 x3 x4 x5 y0 = some (hz, rz)) : Fw h hz := by
  unfold B_X9_scan_48 at hJ
  obtain ⟨a6, ea6, -, hJ⟩ := dr_some hJ
  obtain ⟨⟨h7, r8⟩, e9, hJ⟩ := ob_some hJ
  exact (wo_X2_init N a6 h (2 : Int32) x2 e9).tr (wb_X9_scan_54 N t0 _ _ _ _ _ hJ)
theorem wb_X9_scan_5 (N : Nat) (t0 : Nat) (h : Hp) (x2 : Int32) (x3 : Int32) (x4 : Int32) (y0 : Option Nat) (hJ : B_X9_scan_5 N t0 h x2 x3 x4 y0 = some (hz, rz)) : Fw h hz := by
  unfold B_X9_scan_5 at hJ
  by_cases c11 : x2 ≤ x3
  · have hJ := it_pos c11 hJ
    by_cases c12 : x4 < (1 : Int32)
    · have hJ := it_pos c12 hJ
      exact wb_X9_scan_35 N t0 _ hJ
    · have hJ := it_neg c12 hJ
      by_cases c13 : x4 ≤ (100 : Int32)
      · have hJ := it_pos c13 hJ
        exact (Fw.new h _ _ _).tr (wb_X9_scan_48 N t0 _ _ _ _ _ _ hJ)
      · have hJ := it_neg c13 hJ
        exact wb_X9_scan_35 N t0 _ hJ
  · have hJ := it_neg c11 hJ
    cases hJ
theorem wb_X9_scan_0 (N : Nat) (t0 : Nat) (h : Hp) (x1 : Int32) (x2 : Int32) (x3 : Int32) (x4 : Int32) (hJ : B_X9_scan_0 N t0 h x1 x2 x3 x4 = some (hz, rz)) : Fw h hz := by
  unfold B_X9_scan_0 at hJ
  obtain ⟨⟨h15, r16⟩, e17, hJ⟩ := ob_some hJ
  exact (wo_X9_activeOne N t0 h x1 e17).tr (wb_X9_scan_5 N t0 _ _ _ _ _ hJ)
theorem wo_X9_scan (N : Nat) (t0 : Nat) (h : Hp) (x1 : Int32) (x2 : Int32) (x3 : Int32) (x4 : Int32) (hJ : J_X9_scan N t0 h x1 x2 x3 x4 = some (hz, rz)) : Fw h hz := wb_X9_scan_0 N t0 h x1 x2 x3 x4 hJ
end V_X9_scan
section V_X9_rowKey
variable {hz : Hp} {rz : Int32}
theorem wb_X9_rowKey_18 (N : Nat) (t0 : Nat) (h : Hp) (hJ : B_X9_rowKey_18 N t0 h = some (hz, rz)) : Fw h hz := by
  unfold B_X9_rowKey_18 at hJ
  cases hJ
theorem wb_X9_rowKey_15 (N : Nat) (t0 : Nat) (h : Hp) (x1 : Int32) (y0 : Int32) (hJ : B_X9_rowKey_15 N t0 h x1 y0 = some (hz, rz)) : Fw h hz := by
  unfold B_X9_rowKey_15 at hJ
  by_cases c1 : y0 = 0
  · have hJ := it_pos c1 hJ
    exact wb_X9_rowKey_18 N t0 _ hJ
  · have hJ := it_neg c1 hJ
    obtain ⟨a2, ea2, -, hJ⟩ := dr_some hJ
    obtain ⟨a3, ea3, -, hJ⟩ := dr_some hJ
    obtain ⟨-, hJ⟩ := ck_some hJ
    obtain ⟨rfl, -⟩ := rs2 hJ
    exact (Fw.rf h)
theorem wb_X9_rowKey_0 (N : Nat) (t0 : Nat) (h : Hp) (x1 : Int32) (hJ : B_X9_rowKey_0 N t0 h x1 = some (hz, rz)) : Fw h hz := by
  unfold B_X9_rowKey_0 at hJ
  cases ea5 : (h.fr 1211 t0) with
  | none =>
    have hJ := nl_none ea5 hJ
    exact wb_X9_rowKey_18 N t0 _ hJ
  | some a5 =>
    have hJ := nl_some ea5 hJ
    obtain ⟨a6, ea6, -, hJ⟩ := dr_some hJ
    obtain ⟨⟨h7, r8⟩, e9, hJ⟩ := ob_some hJ
    exact (wo_X0_hasRow N a6 h x1 e9).tr (wb_X9_rowKey_15 N t0 _ _ _ hJ)
theorem wo_X9_rowKey (N : Nat) (t0 : Nat) (h : Hp) (x1 : Int32) (hJ : J_X9_rowKey N t0 h x1 = some (hz, rz)) : Fw h hz := wb_X9_rowKey_0 N t0 h x1 hJ
end V_X9_rowKey
section V_X9_rowValue
variable {hz : Hp} {rz : Int64}
theorem wb_X9_rowValue_18 (N : Nat) (t0 : Nat) (h : Hp) (hJ : B_X9_rowValue_18 N t0 h = some (hz, rz)) : Fw h hz := by
  unfold B_X9_rowValue_18 at hJ
  cases hJ
theorem wb_X9_rowValue_15 (N : Nat) (t0 : Nat) (h : Hp) (x1 : Int32) (y0 : Int32) (hJ : B_X9_rowValue_15 N t0 h x1 y0 = some (hz, rz)) : Fw h hz := by
  unfold B_X9_rowValue_15 at hJ
  by_cases c1 : y0 = 0
  · have hJ := it_pos c1 hJ
    exact wb_X9_rowValue_18 N t0 _ hJ
  · have hJ := it_neg c1 hJ
    obtain ⟨a2, ea2, -, hJ⟩ := dr_some hJ
    obtain ⟨a3, ea3, -, hJ⟩ := dr_some hJ
    obtain ⟨-, hJ⟩ := ck_some hJ
    obtain ⟨rfl, -⟩ := rs2 hJ
    exact (Fw.rf h)
theorem wb_X9_rowValue_0 (N : Nat) (t0 : Nat) (h : Hp) (x1 : Int32) (hJ : B_X9_rowValue_0 N t0 h x1 = some (hz, rz)) : Fw h hz := by
  unfold B_X9_rowValue_0 at hJ
  cases ea5 : (h.fr 1211 t0) with
  | none =>
    have hJ := nl_none ea5 hJ
    exact wb_X9_rowValue_18 N t0 _ hJ
  | some a5 =>
    have hJ := nl_some ea5 hJ
    obtain ⟨a6, ea6, -, hJ⟩ := dr_some hJ
    obtain ⟨⟨h7, r8⟩, e9, hJ⟩ := ob_some hJ
    exact (wo_X0_hasRow N a6 h x1 e9).tr (wb_X9_rowValue_15 N t0 _ _ _ hJ)
theorem wo_X9_rowValue (N : Nat) (t0 : Nat) (h : Hp) (x1 : Int32) (hJ : J_X9_rowValue N t0 h x1 = some (hz, rz)) : Fw h hz := wb_X9_rowValue_0 N t0 h x1 hJ
end V_X9_rowValue
section V_X9_writingOne
variable {hz : Hp} {rz : Option Nat}
theorem wb_X9_writingOne_5 (N : Nat) (t0 : Nat) (h : Hp) (y0 : Option Nat) (hJ : B_X9_writingOne_5 N t0 h y0 = some (hz, rz)) : Fw h hz := by
  unfold B_X9_writingOne_5 at hJ
  obtain ⟨a1, ea1, -, hJ⟩ := dr_some hJ
  by_cases c2 : (h.fi 1005 a1) = 0
  · have hJ := it_pos c2 hJ
    obtain ⟨rfl, -⟩ := rs2 hJ
    exact (Fw.rf h)
  · have hJ := it_neg c2 hJ
    cases hJ
theorem wb_X9_writingOne_0 (N : Nat) (t0 : Nat) (h : Hp) (x1 : Int32) (hJ : B_X9_writingOne_0 N t0 h x1 = some (hz, rz)) : Fw h hz := by
  unfold B_X9_writingOne_0 at hJ
  obtain ⟨⟨h3, r4⟩, e5, hJ⟩ := ob_some hJ
  exact (wo_X9_activeOne N t0 h x1 e5).tr (wb_X9_writingOne_5 N t0 _ _ hJ)
theorem wo_X9_writingOne (N : Nat) (t0 : Nat) (h : Hp) (x1 : Int32) (hJ : J_X9_writingOne N t0 h x1 = some (hz, rz)) : Fw h hz := wb_X9_writingOne_0 N t0 h x1 hJ
end V_X9_writingOne
section V_X9_write
variable {hz : Hp} {rz : Int32}
theorem wb_X9_write_38 (N : Nat) (t0 : Nat) (h : Hp) (y0 : Int32) (hJ : B_X9_write_38 N t0 h y0 = some (hz, rz)) : Fw h hz := by
  unfold B_X9_write_38 at hJ
  obtain ⟨rfl, -⟩ := rs2 hJ
  exact (Fw.rf h)
theorem wb_X9_write_16 (N : Nat) (t0 : Nat) (h : Hp) (x3 : Int64) (x5 : Option Nat) (y0 : Option Nat) (hJ : B_X9_write_16 N t0 h x3 x5 y0 = some (hz, rz)) : Fw h hz := by
  unfold B_X9_write_16 at hJ
  obtain ⟨a1, ea1, -, hJ⟩ := dr_some hJ
  obtain ⟨⟨h2, r3⟩, e4, hJ⟩ := ob_some hJ
  exact (Fw.tr (show Fw h ((h.sfi 504 a1 (1 : Int32)).sfl 505 a1 x3) from (Fw.rf h)) ((wo_X9_carryOut N t0 ((h.sfi 504 a1 (1 : Int32)).sfl 505 a1 x3) x5 (some a1) e4).tr (wb_X9_write_38 N t0 _ _ hJ)))
theorem wb_X9_write_10 (N : Nat) (t0 : Nat) (h : Hp) (x2 : Int32) (x3 : Int64) (x5 : Option Nat) (y0 : Option Nat) (hJ : B_X9_write_10 N t0 h x2 x3 x5 y0 = some (hz, rz)) : Fw h hz := by
  unfold B_X9_write_10 at hJ
  obtain ⟨a6, ea6, -, hJ⟩ := dr_some hJ
  obtain ⟨⟨h7, r8⟩, e9, hJ⟩ := ob_some hJ
  exact (wo_X2_init N a6 h (3 : Int32) x2 e9).tr (wb_X9_write_16 N t0 _ _ _ _ hJ)
theorem wb_X9_write_5 (N : Nat) (t0 : Nat) (h : Hp) (x2 : Int32) (x3 : Int64) (y0 : Option Nat) (hJ : B_X9_write_5 N t0 h x2 x3 y0 = some (hz, rz)) : Fw h hz := by
  unfold B_X9_write_5 at hJ
  exact (Fw.new h _ _ _).tr (wb_X9_write_10 N t0 _ _ _ _ _ hJ)
theorem wb_X9_write_0 (N : Nat) (t0 : Nat) (h : Hp) (x1 : Int32) (x2 : Int32) (x3 : Int64) (hJ : B_X9_write_0 N t0 h x1 x2 x3 = some (hz, rz)) : Fw h hz := by
  unfold B_X9_write_0 at hJ
  obtain ⟨⟨h12, r13⟩, e14, hJ⟩ := ob_some hJ
  exact (wo_X9_writingOne N t0 h x1 e14).tr (wb_X9_write_5 N t0 _ _ _ _ hJ)
theorem wo_X9_write (N : Nat) (t0 : Nat) (h : Hp) (x1 : Int32) (x2 : Int32) (x3 : Int64) (hJ : J_X9_write N t0 h x1 x2 x3 = some (hz, rz)) : Fw h hz := wb_X9_write_0 N t0 h x1 x2 x3 hJ
end V_X9_write
section V_X9_remove
variable {hz : Hp} {rz : Int32}
theorem wb_X9_remove_20 (N : Nat) (t0 : Nat) (h : Hp) (y0 : Int32) (hJ : B_X9_remove_20 N t0 h y0 = some (hz, rz)) : Fw h hz := by
  unfold B_X9_remove_20 at hJ
  obtain ⟨rfl, -⟩ := rs2 hJ
  exact (Fw.rf h)
theorem wb_X9_remove_17 (N : Nat) (t0 : Nat) (h : Hp) (y0 : Option Nat) (y1 : Option Nat) (y2 : Option Nat) (hJ : B_X9_remove_17 N t0 h y0 y1 y2 = some (hz, rz)) : Fw h hz := by
  unfold B_X9_remove_17 at hJ
  obtain ⟨a1, ea1, -, hJ⟩ := dr_some hJ
  obtain ⟨⟨h2, r3⟩, e4, hJ⟩ := ob_some hJ
  exact (wo_X9_carryOut N a1 h y1 y2 e4).tr (wb_X9_remove_20 N t0 _ _ hJ)
theorem wb_X9_remove_11 (N : Nat) (t0 : Nat) (h : Hp) (x2 : Int32) (y0 : Option Nat) (y1 : Option Nat) (y2 : Option Nat) (hJ : B_X9_remove_11 N t0 h x2 y0 y1 y2 = some (hz, rz)) : Fw h hz := by
  unfold B_X9_remove_11 at hJ
  obtain ⟨a6, ea6, -, hJ⟩ := dr_some hJ
  obtain ⟨⟨h7, r8⟩, e9, hJ⟩ := ob_some hJ
  exact (wo_X2_init N a6 h (3 : Int32) x2 e9).tr (wb_X9_remove_17 N t0 _ _ _ _ hJ)
theorem wb_X9_remove_5 (N : Nat) (t0 : Nat) (h : Hp) (x2 : Int32) (y0 : Option Nat) (hJ : B_X9_remove_5 N t0 h x2 y0 = some (hz, rz)) : Fw h hz := by
  unfold B_X9_remove_5 at hJ
  exact (Fw.new h _ _ _).tr (wb_X9_remove_11 N t0 _ _ _ _ _ hJ)
theorem wb_X9_remove_0 (N : Nat) (t0 : Nat) (h : Hp) (x1 : Int32) (x2 : Int32) (hJ : B_X9_remove_0 N t0 h x1 x2 = some (hz, rz)) : Fw h hz := by
  unfold B_X9_remove_0 at hJ
  obtain ⟨⟨h12, r13⟩, e14, hJ⟩ := ob_some hJ
  exact (wo_X9_writingOne N t0 h x1 e14).tr (wb_X9_remove_5 N t0 _ _ _ hJ)
theorem wo_X9_remove (N : Nat) (t0 : Nat) (h : Hp) (x1 : Int32) (x2 : Int32) (hJ : J_X9_remove N t0 h x1 x2 = some (hz, rz)) : Fw h hz := wb_X9_remove_0 N t0 h x1 x2 hJ
end V_X9_remove
section V_X9_save
variable {hz : Hp} {rz : Int32}
theorem wb_X9_save_20 (N : Nat) (t0 : Nat) (h : Hp) (y0 : Int32) (hJ : B_X9_save_20 N t0 h y0 = some (hz, rz)) : Fw h hz := by
  unfold B_X9_save_20 at hJ
  obtain ⟨rfl, -⟩ := rs2 hJ
  exact (Fw.rf h)
theorem wb_X9_save_17 (N : Nat) (t0 : Nat) (h : Hp) (y0 : Option Nat) (y1 : Option Nat) (y2 : Option Nat) (hJ : B_X9_save_17 N t0 h y0 y1 y2 = some (hz, rz)) : Fw h hz := by
  unfold B_X9_save_17 at hJ
  obtain ⟨a1, ea1, -, hJ⟩ := dr_some hJ
  obtain ⟨⟨h2, r3⟩, e4, hJ⟩ := ob_some hJ
  exact (wo_X9_carryOut N a1 h y1 y2 e4).tr (wb_X9_save_20 N t0 _ _ hJ)
theorem wb_X9_save_11 (N : Nat) (t0 : Nat) (h : Hp) (y0 : Option Nat) (y1 : Option Nat) (y2 : Option Nat) (hJ : B_X9_save_11 N t0 h y0 y1 y2 = some (hz, rz)) : Fw h hz := by
  unfold B_X9_save_11 at hJ
  obtain ⟨a6, ea6, -, hJ⟩ := dr_some hJ
  obtain ⟨⟨h7, r8⟩, e9, hJ⟩ := ob_some hJ
  exact (wo_X2_init N a6 h (4 : Int32) (0 : Int32) e9).tr (wb_X9_save_17 N t0 _ _ _ _ hJ)
theorem wb_X9_save_5 (N : Nat) (t0 : Nat) (h : Hp) (y0 : Option Nat) (hJ : B_X9_save_5 N t0 h y0 = some (hz, rz)) : Fw h hz := by
  unfold B_X9_save_5 at hJ
  exact (Fw.new h _ _ _).tr (wb_X9_save_11 N t0 _ _ _ _ hJ)
theorem wb_X9_save_0 (N : Nat) (t0 : Nat) (h : Hp) (x1 : Int32) (hJ : B_X9_save_0 N t0 h x1 = some (hz, rz)) : Fw h hz := by
  unfold B_X9_save_0 at hJ
  obtain ⟨⟨h12, r13⟩, e14, hJ⟩ := ob_some hJ
  exact (wo_X9_activeOne N t0 h x1 e14).tr (wb_X9_save_5 N t0 _ _ hJ)
theorem wo_X9_save (N : Nat) (t0 : Nat) (h : Hp) (x1 : Int32) (hJ : J_X9_save N t0 h x1 = some (hz, rz)) : Fw h hz := wb_X9_save_0 N t0 h x1 hJ
end V_X9_save
section V_X9_undo
variable {hz : Hp} {rz : Int32}
theorem wb_X9_undo_51 (N : Nat) (t0 : Nat) (h : Hp) (y0 : Int32) (hJ : B_X9_undo_51 N t0 h y0 = some (hz, rz)) : Fw h hz := by
  unfold B_X9_undo_51 at hJ
  obtain ⟨rfl, -⟩ := rs2 hJ
  exact (Fw.rf h)
theorem wb_X9_undo_36 (N : Nat) (t0 : Nat) (h : Hp) (x2 : Int32) (x3 : Option Nat) (y0 : Option Nat) (hJ : B_X9_undo_36 N t0 h x2 x3 y0 = some (hz, rz)) : Fw h hz := by
  unfold B_X9_undo_36 at hJ
  obtain ⟨a1, ea1, -, hJ⟩ := dr_some hJ
  obtain ⟨⟨h2, r3⟩, e4, hJ⟩ := ob_some hJ
  exact (Fw.tr (show Fw h (h.sfi 503 a1 x2) from (Fw.rf h)) ((wo_X9_carryOut N t0 (h.sfi 503 a1 x2) x3 (some a1) e4).tr (wb_X9_undo_51 N t0 _ _ hJ)))
theorem wb_X9_undo_30 (N : Nat) (t0 : Nat) (h : Hp) (x2 : Int32) (x3 : Option Nat) (y0 : Option Nat) (hJ : B_X9_undo_30 N t0 h x2 x3 y0 = some (hz, rz)) : Fw h hz := by
  unfold B_X9_undo_30 at hJ
  obtain ⟨a6, ea6, -, hJ⟩ := dr_some hJ
  obtain ⟨⟨h7, r8⟩, e9, hJ⟩ := ob_some hJ
  exact (wo_X2_init N a6 h (5 : Int32) (0 : Int32) e9).tr (wb_X9_undo_36 N t0 _ _ _ _ hJ)
theorem wb_X9_undo_14 (N : Nat) (t0 : Nat) (h : Hp) (x2 : Int32) (x3 : Option Nat) (y0 : Int32) (hJ : B_X9_undo_14 N t0 h x2 x3 y0 = some (hz, rz)) : Fw h hz := by
  unfold B_X9_undo_14 at hJ
  by_cases c11 : y0 = 0
  · have hJ := it_pos c11 hJ
    cases hJ
  · have hJ := it_neg c11 hJ
    exact (Fw.new h _ _ _).tr (wb_X9_undo_30 N t0 _ _ _ _ hJ)
theorem wb_X9_undo_5 (N : Nat) (t0 : Nat) (h : Hp) (x2 : Int32) (y0 : Option Nat) (hJ : B_X9_undo_5 N t0 h x2 y0 = some (hz, rz)) : Fw h hz := by
  unfold B_X9_undo_5 at hJ
  obtain ⟨a13, ea13, -, hJ⟩ := dr_some hJ
  obtain ⟨a14, ea14, -, hJ⟩ := dr_some hJ
  obtain ⟨⟨h15, r16⟩, e17, hJ⟩ := ob_some hJ
  exact (wo_X8_hasPlace N a14 h x2 e17).tr (wb_X9_undo_14 N t0 _ _ _ _ hJ)
theorem wb_X9_undo_0 (N : Nat) (t0 : Nat) (h : Hp) (x1 : Int32) (x2 : Int32) (hJ : B_X9_undo_0 N t0 h x1 x2 = some (hz, rz)) : Fw h hz := by
  unfold B_X9_undo_0 at hJ
  obtain ⟨⟨h19, r20⟩, e21, hJ⟩ := ob_some hJ
  exact (wo_X9_activeOne N t0 h x1 e21).tr (wb_X9_undo_5 N t0 _ _ _ hJ)
theorem wo_X9_undo (N : Nat) (t0 : Nat) (h : Hp) (x1 : Int32) (x2 : Int32) (hJ : J_X9_undo N t0 h x1 x2 = some (hz, rz)) : Fw h hz := wb_X9_undo_0 N t0 h x1 x2 hJ
end V_X9_undo
section V_X9_gatherIfReader
variable {hz : Hp}
theorem wb_X9_gatherIfReader_9 (N : Nat) (t0 : Nat) (h : Hp) (hJ : B_X9_gatherIfReader_9 N t0 h = some (hz, ())) : Fw h hz := by
  unfold B_X9_gatherIfReader_9 at hJ
  obtain ⟨rfl, -⟩ := rs2 hJ
  exact (Fw.rf h)
theorem wb_X9_gatherIfReader_63 (N : Nat) (t0 : Nat) (h : Hp) (y0 : Int32) (hJ : B_X9_gatherIfReader_63 N t0 h y0 = some (hz, ())) : Fw h hz := by
  unfold B_X9_gatherIfReader_63 at hJ
  obtain ⟨rfl, -⟩ := rs2 hJ
  exact (Fw.rf h)
theorem wb_X9_gatherIfReader_65 (N : Nat) (k21 : Hp → (Option Nat) → (Option Nat) → Int32 → Option (Hp × Unit)) (t0 : Nat) (h : Hp) (x1 : Option Nat) (x3 : Option Nat) (x4 : Int32) (m21 : ∀ (h : Hp) (x1 : Option Nat) (x3 : Option Nat) (x4 : Int32), k21 h x1 x3 x4 = some (hz, ()) → Fw h hz) (hJ : B_X9_gatherIfReader_65 N k21 t0 h x1 x3 x4 = some (hz, ())) : Fw h hz := by
  unfold B_X9_gatherIfReader_65 at hJ
  exact m21 _ _ _ _ hJ
theorem wb_X9_gatherIfReader_52 (N : Nat) (k21 : Hp → (Option Nat) → (Option Nat) → Int32 → Option (Hp × Unit)) (t0 : Nat) (h : Hp) (x1 : Option Nat) (x3 : Option Nat) (x4 : Int32) (y0 : Int32) (m21 : ∀ (h : Hp) (x1 : Option Nat) (x3 : Option Nat) (x4 : Int32), k21 h x1 x3 x4 = some (hz, ()) → Fw h hz) (hJ : B_X9_gatherIfReader_52 N k21 t0 h x1 x3 x4 y0 = some (hz, ())) : Fw h hz := by
  unfold B_X9_gatherIfReader_52 at hJ
  by_cases c1 : y0 = 0
  · have hJ := it_pos c1 hJ
    exact wb_X9_gatherIfReader_65 N k21 t0 _ _ _ _ m21 hJ
  · have hJ := it_neg c1 hJ
    obtain ⟨a2, ea2, -, hJ⟩ := dr_some hJ
    obtain ⟨⟨h3, r4⟩, e5, hJ⟩ := ob_some hJ
    exact (wo_Jx4a65c_add_9ea2d N a2 h x1 e5).tr (wb_X9_gatherIfReader_63 N t0 _ _ hJ)
theorem wb_X9_gatherIfReader_36 (N : Nat) (k21 : Hp → (Option Nat) → (Option Nat) → Int32 → Option (Hp × Unit)) (t0 : Nat) (h : Hp) (x1 : Option Nat) (x3 : Option Nat) (x4 : Int32) (y0 : Option Nat) (m21 : ∀ (h : Hp) (x1 : Option Nat) (x3 : Option Nat) (x4 : Int32), k21 h x1 x3 x4 = some (hz, ()) → Fw h hz) (hJ : B_X9_gatherIfReader_36 N k21 t0 h x1 x3 x4 y0 = some (hz, ())) : Fw h hz := by
  unfold B_X9_gatherIfReader_36 at hJ
  cases ea7 : y0 with
  | none =>
    have hJ := nl_none ea7 hJ
    exact wb_X9_gatherIfReader_65 N k21 t0 _ _ _ _ m21 hJ
  | some a7 =>
    have hJ := nl_some ea7 hJ
    obtain ⟨-, hJ⟩ := ck_some hJ
    obtain ⟨a9, ea9, -, hJ⟩ := dr_some hJ
    obtain ⟨⟨h10, r11⟩, e12, hJ⟩ := ob_some hJ
    exact (wo_X7_hasReadKey N a9 h (h.fi 600 a7) e12).tr (wb_X9_gatherIfReader_52 N k21 t0 _ _ _ _ _ m21 hJ)
theorem wb_X9_gatherIfReader_27 (N : Nat) (k21 : Hp → (Option Nat) → (Option Nat) → Int32 → Option (Hp × Unit)) (t0 : Nat) (h : Hp) (x1 : Option Nat) (x3 : Option Nat) (x4 : Int32) (y0 : Int32) (y1 : Int32) (m21 : ∀ (h : Hp) (x1 : Option Nat) (x3 : Option Nat) (x4 : Int32), k21 h x1 x3 x4 = some (hz, ()) → Fw h hz) (hJ : B_X9_gatherIfReader_27 N k21 t0 h x1 x3 x4 y0 y1 = some (hz, ())) : Fw h hz := by
  unfold B_X9_gatherIfReader_27 at hJ
  by_cases c14 : y1 ≤ y0
  · have hJ := it_pos c14 hJ
    obtain ⟨rfl, -⟩ := rs2 hJ
    exact (Fw.rf h)
  · have hJ := it_neg c14 hJ
    obtain ⟨a15, ea15, -, hJ⟩ := dr_some hJ
    obtain ⟨⟨h16, r17⟩, e18, hJ⟩ := ob_some hJ
    exact (wo_X5_chainAt N a15 h x4 e18).tr (wb_X9_gatherIfReader_36 N k21 t0 _ _ _ _ _ m21 hJ)
theorem wb_X9_gatherIfReader_21 (N : Nat) (k21 : Hp → (Option Nat) → (Option Nat) → Int32 → Option (Hp × Unit)) (t0 : Nat) (h : Hp) (x1 : Option Nat) (x3 : Option Nat) (x4 : Int32) (m21 : ∀ (h : Hp) (x1 : Option Nat) (x3 : Option Nat) (x4 : Int32), k21 h x1 x3 x4 = some (hz, ()) → Fw h hz) (hJ : B_X9_gatherIfReader_21 N k21 t0 h x1 x3 x4 = some (hz, ())) : Fw h hz := by
  unfold B_X9_gatherIfReader_21 at hJ
  obtain ⟨a20, ea20, -, hJ⟩ := dr_some hJ
  obtain ⟨⟨h21, r22⟩, e23, hJ⟩ := ob_some hJ
  exact (wo_X5_size N a20 h e23).tr (wb_X9_gatherIfReader_27 N k21 t0 _ _ _ _ _ _ m21 hJ)
theorem wl_X9_gatherIfReader_21 (N : Nat) (t0 : Nat) : ∀ (n : Nat) (h : Hp) (x1 : Option Nat) (x3 : Option Nat) (x4 : Int32), L_X9_gatherIfReader_21 N t0 n h x1 x3 x4 = some (hz, ()) → Fw h hz := by
  intro n
  induction n with
  | zero => intro h x1 x3 x4 hJ; cases hJ
  | succ n ih => intro h x1 x3 x4 hJ; exact wb_X9_gatherIfReader_21 N (L_X9_gatherIfReader_21 N t0 n) t0 h x1 x3 x4 ih hJ
theorem wb_X9_gatherIfReader_0 (N : Nat) (t0 : Nat) (h : Hp) (x1 : Option Nat) (x2 : Option Nat) (hJ : B_X9_gatherIfReader_0 N t0 h x1 x2 = some (hz, ())) : Fw h hz := by
  unfold B_X9_gatherIfReader_0 at hJ
  cases ea25 : x1 with
  | none =>
    have hJ := nl_none ea25 hJ
    exact wb_X9_gatherIfReader_9 N t0 _ hJ
  | some a25 =>
    have hJ := nl_some ea25 hJ
    by_cases c26 : (some a25) = x2
    · have hJ := it_pos c26 hJ
      exact wb_X9_gatherIfReader_9 N t0 _ hJ
    · have hJ := it_neg c26 hJ
      obtain ⟨a27, ea27, -, hJ⟩ := dr_some hJ
      obtain ⟨a28, ea28, -, hJ⟩ := dr_some hJ
      exact wl_X9_gatherIfReader_21 N t0 N _ _ _ _ hJ
theorem wo_X9_gatherIfReader (N : Nat) (t0 : Nat) (h : Hp) (x1 : Option Nat) (x2 : Option Nat) (hJ : J_X9_gatherIfReader N t0 h x1 x2 = some (hz, ())) : Fw h hz := wb_X9_gatherIfReader_0 N t0 h x1 x2 hJ
end V_X9_gatherIfReader
section V_X9_gatherReaders
variable {hz : Hp}
theorem wb_X9_gatherReaders_35 (N : Nat) (k14 : Hp → (Option Nat) → Int32 → Option (Hp × Unit)) (t0 : Nat) (h : Hp) (x1 : Option Nat) (x2 : Int32) (m14 : ∀ (h : Hp) (x1 : Option Nat) (x2 : Int32), k14 h x1 x2 = some (hz, ()) → Fw h hz) (hJ : B_X9_gatherReaders_35 N k14 t0 h x1 x2 = some (hz, ())) : Fw h hz := by
  unfold B_X9_gatherReaders_35 at hJ
  exact m14 _ _ _ hJ
theorem wb_X9_gatherReaders_31 (N : Nat) (k14 : Hp → (Option Nat) → Int32 → Option (Hp × Unit)) (t0 : Nat) (h : Hp) (x1 : Option Nat) (x2 : Int32) (y0 : Option Nat) (y1 : Option Nat) (m14 : ∀ (h : Hp) (x1 : Option Nat) (x2 : Int32), k14 h x1 x2 = some (hz, ()) → Fw h hz) (hJ : B_X9_gatherReaders_31 N k14 t0 h x1 x2 y0 y1 = some (hz, ())) : Fw h hz := by
  unfold B_X9_gatherReaders_31 at hJ
  obtain ⟨a1, ea1, -, hJ⟩ := dr_some hJ
  obtain ⟨⟨h2, r3⟩, e4, hJ⟩ := ob_some hJ
  exact (wo_X9_gatherIfReader N a1 h y1 x1 e4).tr (wb_X9_gatherReaders_35 N k14 t0 _ _ _ m14 hJ)
theorem wb_X9_gatherReaders_70 (N : Nat) (k43 : Hp → (Option Nat) → Int32 → Option (Hp × Unit)) (t0 : Nat) (h : Hp) (x1 : Option Nat) (x2 : Int32) (m43 : ∀ (h : Hp) (x1 : Option Nat) (x2 : Int32), k43 h x1 x2 = some (hz, ()) → Fw h hz) (hJ : B_X9_gatherReaders_70 N k43 t0 h x1 x2 = some (hz, ())) : Fw h hz := by
  unfold B_X9_gatherReaders_70 at hJ
  exact m43 _ _ _ hJ
theorem wb_X9_gatherReaders_63 (N : Nat) (k43 : Hp → (Option Nat) → Int32 → Option (Hp × Unit)) (t0 : Nat) (h : Hp) (x1 : Option Nat) (x2 : Int32) (y0 : Option Nat) (y1 : Option Nat) (m43 : ∀ (h : Hp) (x1 : Option Nat) (x2 : Int32), k43 h x1 x2 = some (hz, ()) → Fw h hz) (hJ : B_X9_gatherReaders_63 N k43 t0 h x1 x2 y0 y1 = some (hz, ())) : Fw h hz := by
  unfold B_X9_gatherReaders_63 at hJ
  obtain ⟨a6, ea6, -, hJ⟩ := dr_some hJ
  obtain ⟨a7, ea7, -, hJ⟩ := dr_some hJ
  obtain ⟨⟨h8, r9⟩, e10, hJ⟩ := ob_some hJ
  exact (wo_X9_gatherIfReader N a7 h (some a6) x1 e10).tr (wb_X9_gatherReaders_70 N k43 t0 _ _ _ m43 hJ)
theorem wb_X9_gatherReaders_51 (N : Nat) (k43 : Hp → (Option Nat) → Int32 → Option (Hp × Unit)) (t0 : Nat) (h : Hp) (x1 : Option Nat) (x2 : Int32) (y0 : Int32) (y1 : Int32) (m43 : ∀ (h : Hp) (x1 : Option Nat) (x2 : Int32), k43 h x1 x2 = some (hz, ()) → Fw h hz) (hJ : B_X9_gatherReaders_51 N k43 t0 h x1 x2 y0 y1 = some (hz, ())) : Fw h hz := by
  unfold B_X9_gatherReaders_51 at hJ
  by_cases c12 : y1 ≤ y0
  · have hJ := it_pos c12 hJ
    obtain ⟨rfl, -⟩ := rs2 hJ
    exact (Fw.rf h)
  · have hJ := it_neg c12 hJ
    obtain ⟨a13, ea13, -, hJ⟩ := dr_some hJ
    obtain ⟨⟨h14, r15⟩, e16, hJ⟩ := ob_some hJ
    exact (wo_Jx4a65c_get_915e3 N a13 h x2 e16).tr (wb_X9_gatherReaders_63 N k43 t0 _ _ _ _ _ m43 hJ)
theorem wb_X9_gatherReaders_43 (N : Nat) (k43 : Hp → (Option Nat) → Int32 → Option (Hp × Unit)) (t0 : Nat) (h : Hp) (x1 : Option Nat) (x2 : Int32) (m43 : ∀ (h : Hp) (x1 : Option Nat) (x2 : Int32), k43 h x1 x2 = some (hz, ()) → Fw h hz) (hJ : B_X9_gatherReaders_43 N k43 t0 h x1 x2 = some (hz, ())) : Fw h hz := by
  unfold B_X9_gatherReaders_43 at hJ
  obtain ⟨a18, ea18, -, hJ⟩ := dr_some hJ
  obtain ⟨⟨h19, r20⟩, e21, hJ⟩ := ob_some hJ
  exact (wo_Jx4a65c_size_8abf5 N a18 h e21).tr (wb_X9_gatherReaders_51 N k43 t0 _ _ _ _ _ m43 hJ)
theorem wl_X9_gatherReaders_43 (N : Nat) (t0 : Nat) : ∀ (n : Nat) (h : Hp) (x1 : Option Nat) (x2 : Int32), L_X9_gatherReaders_43 N t0 n h x1 x2 = some (hz, ()) → Fw h hz := by
  intro n
  induction n with
  | zero => intro h x1 x2 hJ; cases hJ
  | succ n ih => intro h x1 x2 hJ; exact wb_X9_gatherReaders_43 N (L_X9_gatherReaders_43 N t0 n) t0 h x1 x2 ih hJ
theorem wb_X9_gatherReaders_22 (N : Nat) (k14 : Hp → (Option Nat) → Int32 → Option (Hp × Unit)) (t0 : Nat) (h : Hp) (x1 : Option Nat) (x2 : Int32) (y0 : Int32) (y1 : Int32) (m14 : ∀ (h : Hp) (x1 : Option Nat) (x2 : Int32), k14 h x1 x2 = some (hz, ()) → Fw h hz) (hJ : B_X9_gatherReaders_22 N k14 t0 h x1 x2 y0 y1 = some (hz, ())) : Fw h hz := by
  unfold B_X9_gatherReaders_22 at hJ
  by_cases c23 : y1 < y0
  · have hJ := it_pos c23 hJ
    exact wl_X9_gatherReaders_43 N t0 N _ _ _ hJ
  · have hJ := it_neg c23 hJ
    obtain ⟨⟨h24, r25⟩, e26, hJ⟩ := ob_some hJ
    exact (wo_X9_withMoment N t0 h x2 e26).tr (wb_X9_gatherReaders_31 N k14 t0 _ _ _ _ _ m14 hJ)
theorem wb_X9_gatherReaders_14 (N : Nat) (k14 : Hp → (Option Nat) → Int32 → Option (Hp × Unit)) (t0 : Nat) (h : Hp) (x1 : Option Nat) (x2 : Int32) (m14 : ∀ (h : Hp) (x1 : Option Nat) (x2 : Int32), k14 h x1 x2 = some (hz, ()) → Fw h hz) (hJ : B_X9_gatherReaders_14 N k14 t0 h x1 x2 = some (hz, ())) : Fw h hz := by
  unfold B_X9_gatherReaders_14 at hJ
  obtain ⟨a28, ea28, -, hJ⟩ := dr_some hJ
  obtain ⟨⟨h29, r30⟩, e31, hJ⟩ := ob_some hJ
  exact (wo_Jx4a65c_size_8abf5 N a28 h e31).tr (wb_X9_gatherReaders_22 N k14 t0 _ _ _ _ _ m14 hJ)
theorem wl_X9_gatherReaders_14 (N : Nat) (t0 : Nat) : ∀ (n : Nat) (h : Hp) (x1 : Option Nat) (x2 : Int32), L_X9_gatherReaders_14 N t0 n h x1 x2 = some (hz, ()) → Fw h hz := by
  intro n
  induction n with
  | zero => intro h x1 x2 hJ; cases hJ
  | succ n ih => intro h x1 x2 hJ; exact wb_X9_gatherReaders_14 N (L_X9_gatherReaders_14 N t0 n) t0 h x1 x2 ih hJ
theorem wb_X9_gatherReaders_7 (N : Nat) (t0 : Nat) (h : Hp) (x1 : Option Nat) (hJ : B_X9_gatherReaders_7 N t0 h x1 = some (hz, ())) : Fw h hz := by
  unfold B_X9_gatherReaders_7 at hJ
  obtain ⟨a33, ea33, -, hJ⟩ := dr_some hJ
  exact wl_X9_gatherReaders_14 N t0 N _ _ _ hJ
theorem wb_X9_gatherReaders_0 (N : Nat) (t0 : Nat) (h : Hp) (x1 : Option Nat) (hJ : B_X9_gatherReaders_0 N t0 h x1 = some (hz, ())) : Fw h hz := by
  unfold B_X9_gatherReaders_0 at hJ
  obtain ⟨a34, ea34, -, hJ⟩ := dr_some hJ
  obtain ⟨⟨h35, r36⟩, e37, hJ⟩ := ob_some hJ
  exact (wo_Jx4a65c_clear_da8c8 N a34 h e37).tr (wb_X9_gatherReaders_7 N t0 _ _ hJ)
theorem wo_X9_gatherReaders (N : Nat) (t0 : Nat) (h : Hp) (x1 : Option Nat) (hJ : J_X9_gatherReaders N t0 h x1 = some (hz, ())) : Fw h hz := wb_X9_gatherReaders_0 N t0 h x1 hJ
end V_X9_gatherReaders
section V_X9_isInConflict
variable {hz : Hp} {rz : Int32}
theorem wb_X9_isInConflict_93 (N : Nat) (k10 : Hp → (Option Nat) → (Option Nat) → Int32 → Option (Hp × Int32)) (t0 : Nat) (h : Hp) (x1 : Option Nat) (x2 : Option Nat) (x3 : Int32) (m10 : ∀ (h : Hp) (x1 : Option Nat) (x2 : Option Nat) (x3 : Int32), k10 h x1 x2 x3 = some (hz, rz) → Fw h hz) (hJ : B_X9_isInConflict_93 N k10 t0 h x1 x2 x3 = some (hz, rz)) : Fw h hz := by
  unfold B_X9_isInConflict_93 at hJ
  exact m10 _ _ _ _ hJ
theorem wb_X9_isInConflict_91 (N : Nat) (t0 : Nat) (h : Hp) (hJ : B_X9_isInConflict_91 N t0 h = some (hz, rz)) : Fw h hz := by
  unfold B_X9_isInConflict_91 at hJ
  obtain ⟨rfl, -⟩ := rs2 hJ
  exact (Fw.rf h)
theorem wb_X9_isInConflict_65 (N : Nat) (k10 : Hp → (Option Nat) → (Option Nat) → Int32 → Option (Hp × Int32)) (t0 : Nat) (h : Hp) (x1 : Option Nat) (x2 : Option Nat) (x3 : Int32) (x4 : Option Nat) (y0 : Option Nat) (m10 : ∀ (h : Hp) (x1 : Option Nat) (x2 : Option Nat) (x3 : Int32), k10 h x1 x2 x3 = some (hz, rz) → Fw h hz) (hJ : B_X9_isInConflict_65 N k10 t0 h x1 x2 x3 x4 y0 = some (hz, rz)) : Fw h hz := by
  unfold B_X9_isInConflict_65 at hJ
  cases ea1 : y0 with
  | none =>
    have hJ := nl_none ea1 hJ
    exact wb_X9_isInConflict_93 N k10 t0 _ _ _ _ m10 hJ
  | some a1 =>
    have hJ := nl_some ea1 hJ
    obtain ⟨a2, ea2, -, hJ⟩ := dr_some hJ
    obtain ⟨-, hJ⟩ := ck_some hJ
    obtain ⟨a4, ea4, -, hJ⟩ := dr_some hJ
    obtain ⟨⟨h5, r6⟩, e7, hJ⟩ := ob_some hJ
    exact (wo_X9_blame N t0 h (1 : Int32) (h.fi 1000 a2) (h.fi 701 a1) (h.fi 600 a4) e7).tr (wb_X9_isInConflict_91 N t0 _ hJ)
theorem wb_X9_isInConflict_45 (N : Nat) (k10 : Hp → (Option Nat) → (Option Nat) → Int32 → Option (Hp × Int32)) (t0 : Nat) (h : Hp) (x1 : Option Nat) (x2 : Option Nat) (x3 : Int32) (x4 : Option Nat) (y0 : Option Nat) (m10 : ∀ (h : Hp) (x1 : Option Nat) (x2 : Option Nat) (x3 : Int32), k10 h x1 x2 x3 = some (hz, rz) → Fw h hz) (hJ : B_X9_isInConflict_45 N k10 t0 h x1 x2 x3 x4 y0 = some (hz, rz)) : Fw h hz := by
  unfold B_X9_isInConflict_45 at hJ
  cases ea9 : y0 with
  | none =>
    have hJ := nl_none ea9 hJ
    exact wb_X9_isInConflict_65 N k10 t0 _ _ _ _ _ _ m10 hJ
  | some a9 =>
    have hJ := nl_some ea9 hJ
    obtain ⟨a10, ea10, -, hJ⟩ := dr_some hJ
    obtain ⟨-, hJ⟩ := ck_some hJ
    obtain ⟨⟨h12, r13⟩, e14, hJ⟩ := ob_some hJ
    exact (wo_X3_firstAfter N a9 h (h.fi 1001 a10) e14).tr (wb_X9_isInConflict_65 N k10 t0 _ _ _ _ _ _ m10 hJ)
theorem wb_X9_isInConflict_23 (N : Nat) (k10 : Hp → (Option Nat) → (Option Nat) → Int32 → Option (Hp × Int32)) (t0 : Nat) (h : Hp) (x1 : Option Nat) (x2 : Option Nat) (x3 : Int32) (y0 : Option Nat) (m10 : ∀ (h : Hp) (x1 : Option Nat) (x2 : Option Nat) (x3 : Int32), k10 h x1 x2 x3 = some (hz, rz) → Fw h hz) (hJ : B_X9_isInConflict_23 N k10 t0 h x1 x2 x3 y0 = some (hz, rz)) : Fw h hz := by
  unfold B_X9_isInConflict_23 at hJ
  cases ea16 : y0 with
  | none =>
    have hJ := nl_none ea16 hJ
    exact wb_X9_isInConflict_93 N k10 t0 _ _ _ _ m10 hJ
  | some a16 =>
    have hJ := nl_some ea16 hJ
    obtain ⟨-, hJ⟩ := ck_some hJ
    obtain ⟨a18, ea18, -, hJ⟩ := dr_some hJ
    obtain ⟨⟨h19, r20⟩, e21, hJ⟩ := ob_some hJ
    exact (wo_X5_find N a18 h (h.fi 600 a16) e21).tr (wb_X9_isInConflict_45 N k10 t0 _ _ _ _ _ _ m10 hJ)
theorem wb_X9_isInConflict_15 (N : Nat) (k10 : Hp → (Option Nat) → (Option Nat) → Int32 → Option (Hp × Int32)) (t0 : Nat) (h : Hp) (x1 : Option Nat) (x2 : Option Nat) (x3 : Int32) (y0 : Int32) (y1 : Int32) (m10 : ∀ (h : Hp) (x1 : Option Nat) (x2 : Option Nat) (x3 : Int32), k10 h x1 x2 x3 = some (hz, rz) → Fw h hz) (hJ : B_X9_isInConflict_15 N k10 t0 h x1 x2 x3 y0 y1 = some (hz, rz)) : Fw h hz := by
  unfold B_X9_isInConflict_15 at hJ
  by_cases c23 : y1 ≤ y0
  · have hJ := it_pos c23 hJ
    obtain ⟨rfl, -⟩ := rs2 hJ
    exact (Fw.rf h)
  · have hJ := it_neg c23 hJ
    obtain ⟨a24, ea24, -, hJ⟩ := dr_some hJ
    obtain ⟨⟨h25, r26⟩, e27, hJ⟩ := ob_some hJ
    exact (wo_X5_chainAt N a24 h x3 e27).tr (wb_X9_isInConflict_23 N k10 t0 _ _ _ _ _ m10 hJ)
theorem wb_X9_isInConflict_10 (N : Nat) (k10 : Hp → (Option Nat) → (Option Nat) → Int32 → Option (Hp × Int32)) (t0 : Nat) (h : Hp) (x1 : Option Nat) (x2 : Option Nat) (x3 : Int32) (m10 : ∀ (h : Hp) (x1 : Option Nat) (x2 : Option Nat) (x3 : Int32), k10 h x1 x2 x3 = some (hz, rz) → Fw h hz) (hJ : B_X9_isInConflict_10 N k10 t0 h x1 x2 x3 = some (hz, rz)) : Fw h hz := by
  unfold B_X9_isInConflict_10 at hJ
  obtain ⟨a29, ea29, -, hJ⟩ := dr_some hJ
  obtain ⟨⟨h30, r31⟩, e32, hJ⟩ := ob_some hJ
  exact (wo_X5_size N a29 h e32).tr (wb_X9_isInConflict_15 N k10 t0 _ _ _ _ _ _ m10 hJ)
theorem wl_X9_isInConflict_10 (N : Nat) (t0 : Nat) : ∀ (n : Nat) (h : Hp) (x1 : Option Nat) (x2 : Option Nat) (x3 : Int32), L_X9_isInConflict_10 N t0 n h x1 x2 x3 = some (hz, rz) → Fw h hz := by
  intro n
  induction n with
  | zero => intro h x1 x2 x3 hJ; cases hJ
  | succ n ih => intro h x1 x2 x3 hJ; exact wb_X9_isInConflict_10 N (L_X9_isInConflict_10 N t0 n) t0 h x1 x2 x3 ih hJ
theorem wb_X9_isInConflict_0 (N : Nat) (t0 : Nat) (h : Hp) (x1 : Option Nat) (hJ : B_X9_isInConflict_0 N t0 h x1 = some (hz, rz)) : Fw h hz := by
  unfold B_X9_isInConflict_0 at hJ
  obtain ⟨a34, ea34, -, hJ⟩ := dr_some hJ
  obtain ⟨a35, ea35, -, hJ⟩ := dr_some hJ
  exact wl_X9_isInConflict_10 N t0 N _ _ _ _ hJ
theorem wo_X9_isInConflict (N : Nat) (t0 : Nat) (h : Hp) (x1 : Option Nat) (hJ : J_X9_isInConflict N t0 h x1 = some (hz, rz)) : Fw h hz := wb_X9_isInConflict_0 N t0 h x1 hJ
end V_X9_isInConflict
section V_X9_isInDanger
variable {hz : Hp} {rz : Int32}
theorem wb_X9_isInDanger_59 (N : Nat) (k4 : Hp → (Option Nat) → (Option Nat) → Int32 → Option (Hp × Int32)) (t0 : Nat) (h : Hp) (x1 : Option Nat) (x2 : Option Nat) (x3 : Int32) (m4 : ∀ (h : Hp) (x1 : Option Nat) (x2 : Option Nat) (x3 : Int32), k4 h x1 x2 x3 = some (hz, rz) → Fw h hz) (hJ : B_X9_isInDanger_59 N k4 t0 h x1 x2 x3 = some (hz, rz)) : Fw h hz := by
  unfold B_X9_isInDanger_59 at hJ
  exact m4 _ _ _ _ hJ
theorem wb_X9_isInDanger_56 (N : Nat) (k4 : Hp → (Option Nat) → (Option Nat) → Int32 → Option (Hp × Int32)) (t0 : Nat) (h : Hp) (x1 : Option Nat) (x3 : Int32) (x4 : Option Nat) (m4 : ∀ (h : Hp) (x1 : Option Nat) (x2 : Option Nat) (x3 : Int32), k4 h x1 x2 x3 = some (hz, rz) → Fw h hz) (hJ : B_X9_isInDanger_56 N k4 t0 h x1 x3 x4 = some (hz, rz)) : Fw h hz := by
  unfold B_X9_isInDanger_56 at hJ
  exact wb_X9_isInDanger_59 N k4 t0 _ _ _ _ m4 hJ
theorem wb_X9_isInDanger_37 (N : Nat) (k4 : Hp → (Option Nat) → (Option Nat) → Int32 → Option (Hp × Int32)) (t0 : Nat) (h : Hp) (x1 : Option Nat) (x2 : Option Nat) (x3 : Int32) (x4 : Option Nat) (y0 : Int32) (m4 : ∀ (h : Hp) (x1 : Option Nat) (x2 : Option Nat) (x3 : Int32), k4 h x1 x2 x3 = some (hz, rz) → Fw h hz) (hJ : B_X9_isInDanger_37 N k4 t0 h x1 x2 x3 x4 y0 = some (hz, rz)) : Fw h hz := by
  unfold B_X9_isInDanger_37 at hJ
  by_cases c1 : y0 = 0
  · have hJ := it_pos c1 hJ
    exact wb_X9_isInDanger_59 N k4 t0 _ _ _ _ m4 hJ
  · have hJ := it_neg c1 hJ
    cases ea2 : x2 with
    | none =>
      have hJ := nl_none ea2 hJ
      exact wb_X9_isInDanger_56 N k4 t0 _ _ _ _ m4 hJ
    | some a2 =>
      have hJ := nl_some ea2 hJ
      obtain ⟨a3, ea3, -, hJ⟩ := dr_some hJ
      obtain ⟨-, hJ⟩ := ck_some hJ
      by_cases c5 : (h.fi 1000 a2) ≤ (h.fi 1000 a3)
      · have hJ := it_pos c5 hJ
        exact wb_X9_isInDanger_59 N k4 t0 _ _ _ _ m4 hJ
      · have hJ := it_neg c5 hJ
        exact wb_X9_isInDanger_56 N k4 t0 _ _ _ _ m4 hJ
theorem wb_X9_isInDanger_23 (N : Nat) (k4 : Hp → (Option Nat) → (Option Nat) → Int32 → Option (Hp × Int32)) (t0 : Nat) (h : Hp) (x1 : Option Nat) (x2 : Option Nat) (x3 : Int32) (y0 : Option Nat) (m4 : ∀ (h : Hp) (x1 : Option Nat) (x2 : Option Nat) (x3 : Int32), k4 h x1 x2 x3 = some (hz, rz) → Fw h hz) (hJ : B_X9_isInDanger_23 N k4 t0 h x1 x2 x3 y0 = some (hz, rz)) : Fw h hz := by
  unfold B_X9_isInDanger_23 at hJ
  obtain ⟨a6, ea6, -, hJ⟩ := dr_some hJ
  obtain ⟨a7, ea7, -, hJ⟩ := dr_some hJ
  obtain ⟨⟨h8, r9⟩, e10, hJ⟩ := ob_some hJ
  exact (wo_X7_mayNotPrecede N a6 h (h.fi 1008 a7) e10).tr (wb_X9_isInDanger_37 N k4 t0 _ _ _ _ _ _ m4 hJ)
theorem wb_X9_isInDanger_77 (N : Nat) (t0 : Nat) (h : Hp) (hJ : B_X9_isInDanger_77 N t0 h = some (hz, rz)) : Fw h hz := by
  unfold B_X9_isInDanger_77 at hJ
  obtain ⟨rfl, -⟩ := rs2 hJ
  exact (Fw.rf h)
theorem wb_X9_isInDanger_12 (N : Nat) (k4 : Hp → (Option Nat) → (Option Nat) → Int32 → Option (Hp × Int32)) (t0 : Nat) (h : Hp) (x1 : Option Nat) (x2 : Option Nat) (x3 : Int32) (y0 : Int32) (y1 : Int32) (m4 : ∀ (h : Hp) (x1 : Option Nat) (x2 : Option Nat) (x3 : Int32), k4 h x1 x2 x3 = some (hz, rz) → Fw h hz) (hJ : B_X9_isInDanger_12 N k4 t0 h x1 x2 x3 y0 y1 = some (hz, rz)) : Fw h hz := by
  unfold B_X9_isInDanger_12 at hJ
  by_cases c12 : y1 ≤ y0
  · have hJ := it_pos c12 hJ
    cases ea13 : x2 with
    | none =>
      have hJ := nl_none ea13 hJ
      obtain ⟨rfl, -⟩ := rs2 hJ
      exact (Fw.rf h)
    | some a13 =>
      have hJ := nl_some ea13 hJ
      obtain ⟨⟨h14, r15⟩, e16, hJ⟩ := ob_some hJ
      exact (wo_X9_blameDanger N t0 h (some a13) x1 e16).tr (wb_X9_isInDanger_77 N t0 _ hJ)
  · have hJ := it_neg c12 hJ
    obtain ⟨a18, ea18, -, hJ⟩ := dr_some hJ
    obtain ⟨⟨h19, r20⟩, e21, hJ⟩ := ob_some hJ
    exact (wo_Jx4a65c_get_915e3 N a18 h x3 e21).tr (wb_X9_isInDanger_23 N k4 t0 _ _ _ _ _ m4 hJ)
theorem wb_X9_isInDanger_4 (N : Nat) (k4 : Hp → (Option Nat) → (Option Nat) → Int32 → Option (Hp × Int32)) (t0 : Nat) (h : Hp) (x1 : Option Nat) (x2 : Option Nat) (x3 : Int32) (m4 : ∀ (h : Hp) (x1 : Option Nat) (x2 : Option Nat) (x3 : Int32), k4 h x1 x2 x3 = some (hz, rz) → Fw h hz) (hJ : B_X9_isInDanger_4 N k4 t0 h x1 x2 x3 = some (hz, rz)) : Fw h hz := by
  unfold B_X9_isInDanger_4 at hJ
  obtain ⟨a23, ea23, -, hJ⟩ := dr_some hJ
  obtain ⟨⟨h24, r25⟩, e26, hJ⟩ := ob_some hJ
  exact (wo_Jx4a65c_size_8abf5 N a23 h e26).tr (wb_X9_isInDanger_12 N k4 t0 _ _ _ _ _ _ m4 hJ)
theorem wl_X9_isInDanger_4 (N : Nat) (t0 : Nat) : ∀ (n : Nat) (h : Hp) (x1 : Option Nat) (x2 : Option Nat) (x3 : Int32), L_X9_isInDanger_4 N t0 n h x1 x2 x3 = some (hz, rz) → Fw h hz := by
  intro n
  induction n with
  | zero => intro h x1 x2 x3 hJ; cases hJ
  | succ n ih => intro h x1 x2 x3 hJ; exact wb_X9_isInDanger_4 N (L_X9_isInDanger_4 N t0 n) t0 h x1 x2 x3 ih hJ
theorem wb_X9_isInDanger_0 (N : Nat) (t0 : Nat) (h : Hp) (x1 : Option Nat) (hJ : B_X9_isInDanger_0 N t0 h x1 = some (hz, rz)) : Fw h hz := by
  unfold B_X9_isInDanger_0 at hJ
  exact wl_X9_isInDanger_4 N t0 N _ _ _ _ hJ
theorem wo_X9_isInDanger (N : Nat) (t0 : Nat) (h : Hp) (x1 : Option Nat) (hJ : J_X9_isInDanger N t0 h x1 = some (hz, rz)) : Fw h hz := wb_X9_isInDanger_0 N t0 h x1 hJ
end V_X9_isInDanger
section V_X9_noteReaders
variable {hz : Hp}
theorem wb_X9_noteReaders_46 (N : Nat) (k2 : Hp → (Option Nat) → Int32 → Option (Hp × Unit)) (t0 : Nat) (h : Hp) (x1 : Option Nat) (x2 : Int32) (m2 : ∀ (h : Hp) (x1 : Option Nat) (x2 : Int32), k2 h x1 x2 = some (hz, ()) → Fw h hz) (hJ : B_X9_noteReaders_46 N k2 t0 h x1 x2 = some (hz, ())) : Fw h hz := by
  unfold B_X9_noteReaders_46 at hJ
  exact m2 _ _ _ hJ
theorem wb_X9_noteReaders_21 (N : Nat) (k2 : Hp → (Option Nat) → Int32 → Option (Hp × Unit)) (t0 : Nat) (h : Hp) (x1 : Option Nat) (x2 : Int32) (y0 : Option Nat) (m2 : ∀ (h : Hp) (x1 : Option Nat) (x2 : Int32), k2 h x1 x2 = some (hz, ()) → Fw h hz) (hJ : B_X9_noteReaders_21 N k2 t0 h x1 x2 y0 = some (hz, ())) : Fw h hz := by
  unfold B_X9_noteReaders_21 at hJ
  obtain ⟨a1, ea1, -, hJ⟩ := dr_some hJ
  obtain ⟨a2, ea2, -, hJ⟩ := dr_some hJ
  by_cases c3 : ((h.sfi 1009 a2 (1 : Int32)).fi 1006 a1) = (1 : Int32)
  · have hJ := it_pos c3 hJ
    obtain ⟨⟨h4, r5⟩, e6, hJ⟩ := ob_some hJ
    exact (Fw.tr (show Fw h (h.sfi 1009 a2 (1 : Int32)) from (Fw.rf h)) ((wo_X7_noteOut N a1 (h.sfi 1009 a2 (1 : Int32)) ((h.sfi 1009 a2 (1 : Int32)).fi 1007 a2) e6).tr (wb_X9_noteReaders_46 N k2 t0 _ _ _ m2 hJ)))
  · have hJ := it_neg c3 hJ
    exact (Fw.tr (show Fw h (h.sfi 1009 a2 (1 : Int32)) from (Fw.rf h)) (wb_X9_noteReaders_46 N k2 t0 _ _ _ m2 hJ))
theorem wb_X9_noteReaders_10 (N : Nat) (k2 : Hp → (Option Nat) → Int32 → Option (Hp × Unit)) (t0 : Nat) (h : Hp) (x1 : Option Nat) (x2 : Int32) (y0 : Int32) (y1 : Int32) (m2 : ∀ (h : Hp) (x1 : Option Nat) (x2 : Int32), k2 h x1 x2 = some (hz, ()) → Fw h hz) (hJ : B_X9_noteReaders_10 N k2 t0 h x1 x2 y0 y1 = some (hz, ())) : Fw h hz := by
  unfold B_X9_noteReaders_10 at hJ
  by_cases c8 : y1 ≤ y0
  · have hJ := it_pos c8 hJ
    obtain ⟨rfl, -⟩ := rs2 hJ
    exact (Fw.rf h)
  · have hJ := it_neg c8 hJ
    obtain ⟨a9, ea9, -, hJ⟩ := dr_some hJ
    obtain ⟨⟨h10, r11⟩, e12, hJ⟩ := ob_some hJ
    exact (wo_Jx4a65c_get_915e3 N a9 h x2 e12).tr (wb_X9_noteReaders_21 N k2 t0 _ _ _ _ m2 hJ)
theorem wb_X9_noteReaders_2 (N : Nat) (k2 : Hp → (Option Nat) → Int32 → Option (Hp × Unit)) (t0 : Nat) (h : Hp) (x1 : Option Nat) (x2 : Int32) (m2 : ∀ (h : Hp) (x1 : Option Nat) (x2 : Int32), k2 h x1 x2 = some (hz, ()) → Fw h hz) (hJ : B_X9_noteReaders_2 N k2 t0 h x1 x2 = some (hz, ())) : Fw h hz := by
  unfold B_X9_noteReaders_2 at hJ
  obtain ⟨a14, ea14, -, hJ⟩ := dr_some hJ
  obtain ⟨⟨h15, r16⟩, e17, hJ⟩ := ob_some hJ
  exact (wo_Jx4a65c_size_8abf5 N a14 h e17).tr (wb_X9_noteReaders_10 N k2 t0 _ _ _ _ _ m2 hJ)
theorem wl_X9_noteReaders_2 (N : Nat) (t0 : Nat) : ∀ (n : Nat) (h : Hp) (x1 : Option Nat) (x2 : Int32), L_X9_noteReaders_2 N t0 n h x1 x2 = some (hz, ()) → Fw h hz := by
  intro n
  induction n with
  | zero => intro h x1 x2 hJ; cases hJ
  | succ n ih => intro h x1 x2 hJ; exact wb_X9_noteReaders_2 N (L_X9_noteReaders_2 N t0 n) t0 h x1 x2 ih hJ
theorem wb_X9_noteReaders_0 (N : Nat) (t0 : Nat) (h : Hp) (x1 : Option Nat) (hJ : B_X9_noteReaders_0 N t0 h x1 = some (hz, ())) : Fw h hz := by
  unfold B_X9_noteReaders_0 at hJ
  exact wl_X9_noteReaders_2 N t0 N _ _ _ hJ
theorem wo_X9_noteReaders (N : Nat) (t0 : Nat) (h : Hp) (x1 : Option Nat) (hJ : J_X9_noteReaders N t0 h x1 = some (hz, ())) : Fw h hz := wb_X9_noteReaders_0 N t0 h x1 hJ
end V_X9_noteReaders
section V_X9_commit
variable {hz : Hp} {rz : Int32}
theorem wb_X9_commit_20 (N : Nat) (t0 : Nat) (h : Hp) (hJ : B_X9_commit_20 N t0 h = some (hz, rz)) : Fw h hz := by
  unfold B_X9_commit_20 at hJ
  obtain ⟨rfl, -⟩ := rs2 hJ
  exact (Fw.rf h)
theorem wb_X9_commit_41 (N : Nat) (t0 : Nat) (h : Hp) (hJ : B_X9_commit_41 N t0 h = some (hz, rz)) : Fw h hz := by
  unfold B_X9_commit_41 at hJ
  obtain ⟨rfl, -⟩ := rs2 hJ
  exact (Fw.rf h)
theorem wb_X9_commit_87 (N : Nat) (t0 : Nat) (h : Hp) (hJ : B_X9_commit_87 N t0 h = some (hz, rz)) : Fw h hz := by
  unfold B_X9_commit_87 at hJ
  obtain ⟨rfl, -⟩ := rs2 hJ
  exact (Fw.rf h)
theorem wb_X9_commit_81 (N : Nat) (t0 : Nat) (h : Hp) (x2 : Option Nat) (hJ : B_X9_commit_81 N t0 h x2 = some (hz, rz)) : Fw h hz := by
  unfold B_X9_commit_81 at hJ
  obtain ⟨⟨h1, r2⟩, e3, hJ⟩ := ob_some hJ
  exact (wo_X9_end N t0 h x2 (2 : Int32) e3).tr (wb_X9_commit_87 N t0 _ hJ)
theorem wb_X9_commit_76 (N : Nat) (t0 : Nat) (h : Hp) (x2 : Option Nat) (hJ : B_X9_commit_76 N t0 h x2 = some (hz, rz)) : Fw h hz := by
  unfold B_X9_commit_76 at hJ
  obtain ⟨⟨h5, r6⟩, e7, hJ⟩ := ob_some hJ
  exact (wo_X9_noteReaders N t0 h x2 e7).tr (wb_X9_commit_81 N t0 _ _ hJ)
theorem wb_X9_commit_64 (N : Nat) (t0 : Nat) (h : Hp) (x2 : Option Nat) (y0 : Int32) (hJ : B_X9_commit_64 N t0 h x2 y0 = some (hz, rz)) : Fw h hz := by
  unfold B_X9_commit_64 at hJ
  obtain ⟨a9, ea9, -, hJ⟩ := dr_some hJ
  obtain ⟨a10, ea10, -, hJ⟩ := dr_some hJ
  obtain ⟨⟨h11, r12⟩, e13, hJ⟩ := ob_some hJ
  exact (wo_X8_install N a10 h (h.fi 1007 a9) e13).tr (wb_X9_commit_76 N t0 _ _ hJ)
theorem wb_X9_commit_51 (N : Nat) (t0 : Nat) (h : Hp) (x2 : Option Nat) (y0 : Option Nat) (y1 : Int32) (hJ : B_X9_commit_51 N t0 h x2 y0 y1 = some (hz, rz)) : Fw h hz := by
  unfold B_X9_commit_51 at hJ
  obtain ⟨a15, ea15, -, hJ⟩ := dr_some hJ
  obtain ⟨a16, ea16, -, hJ⟩ := dr_some hJ
  obtain ⟨⟨h17, r18⟩, e19, hJ⟩ := ob_some hJ
  exact (Fw.tr (show Fw h (h.sfi 1007 a15 (y1 + (1 : Int32))) from (Fw.rf h)) ((wo_Jx4a65c_add_9ea2d N a16 (h.sfi 1007 a15 (y1 + (1 : Int32))) x2 e19).tr (wb_X9_commit_64 N t0 _ _ _ hJ)))
theorem wb_X9_commit_32 (N : Nat) (t0 : Nat) (h : Hp) (x2 : Option Nat) (y0 : Int32) (hJ : B_X9_commit_32 N t0 h x2 y0 = some (hz, rz)) : Fw h hz := by
  unfold B_X9_commit_32 at hJ
  by_cases c21 : y0 = 0
  · have hJ := it_pos c21 hJ
    obtain ⟨a22, ea22, -, hJ⟩ := dr_some hJ
    obtain ⟨⟨h23, r24⟩, e25, hJ⟩ := ob_some hJ
    exact (wo_Jx4a65c_size_8abf5 N a22 h e25).tr (wb_X9_commit_51 N t0 _ _ _ _ hJ)
  · have hJ := it_neg c21 hJ
    obtain ⟨⟨h27, r28⟩, e29, hJ⟩ := ob_some hJ
    exact (wo_X9_end N t0 h x2 (5 : Int32) e29).tr (wb_X9_commit_41 N t0 _ hJ)
theorem wb_X9_commit_27 (N : Nat) (t0 : Nat) (h : Hp) (x2 : Option Nat) (hJ : B_X9_commit_27 N t0 h x2 = some (hz, rz)) : Fw h hz := by
  unfold B_X9_commit_27 at hJ
  obtain ⟨⟨h31, r32⟩, e33, hJ⟩ := ob_some hJ
  exact (wo_X9_isInDanger N t0 h x2 e33).tr (wb_X9_commit_32 N t0 _ _ _ hJ)
theorem wb_X9_commit_11 (N : Nat) (t0 : Nat) (h : Hp) (x2 : Option Nat) (y0 : Int32) (hJ : B_X9_commit_11 N t0 h x2 y0 = some (hz, rz)) : Fw h hz := by
  unfold B_X9_commit_11 at hJ
  by_cases c35 : y0 = 0
  · have hJ := it_pos c35 hJ
    obtain ⟨⟨h36, r37⟩, e38, hJ⟩ := ob_some hJ
    exact (wo_X9_gatherReaders N t0 h x2 e38).tr (wb_X9_commit_27 N t0 _ _ hJ)
  · have hJ := it_neg c35 hJ
    obtain ⟨⟨h40, r41⟩, e42, hJ⟩ := ob_some hJ
    exact (wo_X9_end N t0 h x2 (4 : Int32) e42).tr (wb_X9_commit_20 N t0 _ hJ)
theorem wb_X9_commit_5 (N : Nat) (t0 : Nat) (h : Hp) (y0 : Option Nat) (hJ : B_X9_commit_5 N t0 h y0 = some (hz, rz)) : Fw h hz := by
  unfold B_X9_commit_5 at hJ
  obtain ⟨⟨h44, r45⟩, e46, hJ⟩ := ob_some hJ
  exact (wo_X9_isInConflict N t0 h y0 e46).tr (wb_X9_commit_11 N t0 _ _ _ hJ)
theorem wb_X9_commit_0 (N : Nat) (t0 : Nat) (h : Hp) (x1 : Int32) (hJ : B_X9_commit_0 N t0 h x1 = some (hz, rz)) : Fw h hz := by
  unfold B_X9_commit_0 at hJ
  obtain ⟨⟨h48, r49⟩, e50, hJ⟩ := ob_some hJ
  exact (wo_X9_activeOne N t0 h x1 e50).tr (wb_X9_commit_5 N t0 _ _ hJ)
theorem wo_X9_commit (N : Nat) (t0 : Nat) (h : Hp) (x1 : Int32) (hJ : J_X9_commit N t0 h x1 = some (hz, rz)) : Fw h hz := wb_X9_commit_0 N t0 h x1 hJ
end V_X9_commit
