section V_xX9_activeOne
variable {hz : Hp} {ez : String}
theorem wb_xX9_activeOne_18 (N : Nat) (t0 : Nat) (h : Hp) (hJ : B_xX9_activeOne_18 N t0 h = some (hz, ez)) : Fw h hz := by
  unfold B_xX9_activeOne_18 at hJ
  obtain ⟨rfl, -⟩ := rs2 hJ
  exact (Fw.rf h)
theorem wb_xX9_activeOne_5 (N : Nat) (t0 : Nat) (h : Hp) (y0 : Option Nat) (hJ : B_xX9_activeOne_5 N t0 h y0 = some (hz, ez)) : Fw h hz := by
  unfold B_xX9_activeOne_5 at hJ
  cases ea1 : y0 with
  | none =>
    have hJ := nl_none ea1 hJ
    exact wb_xX9_activeOne_18 N t0 _ hJ
  | some a1 =>
    have hJ := nl_some ea1 hJ
    obtain ⟨-, hJ⟩ := ck_some hJ
    by_cases c3 : (h.fi 1006 a1) = (1 : Int32)
    · have hJ := it_pos c3 hJ
      cases hJ
    · have hJ := it_neg c3 hJ
      exact wb_xX9_activeOne_18 N t0 _ hJ
theorem wb_xX9_activeOne_0 (N : Nat) (t0 : Nat) (h : Hp) (x1 : Int32) (hJ : B_xX9_activeOne_0 N t0 h x1 = some (hz, ez)) : Fw h hz := by
  unfold B_xX9_activeOne_0 at hJ
  obtain ⟨⟨h4, r5⟩, e6, hJ⟩ := ob_some hJ
  exact (wo_X9_numbered N t0 h x1 e6).tr (wb_xX9_activeOne_5 N t0 _ _ hJ)
theorem wo_xX9_activeOne (N : Nat) (t0 : Nat) (h : Hp) (x1 : Int32) (hJ : J_xX9_activeOne N t0 h x1 = some (hz, ez)) : Fw h hz := wb_xX9_activeOne_0 N t0 h x1 hJ
end V_xX9_activeOne
section V_xX9_writingOne
variable {hz : Hp} {ez : String}
theorem wb_xX9_writingOne_5 (N : Nat) (t0 : Nat) (h : Hp) (y0 : Option Nat) (hJ : B_xX9_writingOne_5 N t0 h y0 = some (hz, ez)) : Fw h hz := by
  unfold B_xX9_writingOne_5 at hJ
  obtain ⟨a1, ea1, -, hJ⟩ := dr_some hJ
  by_cases c2 : (h.fi 1005 a1) = 0
  · have hJ := it_pos c2 hJ
    cases hJ
  · have hJ := it_neg c2 hJ
    obtain ⟨rfl, -⟩ := rs2 hJ
    exact (Fw.rf h)
theorem wb_xX9_writingOne_0 (N : Nat) (t0 : Nat) (h : Hp) (x1 : Int32) (hJ : B_xX9_writingOne_0 N t0 h x1 = some (hz, ez)) : Fw h hz := by
  unfold B_xX9_writingOne_0 at hJ
  rcases orX_some hJ with hX | ⟨-, hJ⟩
  · exact wo_xX9_activeOne N t0 h x1 hX
  · obtain ⟨⟨h3, r4⟩, e5, hJ⟩ := ob_some hJ
    exact (wo_X9_activeOne N t0 h x1 e5).tr (wb_xX9_writingOne_5 N t0 _ _ hJ)
theorem wo_xX9_writingOne (N : Nat) (t0 : Nat) (h : Hp) (x1 : Int32) (hJ : J_xX9_writingOne N t0 h x1 = some (hz, ez)) : Fw h hz := wb_xX9_writingOne_0 N t0 h x1 hJ
end V_xX9_writingOne
section V_xX9_read
variable {hz : Hp} {ez : String}
theorem wb_xX9_read_20 (N : Nat) (t0 : Nat) (h : Hp) (y0 : Int32) (hJ : B_xX9_read_20 N t0 h y0 = some (hz, ez)) : Fw h hz := by
  unfold B_xX9_read_20 at hJ
  cases hJ
theorem wb_xX9_read_17 (N : Nat) (t0 : Nat) (h : Hp) (y0 : Option Nat) (y1 : Option Nat) (y2 : Option Nat) (hJ : B_xX9_read_17 N t0 h y0 y1 y2 = some (hz, ez)) : Fw h hz := by
  unfold B_xX9_read_17 at hJ
  obtain ⟨a1, ea1, -, hJ⟩ := dr_some hJ
  obtain ⟨⟨h2, r3⟩, e4, hJ⟩ := ob_some hJ
  exact (wo_X9_carryOut N a1 h y1 y2 e4).tr (wb_xX9_read_20 N t0 _ _ hJ)
theorem wb_xX9_read_11 (N : Nat) (t0 : Nat) (h : Hp) (x2 : Int32) (y0 : Option Nat) (y1 : Option Nat) (y2 : Option Nat) (hJ : B_xX9_read_11 N t0 h x2 y0 y1 y2 = some (hz, ez)) : Fw h hz := by
  unfold B_xX9_read_11 at hJ
  obtain ⟨a6, ea6, -, hJ⟩ := dr_some hJ
  obtain ⟨⟨h7, r8⟩, e9, hJ⟩ := ob_some hJ
  exact (wo_X2_init N a6 h (0 : Int32) x2 e9).tr (wb_xX9_read_17 N t0 _ _ _ _ hJ)
theorem wb_xX9_read_5 (N : Nat) (t0 : Nat) (h : Hp) (x2 : Int32) (y0 : Option Nat) (hJ : B_xX9_read_5 N t0 h x2 y0 = some (hz, ez)) : Fw h hz := by
  unfold B_xX9_read_5 at hJ
  exact (Fw.new h _ _ _).tr (wb_xX9_read_11 N t0 _ _ _ _ _ hJ)
theorem wb_xX9_read_0 (N : Nat) (t0 : Nat) (h : Hp) (x1 : Int32) (x2 : Int32) (hJ : B_xX9_read_0 N t0 h x1 x2 = some (hz, ez)) : Fw h hz := by
  unfold B_xX9_read_0 at hJ
  rcases orX_some hJ with hX | ⟨-, hJ⟩
  · exact wo_xX9_activeOne N t0 h x1 hX
  · obtain ⟨⟨h12, r13⟩, e14, hJ⟩ := ob_some hJ
    exact (wo_X9_activeOne N t0 h x1 e14).tr (wb_xX9_read_5 N t0 _ _ _ hJ)
theorem wo_xX9_read (N : Nat) (t0 : Nat) (h : Hp) (x1 : Int32) (x2 : Int32) (hJ : J_xX9_read N t0 h x1 x2 = some (hz, ez)) : Fw h hz := wb_xX9_read_0 N t0 h x1 x2 hJ
end V_xX9_read
section V_xX9_near
variable {hz : Hp} {ez : String}
theorem wb_xX9_near_32 (N : Nat) (t0 : Nat) (h : Hp) (y0 : Int32) (hJ : B_xX9_near_32 N t0 h y0 = some (hz, ez)) : Fw h hz := by
  unfold B_xX9_near_32 at hJ
  cases hJ
theorem wb_xX9_near_16 (N : Nat) (t0 : Nat) (h : Hp) (x3 : Int32) (x4 : Option Nat) (y0 : Option Nat) (hJ : B_xX9_near_16 N t0 h x3 x4 y0 = some (hz, ez)) : Fw h hz := by
  unfold B_xX9_near_16 at hJ
  obtain ⟨a1, ea1, -, hJ⟩ := dr_some hJ
  obtain ⟨-, hJ⟩ := ck_some hJ
  obtain ⟨⟨h3, r4⟩, e5, hJ⟩ := ob_some hJ
  exact (Fw.tr (show Fw h (h.sfi 504 a1 x3) from (Fw.rf h)) ((wo_X9_carryOut N t0 (h.sfi 504 a1 x3) x4 (some a1) e5).tr (wb_xX9_near_32 N t0 _ _ hJ)))
theorem wb_xX9_near_10 (N : Nat) (t0 : Nat) (h : Hp) (x2 : Int32) (x3 : Int32) (x4 : Option Nat) (y0 : Option Nat) (hJ : B_xX9_near_10 N t0 h x2 x3 x4 y0 = some (hz, ez)) : Fw h hz := by
  unfold B_xX9_near_10 at hJ
  obtain ⟨a7, ea7, -, hJ⟩ := dr_some hJ
  obtain ⟨⟨h8, r9⟩, e10, hJ⟩ := ob_some hJ
  exact (wo_X2_init N a7 h (1 : Int32) x2 e10).tr (wb_xX9_near_16 N t0 _ _ _ _ hJ)
theorem wb_xX9_near_5 (N : Nat) (t0 : Nat) (h : Hp) (x2 : Int32) (x3 : Int32) (y0 : Option Nat) (hJ : B_xX9_near_5 N t0 h x2 x3 y0 = some (hz, ez)) : Fw h hz := by
  unfold B_xX9_near_5 at hJ
  exact (Fw.new h _ _ _).tr (wb_xX9_near_10 N t0 _ _ _ _ _ hJ)
theorem wb_xX9_near_0 (N : Nat) (t0 : Nat) (h : Hp) (x1 : Int32) (x2 : Int32) (x3 : Int32) (hJ : B_xX9_near_0 N t0 h x1 x2 x3 = some (hz, ez)) : Fw h hz := by
  unfold B_xX9_near_0 at hJ
  rcases orX_some hJ with hX | ⟨-, hJ⟩
  · exact wo_xX9_activeOne N t0 h x1 hX
  · obtain ⟨⟨h13, r14⟩, e15, hJ⟩ := ob_some hJ
    exact (wo_X9_activeOne N t0 h x1 e15).tr (wb_xX9_near_5 N t0 _ _ _ _ hJ)
theorem wo_xX9_near (N : Nat) (t0 : Nat) (h : Hp) (x1 : Int32) (x2 : Int32) (x3 : Int32) (hJ : J_xX9_near N t0 h x1 x2 x3 = some (hz, ez)) : Fw h hz := wb_xX9_near_0 N t0 h x1 x2 x3 hJ
end V_xX9_near
section V_xX9_scan
variable {hz : Hp} {ez : String}
theorem wb_xX9_scan_35 (N : Nat) (t0 : Nat) (h : Hp) (hJ : B_xX9_scan_35 N t0 h = some (hz, ez)) : Fw h hz := by
  unfold B_xX9_scan_35 at hJ
  obtain ⟨rfl, -⟩ := rs2 hJ
  exact (Fw.rf h)
theorem wb_xX9_scan_77 (N : Nat) (t0 : Nat) (h : Hp) (y0 : Int32) (hJ : B_xX9_scan_77 N t0 h y0 = some (hz, ez)) : Fw h hz := by
  unfold B_xX9_scan_77 at hJ
  cases hJ
theorem wb_xX9_scan_54 (N : Nat) (t0 : Nat) (h : Hp) (x3 : Int32) (x4 : Int32) (x5 : Option Nat) (y0 : Option Nat) (hJ : B_xX9_scan_54 N t0 h x3 x4 x5 y0 = some (hz, ez)) : Fw h hz := by
  unfold B_xX9_scan_54 at hJ
  obtain ⟨a1, ea1, -, hJ⟩ := dr_some hJ
  obtain ⟨⟨h2, r3⟩, e4, hJ⟩ := ob_some hJ
  exact (Fw.tr (show Fw h ((h.sfi 502 a1 x3).sfi 503 a1 x4) from (Fw.rf h)) ((wo_X9_carryOut N t0 ((h.sfi 502 a1 x3).sfi 503 a1 x4) x5 (some a1) e4).tr (wb_xX9_scan_77 N t0 _ _ hJ)))
theorem wb_xX9_scan_48 (N : Nat) (t0 : Nat) (h : Hp) (x2 : Int32) (x3 : Int32) (x4 : Int32) (x5 : Option Nat) (y0 : Option Nat) (hJ : B_xX9_scan_48 N t0 h x2 x3 x4 x5 y0 = some (hz, ez)) : Fw h hz := by
  unfold B_xX9_scan_48 at hJ
  obtain ⟨a6, ea6, -, hJ⟩ := dr_some hJ
  obtain ⟨⟨h7, r8⟩, e9, hJ⟩ := ob_some hJ
  exact (wo_X2_init N a6 h (2 : Int32) x2 e9).tr (wb_xX9_scan_54 N t0 _ _ _ _ _ hJ)
theorem wb_xX9_scan_5 (N : Nat) (t0 : Nat) (h : Hp) (x2 : Int32) (x3 : Int32) (x4 : Int32) (y0 : Option Nat) (hJ : B_xX9_scan_5 N t0 h x2 x3 x4 y0 = some (hz, ez)) : Fw h hz := by
  unfold B_xX9_scan_5 at hJ
  by_cases c11 : x2 ≤ x3
  · have hJ := it_pos c11 hJ
    by_cases c12 : x4 < (1 : Int32)
    · have hJ := it_pos c12 hJ
      exact wb_xX9_scan_35 N t0 _ hJ
    · have hJ := it_neg c12 hJ
      by_cases c13 : x4 ≤ (100 : Int32)
      · have hJ := it_pos c13 hJ
        exact (Fw.new h _ _ _).tr (wb_xX9_scan_48 N t0 _ _ _ _ _ _ hJ)
      · have hJ := it_neg c13 hJ
        exact wb_xX9_scan_35 N t0 _ hJ
  · have hJ := it_neg c11 hJ
    obtain ⟨rfl, -⟩ := rs2 hJ
    exact (Fw.rf h)
theorem wb_xX9_scan_0 (N : Nat) (t0 : Nat) (h : Hp) (x1 : Int32) (x2 : Int32) (x3 : Int32) (x4 : Int32) (hJ : B_xX9_scan_0 N t0 h x1 x2 x3 x4 = some (hz, ez)) : Fw h hz := by
  unfold B_xX9_scan_0 at hJ
  rcases orX_some hJ with hX | ⟨-, hJ⟩
  · exact wo_xX9_activeOne N t0 h x1 hX
  · obtain ⟨⟨h15, r16⟩, e17, hJ⟩ := ob_some hJ
    exact (wo_X9_activeOne N t0 h x1 e17).tr (wb_xX9_scan_5 N t0 _ _ _ _ _ hJ)
theorem wo_xX9_scan (N : Nat) (t0 : Nat) (h : Hp) (x1 : Int32) (x2 : Int32) (x3 : Int32) (x4 : Int32) (hJ : J_xX9_scan N t0 h x1 x2 x3 x4 = some (hz, ez)) : Fw h hz := wb_xX9_scan_0 N t0 h x1 x2 x3 x4 hJ
end V_xX9_scan
section V_xX9_write
variable {hz : Hp} {ez : String}
theorem wb_xX9_write_38 (N : Nat) (t0 : Nat) (h : Hp) (y0 : Int32) (hJ : B_xX9_write_38 N t0 h y0 = some (hz, ez)) : Fw h hz := by
  unfold B_xX9_write_38 at hJ
  cases hJ
theorem wb_xX9_write_16 (N : Nat) (t0 : Nat) (h : Hp) (x3 : Int64) (x5 : Option Nat) (y0 : Option Nat) (hJ : B_xX9_write_16 N t0 h x3 x5 y0 = some (hz, ez)) : Fw h hz := by
  unfold B_xX9_write_16 at hJ
  obtain ⟨a1, ea1, -, hJ⟩ := dr_some hJ
  obtain ⟨⟨h2, r3⟩, e4, hJ⟩ := ob_some hJ
  exact (Fw.tr (show Fw h ((h.sfi 504 a1 (1 : Int32)).sfl 505 a1 x3) from (Fw.rf h)) ((wo_X9_carryOut N t0 ((h.sfi 504 a1 (1 : Int32)).sfl 505 a1 x3) x5 (some a1) e4).tr (wb_xX9_write_38 N t0 _ _ hJ)))
theorem wb_xX9_write_10 (N : Nat) (t0 : Nat) (h : Hp) (x2 : Int32) (x3 : Int64) (x5 : Option Nat) (y0 : Option Nat) (hJ : B_xX9_write_10 N t0 h x2 x3 x5 y0 = some (hz, ez)) : Fw h hz := by
  unfold B_xX9_write_10 at hJ
  obtain ⟨a6, ea6, -, hJ⟩ := dr_some hJ
  obtain ⟨⟨h7, r8⟩, e9, hJ⟩ := ob_some hJ
  exact (wo_X2_init N a6 h (3 : Int32) x2 e9).tr (wb_xX9_write_16 N t0 _ _ _ _ hJ)
theorem wb_xX9_write_5 (N : Nat) (t0 : Nat) (h : Hp) (x2 : Int32) (x3 : Int64) (y0 : Option Nat) (hJ : B_xX9_write_5 N t0 h x2 x3 y0 = some (hz, ez)) : Fw h hz := by
  unfold B_xX9_write_5 at hJ
  exact (Fw.new h _ _ _).tr (wb_xX9_write_10 N t0 _ _ _ _ _ hJ)
theorem wb_xX9_write_0 (N : Nat) (t0 : Nat) (h : Hp) (x1 : Int32) (x2 : Int32) (x3 : Int64) (hJ : B_xX9_write_0 N t0 h x1 x2 x3 = some (hz, ez)) : Fw h hz := by
  unfold B_xX9_write_0 at hJ
  rcases orX_some hJ with hX | ⟨-, hJ⟩
  · exact wo_xX9_writingOne N t0 h x1 hX
  · obtain ⟨⟨h12, r13⟩, e14, hJ⟩ := ob_some hJ
    exact (wo_X9_writingOne N t0 h x1 e14).tr (wb_xX9_write_5 N t0 _ _ _ _ hJ)
theorem wo_xX9_write (N : Nat) (t0 : Nat) (h : Hp) (x1 : Int32) (x2 : Int32) (x3 : Int64) (hJ : J_xX9_write N t0 h x1 x2 x3 = some (hz, ez)) : Fw h hz := wb_xX9_write_0 N t0 h x1 x2 x3 hJ
end V_xX9_write
section V_xX9_remove
variable {hz : Hp} {ez : String}
theorem wb_xX9_remove_20 (N : Nat) (t0 : Nat) (h : Hp) (y0 : Int32) (hJ : B_xX9_remove_20 N t0 h y0 = some (hz, ez)) : Fw h hz := by
  unfold B_xX9_remove_20 at hJ
  cases hJ
theorem wb_xX9_remove_17 (N : Nat) (t0 : Nat) (h : Hp) (y0 : Option Nat) (y1 : Option Nat) (y2 : Option Nat) (hJ : B_xX9_remove_17 N t0 h y0 y1 y2 = some (hz, ez)) : Fw h hz := by
  unfold B_xX9_remove_17 at hJ
  obtain ⟨a1, ea1, -, hJ⟩ := dr_some hJ
  obtain ⟨⟨h2, r3⟩, e4, hJ⟩ := ob_some hJ
  exact (wo_X9_carryOut N a1 h y1 y2 e4).tr (wb_xX9_remove_20 N t0 _ _ hJ)
theorem wb_xX9_remove_11 (N : Nat) (t0 : Nat) (h : Hp) (x2 : Int32) (y0 : Option Nat) (y1 : Option Nat) (y2 : Option Nat) (hJ : B_xX9_remove_11 N t0 h x2 y0 y1 y2 = some (hz, ez)) : Fw h hz := by
  unfold B_xX9_remove_11 at hJ
  obtain ⟨a6, ea6, -, hJ⟩ := dr_some hJ
  obtain ⟨⟨h7, r8⟩, e9, hJ⟩ := ob_some hJ
  exact (wo_X2_init N a6 h (3 : Int32) x2 e9).tr (wb_xX9_remove_17 N t0 _ _ _ _ hJ)
theorem wb_xX9_remove_5 (N : Nat) (t0 : Nat) (h : Hp) (x2 : Int32) (y0 : Option Nat) (hJ : B_xX9_remove_5 N t0 h x2 y0 = some (hz, ez)) : Fw h hz := by
  unfold B_xX9_remove_5 at hJ
  exact (Fw.new h _ _ _).tr (wb_xX9_remove_11 N t0 _ _ _ _ _ hJ)
theorem wb_xX9_remove_0 (N : Nat) (t0 : Nat) (h : Hp) (x1 : Int32) (x2 : Int32) (hJ : B_xX9_remove_0 N t0 h x1 x2 = some (hz, ez)) : Fw h hz := by
  unfold B_xX9_remove_0 at hJ
  rcases orX_some hJ with hX | ⟨-, hJ⟩
  · exact wo_xX9_writingOne N t0 h x1 hX
  · obtain ⟨⟨h12, r13⟩, e14, hJ⟩ := ob_some hJ
    exact (wo_X9_writingOne N t0 h x1 e14).tr (wb_xX9_remove_5 N t0 _ _ _ hJ)
theorem wo_xX9_remove (N : Nat) (t0 : Nat) (h : Hp) (x1 : Int32) (x2 : Int32) (hJ : J_xX9_remove N t0 h x1 x2 = some (hz, ez)) : Fw h hz := wb_xX9_remove_0 N t0 h x1 x2 hJ
end V_xX9_remove
section V_xX9_save
variable {hz : Hp} {ez : String}
theorem wb_xX9_save_20 (N : Nat) (t0 : Nat) (h : Hp) (y0 : Int32) (hJ : B_xX9_save_20 N t0 h y0 = some (hz, ez)) : Fw h hz := by
  unfold B_xX9_save_20 at hJ
  cases hJ
theorem wb_xX9_save_17 (N : Nat) (t0 : Nat) (h : Hp) (y0 : Option Nat) (y1 : Option Nat) (y2 : Option Nat) (hJ : B_xX9_save_17 N t0 h y0 y1 y2 = some (hz, ez)) : Fw h hz := by
  unfold B_xX9_save_17 at hJ
  obtain ⟨a1, ea1, -, hJ⟩ := dr_some hJ
  obtain ⟨⟨h2, r3⟩, e4, hJ⟩ := ob_some hJ
  exact (wo_X9_carryOut N a1 h y1 y2 e4).tr (wb_xX9_save_20 N t0 _ _ hJ)
theorem wb_xX9_save_11 (N : Nat) (t0 : Nat) (h : Hp) (y0 : Option Nat) (y1 : Option Nat) (y2 : Option Nat) (hJ : B_xX9_save_11 N t0 h y0 y1 y2 = some (hz, ez)) : Fw h hz := by
  unfold B_xX9_save_11 at hJ
  obtain ⟨a6, ea6, -, hJ⟩ := dr_some hJ
  obtain ⟨⟨h7, r8⟩, e9, hJ⟩ := ob_some hJ
  exact (wo_X2_init N a6 h (4 : Int32) (0 : Int32) e9).tr (wb_xX9_save_17 N t0 _ _ _ _ hJ)
theorem wb_xX9_save_5 (N : Nat) (t0 : Nat) (h : Hp) (y0 : Option Nat) (hJ : B_xX9_save_5 N t0 h y0 = some (hz, ez)) : Fw h hz := by
  unfold B_xX9_save_5 at hJ
  exact (Fw.new h _ _ _).tr (wb_xX9_save_11 N t0 _ _ _ _ hJ)
theorem wb_xX9_save_0 (N : Nat) (t0 : Nat) (h : Hp) (x1 : Int32) (hJ : B_xX9_save_0 N t0 h x1 = some (hz, ez)) : Fw h hz := by
  unfold B_xX9_save_0 at hJ
  rcases orX_some hJ with hX | ⟨-, hJ⟩
  · exact wo_xX9_activeOne N t0 h x1 hX
  · obtain ⟨⟨h12, r13⟩, e14, hJ⟩ := ob_some hJ
    exact (wo_X9_activeOne N t0 h x1 e14).tr (wb_xX9_save_5 N t0 _ _ hJ)
theorem wo_xX9_save (N : Nat) (t0 : Nat) (h : Hp) (x1 : Int32) (hJ : J_xX9_save N t0 h x1 = some (hz, ez)) : Fw h hz := wb_xX9_save_0 N t0 h x1 hJ
end V_xX9_save
section V_xX9_undo
variable {hz : Hp} {ez : String}
theorem wb_xX9_undo_51 (N : Nat) (t0 : Nat) (h : Hp) (y0 : Int32) (hJ : B_xX9_undo_51 N t0 h y0 = some (hz, ez)) : Fw h hz := by
  unfold B_xX9_undo_51 at hJ
  cases hJ
theorem wb_xX9_undo_36 (N : Nat) (t0 : Nat) (h : Hp) (x2 : Int32) (x3 : Option Nat) (y0 : Option Nat) (hJ : B_xX9_undo_36 N t0 h x2 x3 y0 = some (hz, ez)) : Fw h hz := by
  unfold B_xX9_undo_36 at hJ
  obtain ⟨a1, ea1, -, hJ⟩ := dr_some hJ
  obtain ⟨⟨h2, r3⟩, e4, hJ⟩ := ob_some hJ
  exact (Fw.tr (show Fw h (h.sfi 503 a1 x2) from (Fw.rf h)) ((wo_X9_carryOut N t0 (h.sfi 503 a1 x2) x3 (some a1) e4).tr (wb_xX9_undo_51 N t0 _ _ hJ)))
theorem wb_xX9_undo_30 (N : Nat) (t0 : Nat) (h : Hp) (x2 : Int32) (x3 : Option Nat) (y0 : Option Nat) (hJ : B_xX9_undo_30 N t0 h x2 x3 y0 = some (hz, ez)) : Fw h hz := by
  unfold B_xX9_undo_30 at hJ
  obtain ⟨a6, ea6, -, hJ⟩ := dr_some hJ
  obtain ⟨⟨h7, r8⟩, e9, hJ⟩ := ob_some hJ
  exact (wo_X2_init N a6 h (5 : Int32) (0 : Int32) e9).tr (wb_xX9_undo_36 N t0 _ _ _ _ hJ)
theorem wb_xX9_undo_14 (N : Nat) (t0 : Nat) (h : Hp) (x2 : Int32) (x3 : Option Nat) (y0 : Int32) (hJ : B_xX9_undo_14 N t0 h x2 x3 y0 = some (hz, ez)) : Fw h hz := by
  unfold B_xX9_undo_14 at hJ
  by_cases c11 : y0 = 0
  · have hJ := it_pos c11 hJ
    obtain ⟨rfl, -⟩ := rs2 hJ
    exact (Fw.rf h)
  · have hJ := it_neg c11 hJ
    exact (Fw.new h _ _ _).tr (wb_xX9_undo_30 N t0 _ _ _ _ hJ)
theorem wb_xX9_undo_5 (N : Nat) (t0 : Nat) (h : Hp) (x2 : Int32) (y0 : Option Nat) (hJ : B_xX9_undo_5 N t0 h x2 y0 = some (hz, ez)) : Fw h hz := by
  unfold B_xX9_undo_5 at hJ
  obtain ⟨a13, ea13, -, hJ⟩ := dr_some hJ
  obtain ⟨a14, ea14, -, hJ⟩ := dr_some hJ
  obtain ⟨⟨h15, r16⟩, e17, hJ⟩ := ob_some hJ
  exact (wo_X8_hasPlace N a14 h x2 e17).tr (wb_xX9_undo_14 N t0 _ _ _ _ hJ)
theorem wb_xX9_undo_0 (N : Nat) (t0 : Nat) (h : Hp) (x1 : Int32) (x2 : Int32) (hJ : B_xX9_undo_0 N t0 h x1 x2 = some (hz, ez)) : Fw h hz := by
  unfold B_xX9_undo_0 at hJ
  rcases orX_some hJ with hX | ⟨-, hJ⟩
  · exact wo_xX9_activeOne N t0 h x1 hX
  · obtain ⟨⟨h19, r20⟩, e21, hJ⟩ := ob_some hJ
    exact (wo_X9_activeOne N t0 h x1 e21).tr (wb_xX9_undo_5 N t0 _ _ _ hJ)
theorem wo_xX9_undo (N : Nat) (t0 : Nat) (h : Hp) (x1 : Int32) (x2 : Int32) (hJ : J_xX9_undo N t0 h x1 x2 = some (hz, ez)) : Fw h hz := wb_xX9_undo_0 N t0 h x1 x2 hJ
end V_xX9_undo
section V_xX9_commit
variable {hz : Hp} {ez : String}
theorem wb_xX9_commit_20 (N : Nat) (t0 : Nat) (h : Hp) (hJ : B_xX9_commit_20 N t0 h = some (hz, ez)) : Fw h hz := by
  unfold B_xX9_commit_20 at hJ
  cases hJ
theorem wb_xX9_commit_41 (N : Nat) (t0 : Nat) (h : Hp) (hJ : B_xX9_commit_41 N t0 h = some (hz, ez)) : Fw h hz := by
  unfold B_xX9_commit_41 at hJ
  cases hJ
theorem wb_xX9_commit_87 (N : Nat) (t0 : Nat) (h : Hp) (hJ : B_xX9_commit_87 N t0 h = some (hz, ez)) : Fw h hz := by
  unfold B_xX9_commit_87 at hJ
  cases hJ
theorem wb_xX9_commit_81 (N : Nat) (t0 : Nat) (h : Hp) (x2 : Option Nat) (hJ : B_xX9_commit_81 N t0 h x2 = some (hz, ez)) : Fw h hz := by
  unfold B_xX9_commit_81 at hJ
  obtain ⟨⟨h1, r2⟩, e3, hJ⟩ := ob_some hJ
  exact (wo_X9_end N t0 h x2 (2 : Int32) e3).tr (wb_xX9_commit_87 N t0 _ hJ)
theorem wb_xX9_commit_76 (N : Nat) (t0 : Nat) (h : Hp) (x2 : Option Nat) (hJ : B_xX9_commit_76 N t0 h x2 = some (hz, ez)) : Fw h hz := by
  unfold B_xX9_commit_76 at hJ
  obtain ⟨⟨h5, r6⟩, e7, hJ⟩ := ob_some hJ
  exact (wo_X9_noteReaders N t0 h x2 e7).tr (wb_xX9_commit_81 N t0 _ _ hJ)
theorem wb_xX9_commit_64 (N : Nat) (t0 : Nat) (h : Hp) (x2 : Option Nat) (y0 : Int32) (hJ : B_xX9_commit_64 N t0 h x2 y0 = some (hz, ez)) : Fw h hz := by
  unfold B_xX9_commit_64 at hJ
  obtain ⟨a9, ea9, -, hJ⟩ := dr_some hJ
  obtain ⟨a10, ea10, -, hJ⟩ := dr_some hJ
  obtain ⟨⟨h11, r12⟩, e13, hJ⟩ := ob_some hJ
  exact (wo_X8_install N a10 h (h.fi 1007 a9) e13).tr (wb_xX9_commit_76 N t0 _ _ hJ)
theorem wb_xX9_commit_51 (N : Nat) (t0 : Nat) (h : Hp) (x2 : Option Nat) (y0 : Option Nat) (y1 : Int32) (hJ : B_xX9_commit_51 N t0 h x2 y0 y1 = some (hz, ez)) : Fw h hz := by
  unfold B_xX9_commit_51 at hJ
  obtain ⟨a15, ea15, -, hJ⟩ := dr_some hJ
  obtain ⟨a16, ea16, -, hJ⟩ := dr_some hJ
  obtain ⟨⟨h17, r18⟩, e19, hJ⟩ := ob_some hJ
  exact (Fw.tr (show Fw h (h.sfi 1007 a15 (y1 + (1 : Int32))) from (Fw.rf h)) ((wo_Jx4a65c_add_9ea2d N a16 (h.sfi 1007 a15 (y1 + (1 : Int32))) x2 e19).tr (wb_xX9_commit_64 N t0 _ _ _ hJ)))
theorem wb_xX9_commit_32 (N : Nat) (t0 : Nat) (h : Hp) (x2 : Option Nat) (y0 : Int32) (hJ : B_xX9_commit_32 N t0 h x2 y0 = some (hz, ez)) : Fw h hz := by
  unfold B_xX9_commit_32 at hJ
  by_cases c21 : y0 = 0
  · have hJ := it_pos c21 hJ
    obtain ⟨a22, ea22, -, hJ⟩ := dr_some hJ
    obtain ⟨⟨h23, r24⟩, e25, hJ⟩ := ob_some hJ
    exact (wo_Jx4a65c_size_8abf5 N a22 h e25).tr (wb_xX9_commit_51 N t0 _ _ _ _ hJ)
  · have hJ := it_neg c21 hJ
    obtain ⟨⟨h27, r28⟩, e29, hJ⟩ := ob_some hJ
    exact (wo_X9_end N t0 h x2 (5 : Int32) e29).tr (wb_xX9_commit_41 N t0 _ hJ)
theorem wb_xX9_commit_27 (N : Nat) (t0 : Nat) (h : Hp) (x2 : Option Nat) (hJ : B_xX9_commit_27 N t0 h x2 = some (hz, ez)) : Fw h hz := by
  unfold B_xX9_commit_27 at hJ
  obtain ⟨⟨h31, r32⟩, e33, hJ⟩ := ob_some hJ
  exact (wo_X9_isInDanger N t0 h x2 e33).tr (wb_xX9_commit_32 N t0 _ _ _ hJ)
theorem wb_xX9_commit_11 (N : Nat) (t0 : Nat) (h : Hp) (x2 : Option Nat) (y0 : Int32) (hJ : B_xX9_commit_11 N t0 h x2 y0 = some (hz, ez)) : Fw h hz := by
  unfold B_xX9_commit_11 at hJ
  by_cases c35 : y0 = 0
  · have hJ := it_pos c35 hJ
    obtain ⟨⟨h36, r37⟩, e38, hJ⟩ := ob_some hJ
    exact (wo_X9_gatherReaders N t0 h x2 e38).tr (wb_xX9_commit_27 N t0 _ _ hJ)
  · have hJ := it_neg c35 hJ
    obtain ⟨⟨h40, r41⟩, e42, hJ⟩ := ob_some hJ
    exact (wo_X9_end N t0 h x2 (4 : Int32) e42).tr (wb_xX9_commit_20 N t0 _ hJ)
theorem wb_xX9_commit_5 (N : Nat) (t0 : Nat) (h : Hp) (y0 : Option Nat) (hJ : B_xX9_commit_5 N t0 h y0 = some (hz, ez)) : Fw h hz := by
  unfold B_xX9_commit_5 at hJ
  obtain ⟨⟨h44, r45⟩, e46, hJ⟩ := ob_some hJ
  exact (wo_X9_isInConflict N t0 h y0 e46).tr (wb_xX9_commit_11 N t0 _ _ _ hJ)
theorem wb_xX9_commit_0 (N : Nat) (t0 : Nat) (h : Hp) (x1 : Int32) (hJ : B_xX9_commit_0 N t0 h x1 = some (hz, ez)) : Fw h hz := by
  unfold B_xX9_commit_0 at hJ
  rcases orX_some hJ with hX | ⟨-, hJ⟩
  · exact wo_xX9_activeOne N t0 h x1 hX
  · obtain ⟨⟨h48, r49⟩, e50, hJ⟩ := ob_some hJ
    exact (wo_X9_activeOne N t0 h x1 e50).tr (wb_xX9_commit_5 N t0 _ _ hJ)
theorem wo_xX9_commit (N : Nat) (t0 : Nat) (h : Hp) (x1 : Int32) (hJ : J_xX9_commit N t0 h x1 = some (hz, ez)) : Fw h hz := wb_xX9_commit_0 N t0 h x1 hJ
end V_xX9_commit
section V_xX9_abort
variable {hz : Hp} {ez : String}
theorem wb_xX9_abort_10 (N : Nat) (t0 : Nat) (h : Hp) (hJ : B_xX9_abort_10 N t0 h = some (hz, ez)) : Fw h hz := by
  unfold B_xX9_abort_10 at hJ
  cases hJ
theorem wb_xX9_abort_6 (N : Nat) (t0 : Nat) (h : Hp) (y0 : Option Nat) (y1 : Option Nat) (hJ : B_xX9_abort_6 N t0 h y0 y1 = some (hz, ez)) : Fw h hz := by
  unfold B_xX9_abort_6 at hJ
  obtain ⟨a1, ea1, -, hJ⟩ := dr_some hJ
  obtain ⟨⟨h2, r3⟩, e4, hJ⟩ := ob_some hJ
  exact (wo_X9_end N a1 h y1 (3 : Int32) e4).tr (wb_xX9_abort_10 N t0 _ hJ)
theorem wb_xX9_abort_0 (N : Nat) (t0 : Nat) (h : Hp) (x1 : Int32) (hJ : B_xX9_abort_0 N t0 h x1 = some (hz, ez)) : Fw h hz := by
  unfold B_xX9_abort_0 at hJ
  rcases orX_some hJ with hX | ⟨-, hJ⟩
  · exact wo_xX9_activeOne N t0 h x1 hX
  · obtain ⟨⟨h6, r7⟩, e8, hJ⟩ := ob_some hJ
    exact (wo_X9_activeOne N t0 h x1 e8).tr (wb_xX9_abort_6 N t0 _ _ _ hJ)
theorem wo_xX9_abort (N : Nat) (t0 : Nat) (h : Hp) (x1 : Int32) (hJ : J_xX9_abort N t0 h x1 = some (hz, ez)) : Fw h hz := wb_xX9_abort_0 N t0 h x1 hJ
end V_xX9_abort
section V_xX9_rowKey
variable {hz : Hp} {ez : String}
theorem wb_xX9_rowKey_18 (N : Nat) (t0 : Nat) (h : Hp) (hJ : B_xX9_rowKey_18 N t0 h = some (hz, ez)) : Fw h hz := by
  unfold B_xX9_rowKey_18 at hJ
  obtain ⟨rfl, -⟩ := rs2 hJ
  exact (Fw.rf h)
theorem wb_xX9_rowKey_15 (N : Nat) (t0 : Nat) (h : Hp) (x1 : Int32) (y0 : Int32) (hJ : B_xX9_rowKey_15 N t0 h x1 y0 = some (hz, ez)) : Fw h hz := by
  unfold B_xX9_rowKey_15 at hJ
  by_cases c1 : y0 = 0
  · have hJ := it_pos c1 hJ
    exact wb_xX9_rowKey_18 N t0 _ hJ
  · have hJ := it_neg c1 hJ
    obtain ⟨a2, ea2, -, hJ⟩ := dr_some hJ
    obtain ⟨a3, ea3, -, hJ⟩ := dr_some hJ
    obtain ⟨-, hJ⟩ := ck_some hJ
    cases hJ
theorem wb_xX9_rowKey_0 (N : Nat) (t0 : Nat) (h : Hp) (x1 : Int32) (hJ : B_xX9_rowKey_0 N t0 h x1 = some (hz, ez)) : Fw h hz := by
  unfold B_xX9_rowKey_0 at hJ
  cases ea5 : (h.fr 1211 t0) with
  | none =>
    have hJ := nl_none ea5 hJ
    exact wb_xX9_rowKey_18 N t0 _ hJ
  | some a5 =>
    have hJ := nl_some ea5 hJ
    obtain ⟨a6, ea6, -, hJ⟩ := dr_some hJ
    obtain ⟨⟨h7, r8⟩, e9, hJ⟩ := ob_some hJ
    exact (wo_X0_hasRow N a6 h x1 e9).tr (wb_xX9_rowKey_15 N t0 _ _ _ hJ)
theorem wo_xX9_rowKey (N : Nat) (t0 : Nat) (h : Hp) (x1 : Int32) (hJ : J_xX9_rowKey N t0 h x1 = some (hz, ez)) : Fw h hz := wb_xX9_rowKey_0 N t0 h x1 hJ
end V_xX9_rowKey
section V_xX9_rowValue
variable {hz : Hp} {ez : String}
theorem wb_xX9_rowValue_18 (N : Nat) (t0 : Nat) (h : Hp) (hJ : B_xX9_rowValue_18 N t0 h = some (hz, ez)) : Fw h hz := by
  unfold B_xX9_rowValue_18 at hJ
  obtain ⟨rfl, -⟩ := rs2 hJ
  exact (Fw.rf h)
theorem wb_xX9_rowValue_15 (N : Nat) (t0 : Nat) (h : Hp) (x1 : Int32) (y0 : Int32) (hJ : B_xX9_rowValue_15 N t0 h x1 y0 = some (hz, ez)) : Fw h hz := by
  unfold B_xX9_rowValue_15 at hJ
  by_cases c1 : y0 = 0
  · have hJ := it_pos c1 hJ
    exact wb_xX9_rowValue_18 N t0 _ hJ
  · have hJ := it_neg c1 hJ
    obtain ⟨a2, ea2, -, hJ⟩ := dr_some hJ
    obtain ⟨a3, ea3, -, hJ⟩ := dr_some hJ
    obtain ⟨-, hJ⟩ := ck_some hJ
    cases hJ
theorem wb_xX9_rowValue_0 (N : Nat) (t0 : Nat) (h : Hp) (x1 : Int32) (hJ : B_xX9_rowValue_0 N t0 h x1 = some (hz, ez)) : Fw h hz := by
  unfold B_xX9_rowValue_0 at hJ
  cases ea5 : (h.fr 1211 t0) with
  | none =>
    have hJ := nl_none ea5 hJ
    exact wb_xX9_rowValue_18 N t0 _ hJ
  | some a5 =>
    have hJ := nl_some ea5 hJ
    obtain ⟨a6, ea6, -, hJ⟩ := dr_some hJ
    obtain ⟨⟨h7, r8⟩, e9, hJ⟩ := ob_some hJ
    exact (wo_X0_hasRow N a6 h x1 e9).tr (wb_xX9_rowValue_15 N t0 _ _ _ hJ)
theorem wo_xX9_rowValue (N : Nat) (t0 : Nat) (h : Hp) (x1 : Int32) (hJ : J_xX9_rowValue N t0 h x1 = some (hz, ez)) : Fw h hz := wb_xX9_rowValue_0 N t0 h x1 hJ
end V_xX9_rowValue
