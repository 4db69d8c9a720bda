section V_X2_carryOut
variable {hz : Hp}
theorem wb_X2_carryOut_145 (N : Nat) (t0 : Nat) (h : Hp) (hJ : B_X2_carryOut_145 N t0 h = some (hz, ())) : Fw h hz := by
  unfold B_X2_carryOut_145 at hJ
  obtain ⟨rfl, -⟩ := rs2 hJ
  exact (Fw.rf h)
theorem wb_X2_carryOut_139 (N : Nat) (t0 : Nat) (h : Hp) (y0 : Option Nat) (y1 : Int32) (hJ : B_X2_carryOut_139 N t0 h y0 y1 = some (hz, ())) : Fw h hz := by
  unfold B_X2_carryOut_139 at hJ
  obtain ⟨a1, ea1, -, hJ⟩ := dr_some hJ
  exact (Fw.tr (show Fw h (h.sfi 300 a1 y1) from (Fw.rf h)) (wb_X2_carryOut_145 N t0 _ hJ))
theorem wb_X2_carryOut_124 (N : Nat) (t0 : Nat) (h : Hp) (y0 : Option Nat) (y1 : Int32) (hJ : B_X2_carryOut_124 N t0 h y0 y1 = some (hz, ())) : Fw h hz := by
  unfold B_X2_carryOut_124 at hJ
  obtain ⟨a2, ea2, -, hJ⟩ := dr_some hJ
  exact (Fw.tr (show Fw h (h.sfi 300 a2 y1) from (Fw.rf h)) (wb_X2_carryOut_145 N t0 _ hJ))
theorem wb_X2_carryOut_113 (N : Nat) (t0 : Nat) (h : Hp) (y0 : Option Nat) (y1 : Int32) (hJ : B_X2_carryOut_113 N t0 h y0 y1 = some (hz, ())) : Fw h hz := by
  unfold B_X2_carryOut_113 at hJ
  obtain ⟨a3, ea3, -, hJ⟩ := dr_some hJ
  exact (Fw.tr (show Fw h (h.sfi 300 a3 y1) from (Fw.rf h)) (wb_X2_carryOut_145 N t0 _ hJ))
theorem wb_X2_carryOut_93 (N : Nat) (t0 : Nat) (h : Hp) (hJ : B_X2_carryOut_93 N t0 h = some (hz, ())) : Fw h hz := by
  unfold B_X2_carryOut_93 at hJ
  exact wb_X2_carryOut_145 N t0 _ hJ
theorem wb_X2_carryOut_73 (N : Nat) (t0 : Nat) (h : Hp) (hJ : B_X2_carryOut_73 N t0 h = some (hz, ())) : Fw h hz := by
  unfold B_X2_carryOut_73 at hJ
  exact wb_X2_carryOut_145 N t0 _ hJ
theorem wb_X2_carryOut_57 (N : Nat) (t0 : Nat) (h : Hp) (hJ : B_X2_carryOut_57 N t0 h = some (hz, ())) : Fw h hz := by
  unfold B_X2_carryOut_57 at hJ
  exact wb_X2_carryOut_145 N t0 _ hJ
theorem wb_X2_carryOut_4 (N : Nat) (t0 : Nat) (h : Hp) (x1 : Option Nat) (x2 : Option Nat) (hJ : B_X2_carryOut_4 N t0 h x1 x2 = some (hz, ())) : Fw h hz := by
  unfold B_X2_carryOut_4 at hJ
  by_cases c4 : (h.fi 500 t0) = (0 : Int32)
  · have hJ := it_pos c4 hJ
    obtain ⟨a5, ea5, -, hJ⟩ := dr_some hJ
    obtain ⟨⟨h6, r7⟩, e8, hJ⟩ := ob_some hJ
    exact (wo_X8_answerRead N a5 h (h.fi 501 t0) x2 e8).tr (wb_X2_carryOut_57 N t0 _ hJ)
  · have hJ := it_neg c4 hJ
    by_cases c10 : (h.fi 500 t0) = (1 : Int32)
    · have hJ := it_pos c10 hJ
      obtain ⟨a11, ea11, -, hJ⟩ := dr_some hJ
      obtain ⟨⟨h12, r13⟩, e14, hJ⟩ := ob_some hJ
      exact (wo_X8_answerNear N a11 h (h.fi 501 t0) (h.fi 504 t0) x2 e14).tr (wb_X2_carryOut_73 N t0 _ hJ)
    · have hJ := it_neg c10 hJ
      by_cases c16 : (h.fi 500 t0) = (2 : Int32)
      · have hJ := it_pos c16 hJ
        obtain ⟨a17, ea17, -, hJ⟩ := dr_some hJ
        obtain ⟨⟨h18, r19⟩, e20, hJ⟩ := ob_some hJ
        exact (wo_X8_answerScan N a17 h (h.fi 501 t0) (h.fi 502 t0) (h.fi 503 t0) x2 e20).tr (wb_X2_carryOut_93 N t0 _ hJ)
      · have hJ := it_neg c16 hJ
        by_cases c22 : (h.fi 500 t0) = (3 : Int32)
        · have hJ := it_pos c22 hJ
          obtain ⟨a23, ea23, -, hJ⟩ := dr_some hJ
          obtain ⟨⟨h24, r25⟩, e26, hJ⟩ := ob_some hJ
          exact (wo_X8_putOwn N a23 h (h.fi 501 t0) (h.fi 504 t0) (h.fl 505 t0) e26).tr (wb_X2_carryOut_113 N t0 _ _ _ hJ)
        · have hJ := it_neg c22 hJ
          by_cases c28 : (h.fi 500 t0) = (4 : Int32)
          · have hJ := it_pos c28 hJ
            obtain ⟨a29, ea29, -, hJ⟩ := dr_some hJ
            obtain ⟨⟨h30, r31⟩, e32, hJ⟩ := ob_some hJ
            exact (wo_X8_addPlace N a29 h e32).tr (wb_X2_carryOut_124 N t0 _ _ _ hJ)
          · have hJ := it_neg c28 hJ
            by_cases c34 : (h.fi 500 t0) = (5 : Int32)
            · have hJ := it_pos c34 hJ
              obtain ⟨a35, ea35, -, hJ⟩ := dr_some hJ
              obtain ⟨⟨h36, r37⟩, e38, hJ⟩ := ob_some hJ
              exact (wo_X8_comeBack N a35 h (h.fi 503 t0) e38).tr (wb_X2_carryOut_139 N t0 _ _ _ hJ)
            · have hJ := it_neg c34 hJ
              exact wb_X2_carryOut_145 N t0 _ hJ
theorem wb_X2_carryOut_0 (N : Nat) (t0 : Nat) (h : Hp) (x1 : Option Nat) (x2 : Option Nat) (hJ : B_X2_carryOut_0 N t0 h x1 x2 = some (hz, ())) : Fw h hz := by
  unfold B_X2_carryOut_0 at hJ
  obtain ⟨a40, ea40, -, hJ⟩ := dr_some hJ
  obtain ⟨⟨h41, r42⟩, e43, hJ⟩ := ob_some hJ
  exact (wo_X0_clear N a40 h e43).tr (wb_X2_carryOut_4 N t0 _ _ _ hJ)
theorem wo_X2_carryOut (N : Nat) (t0 : Nat) (h : Hp) (x1 : Option Nat) (x2 : Option Nat) (hJ : J_X2_carryOut N t0 h x1 x2 = some (hz, ())) : Fw h hz := wb_X2_carryOut_0 N t0 h x1 x2 hJ
end V_X2_carryOut
section V_X2_init
variable {hz : Hp}
theorem wb_X2_init_24 (N : Nat) (t0 : Nat) (h : Hp) (x1 : Int32) (x2 : Int32) (hJ : B_X2_init_24 N t0 h x1 x2 = some (hz, ())) : Fw h hz := by
  unfold B_X2_init_24 at hJ
  obtain ⟨rfl, -⟩ := rs2 hJ
  exact (Fw.rf h)
theorem wb_X2_init_0 (N : Nat) (t0 : Nat) (h : Hp) (x1 : Int32) (x2 : Int32) (hJ : B_X2_init_0 N t0 h x1 x2 = some (hz, ())) : Fw h hz := by
  unfold B_X2_init_0 at hJ
  exact (Fw.tr (show Fw h ((((h.sfi 502 t0 (0 : Int32)).sfi 503 t0 (0 : Int32)).sfi 504 t0 (0 : Int32)).sfl 505 t0 (0 : Int64)) from (Fw.rf h)) (wb_X2_init_24 N t0 _ _ _ hJ))
theorem wo_X2_init (N : Nat) (t0 : Nat) (h : Hp) (x1 : Int32) (x2 : Int32) (hJ : J_X2_init N t0 h x1 x2 = some (hz, ())) : Fw h hz := wb_X2_init_0 N t0 h x1 x2 hJ
end V_X2_init
section V_X2_isLooking
variable {hz : Hp} {rz : Int32}
theorem wb_X2_isLooking_28 (N : Nat) (t0 : Nat) (h : Hp) (y0 : Int32) (hJ : B_X2_isLooking_28 N t0 h y0 = some (hz, rz)) : Fw h hz := by
  unfold B_X2_isLooking_28 at hJ
  obtain ⟨-, hJ⟩ := ck_some hJ
  obtain ⟨rfl, -⟩ := rs2 hJ
  exact (Fw.rf h)
theorem wb_X2_isLooking_23 (N : Nat) (t0 : Nat) (h : Hp) (hJ : B_X2_isLooking_23 N t0 h = some (hz, rz)) : Fw h hz := by
  unfold B_X2_isLooking_23 at hJ
  exact wb_X2_isLooking_28 N t0 _ _ hJ
theorem wb_X2_isLooking_0 (N : Nat) (t0 : Nat) (h : Hp) (hJ : B_X2_isLooking_0 N t0 h = some (hz, rz)) : Fw h hz := by
  unfold B_X2_isLooking_0 at hJ
  by_cases c2 : (h.fi 500 t0) = 0
  · have hJ := it_pos c2 hJ
    exact wb_X2_isLooking_23 N t0 _ hJ
  · have hJ := it_neg c2 hJ
    by_cases c3 : (h.fi 500 t0) = (1 : Int32)
    · have hJ := it_pos c3 hJ
      exact wb_X2_isLooking_23 N t0 _ hJ
    · have hJ := it_neg c3 hJ
      by_cases c4 : (h.fi 500 t0) = (2 : Int32)
      · have hJ := it_pos c4 hJ
        exact wb_X2_isLooking_23 N t0 _ hJ
      · have hJ := it_neg c4 hJ
        exact wb_X2_isLooking_28 N t0 _ _ hJ
theorem wo_X2_isLooking (N : Nat) (t0 : Nat) (h : Hp) (hJ : J_X2_isLooking N t0 h = some (hz, rz)) : Fw h hz := wb_X2_isLooking_0 N t0 h hJ
end V_X2_isLooking
