section V_X7_init
variable {hz : Hp}
theorem wb_X7_init_82 (N : Nat) (t0 : Nat) (h : Hp) (y0 : Option Nat) (y1 : Int32) (hJ : B_X7_init_82 N t0 h y0 y1 = some (hz, ())) : Fw h hz := by
  unfold B_X7_init_82 at hJ
  obtain ⟨a1, ea1, -, hJ⟩ := dr_some hJ
  obtain ⟨rfl, -⟩ := rs2 hJ
  exact (Fw.rf h)
theorem wb_X7_init_64 (N : Nat) (t0 : Nat) (h : Hp) (x1 : Option Nat) (x2 : Int32) (hJ : B_X7_init_64 N t0 h x1 x2 = some (hz, ())) : Fw h hz := by
  unfold B_X7_init_64 at hJ
  obtain ⟨a2, ea2, -, hJ⟩ := dr_some hJ
  by_cases c3 : x2 = 0
  · have hJ := it_pos c3 hJ
    exact (Fw.tr (show Fw h (h.sfi 1001 t0 (h.fi 1101 a2)) from (Fw.rf h)) (wb_X7_init_82 N t0 _ _ _ hJ))
  · have hJ := it_neg c3 hJ
    exact (Fw.tr (show Fw h (h.sfi 1001 t0 (h.fi 1101 a2)) from (Fw.rf h)) (wb_X7_init_82 N t0 _ _ _ hJ))
theorem wb_X7_init_41 (N : Nat) (t0 : Nat) (h : Hp) (x1 : Option Nat) (x2 : Int32) (hJ : B_X7_init_41 N t0 h x1 x2 = some (hz, ())) : Fw h hz := by
  unfold B_X7_init_41 at hJ
  obtain ⟨a4, ea4, -, hJ⟩ := dr_some hJ
  exact (Fw.tr (show Fw h ((((h.sfi 1009 t0 (0 : Int32)).sfi 1010 t0 (0 : Int32)).sfr 1002 t0 x1).sfi 1000 t0 ((((h.sfi 1009 t0 (0 : Int32)).sfi 1010 t0 (0 : Int32)).sfr 1002 t0 x1).fi 1102 a4)) from (Fw.rf h)) (wb_X7_init_64 N t0 _ _ _ hJ))
theorem wb_X7_init_23 (N : Nat) (t0 : Nat) (h : Hp) (x1 : Option Nat) (x2 : Int32) (y0 : Option Nat) (y1 : Option Nat) (hJ : B_X7_init_23 N t0 h x1 x2 y0 y1 = some (hz, ())) : Fw h hz := by
  unfold B_X7_init_23 at hJ
  obtain ⟨a5, ea5, -, hJ⟩ := dr_some hJ
  exact (Fw.tr (show Fw h ((((h.sfr 1004 a5 y1).sfi 1006 t0 (1 : Int32)).sfi 1007 t0 (0 : Int32)).sfi 1008 t0 (0 : Int32)) from (Fw.rf h)) (wb_X7_init_41 N t0 _ _ _ hJ))
theorem wb_X7_init_19 (N : Nat) (t0 : Nat) (h : Hp) (x1 : Option Nat) (x2 : Int32) (y0 : Option Nat) (y1 : Option Nat) (hJ : B_X7_init_19 N t0 h x1 x2 y0 y1 = some (hz, ())) : Fw h hz := by
  unfold B_X7_init_19 at hJ
  obtain ⟨a6, ea6, -, hJ⟩ := dr_some hJ
  obtain ⟨⟨h7, r8⟩, e9, hJ⟩ := ob_some hJ
  exact (wo_Jx4a65c_init_da8c8 N a6 h e9).tr (wb_X7_init_23 N t0 _ _ _ _ _ hJ)
theorem wb_X7_init_12 (N : Nat) (t0 : Nat) (h : Hp) (x1 : Option Nat) (x2 : Int32) (y0 : Option Nat) (y1 : Option Nat) (hJ : B_X7_init_12 N t0 h x1 x2 y0 y1 = some (hz, ())) : Fw h hz := by
  unfold B_X7_init_12 at hJ
  obtain ⟨a11, ea11, -, hJ⟩ := dr_some hJ
  exact (Fw.tr (show Fw h (h.sfr 1003 a11 y1) from (Fw.rf h)) ((Fw.new (h.sfr 1003 a11 y1) _ _ _).tr (wb_X7_init_19 N t0 _ _ _ _ _ hJ)))
theorem wb_X7_init_8 (N : Nat) (t0 : Nat) (h : Hp) (x1 : Option Nat) (x2 : Int32) (y0 : Option Nat) (y1 : Option Nat) (hJ : B_X7_init_8 N t0 h x1 x2 y0 y1 = some (hz, ())) : Fw h hz := by
  unfold B_X7_init_8 at hJ
  obtain ⟨a13, ea13, -, hJ⟩ := dr_some hJ
  obtain ⟨⟨h14, r15⟩, e16, hJ⟩ := ob_some hJ
  exact (wo_X6_init N a13 h e16).tr (wb_X7_init_12 N t0 _ _ _ _ _ hJ)
theorem wb_X7_init_0 (N : Nat) (t0 : Nat) (h : Hp) (x1 : Option Nat) (x2 : Int32) (hJ : B_X7_init_0 N t0 h x1 x2 = some (hz, ())) : Fw h hz := by
  unfold B_X7_init_0 at hJ
  exact (Fw.new h _ _ _).tr (wb_X7_init_8 N t0 _ _ _ _ _ hJ)
theorem wo_X7_init (N : Nat) (t0 : Nat) (h : Hp) (x1 : Option Nat) (x2 : Int32) (hJ : J_X7_init N t0 h x1 x2 = some (hz, ())) : Fw h hz := wb_X7_init_0 N t0 h x1 x2 hJ
end V_X7_init
section V_X7_becomeSafeIfDone
variable {hz : Hp}
theorem wb_X7_becomeSafeIfDone_25 (N : Nat) (t0 : Nat) (h : Hp) (hJ : B_X7_becomeSafeIfDone_25 N t0 h = some (hz, ())) : Fw h hz := by
  unfold B_X7_becomeSafeIfDone_25 at hJ
  obtain ⟨rfl, -⟩ := rs2 hJ
  exact (Fw.rf h)
theorem wb_X7_becomeSafeIfDone_0 (N : Nat) (t0 : Nat) (h : Hp) (hJ : B_X7_becomeSafeIfDone_0 N t0 h = some (hz, ())) : Fw h hz := by
  unfold B_X7_becomeSafeIfDone_0 at hJ
  by_cases c1 : (h.fi 1005 t0) = (1 : Int32)
  · have hJ := it_pos c1 hJ
    by_cases c2 : (h.fi 1010 t0) = 0
    · have hJ := it_pos c2 hJ
      exact (Fw.tr (show Fw h ((h.sfi 1005 t0 (2 : Int32)).sfi 1008 t0 (0 : Int32)) from (Fw.rf h)) (wb_X7_becomeSafeIfDone_25 N t0 _ hJ))
    · have hJ := it_neg c2 hJ
      exact wb_X7_becomeSafeIfDone_25 N t0 _ hJ
  · have hJ := it_neg c1 hJ
    exact wb_X7_becomeSafeIfDone_25 N t0 _ hJ
theorem wo_X7_becomeSafeIfDone (N : Nat) (t0 : Nat) (h : Hp) (hJ : J_X7_becomeSafeIfDone N t0 h = some (hz, ())) : Fw h hz := wb_X7_becomeSafeIfDone_0 N t0 h hJ
end V_X7_becomeSafeIfDone
section V_X7_waitFor
variable {hz : Hp}
theorem wb_X7_waitFor_9 (N : Nat) (t0 : Nat) (h : Hp) (hJ : B_X7_waitFor_9 N t0 h = some (hz, ())) : Fw h hz := by
  unfold B_X7_waitFor_9 at hJ
  obtain ⟨rfl, -⟩ := rs2 hJ
  exact (Fw.rf h)
theorem wb_X7_waitFor_0 (N : Nat) (t0 : Nat) (h : Hp) (x1 : Int32) (hJ : B_X7_waitFor_0 N t0 h x1 = some (hz, ())) : Fw h hz := by
  unfold B_X7_waitFor_0 at hJ
  obtain ⟨⟨h1, r2⟩, e3, hJ⟩ := ob_some hJ
  exact (Fw.tr (show Fw h (h.sfi 1010 t0 x1) from (Fw.rf h)) ((wo_X7_becomeSafeIfDone N t0 (h.sfi 1010 t0 x1) e3).tr (wb_X7_waitFor_9 N t0 _ hJ)))
theorem wo_X7_waitFor (N : Nat) (t0 : Nat) (h : Hp) (x1 : Int32) (hJ : J_X7_waitFor N t0 h x1 = some (hz, ())) : Fw h hz := wb_X7_waitFor_0 N t0 h x1 hJ
end V_X7_waitFor
section V_X7_runs
variable {hz : Hp} {rz : Int32}
theorem wb_X7_runs_19 (N : Nat) (t0 : Nat) (h : Hp) (y0 : Int32) (hJ : B_X7_runs_19 N t0 h y0 = some (hz, rz)) : Fw h hz := by
  unfold B_X7_runs_19 at hJ
  obtain ⟨rfl, -⟩ := rs2 hJ
  exact (Fw.rf h)
theorem wb_X7_runs_0 (N : Nat) (t0 : Nat) (h : Hp) (hJ : B_X7_runs_0 N t0 h = some (hz, rz)) : Fw h hz := by
  unfold B_X7_runs_0 at hJ
  by_cases c1 : (h.fi 1005 t0) = (2 : Int32)
  · have hJ := it_pos c1 hJ
    exact wb_X7_runs_19 N t0 _ _ hJ
  · have hJ := it_neg c1 hJ
    obtain ⟨a2, ea2, -, hJ⟩ := dr_some hJ
    exact wb_X7_runs_19 N t0 _ _ hJ
theorem wo_X7_runs (N : Nat) (t0 : Nat) (h : Hp) (hJ : J_X7_runs N t0 h = some (hz, rz)) : Fw h hz := wb_X7_runs_0 N t0 h hJ
end V_X7_runs
section V_X7_mayNotPrecede
variable {hz : Hp} {rz : Int32}
theorem wb_X7_mayNotPrecede_34 (N : Nat) (t0 : Nat) (h : Hp) (y0 : Int32) (hJ : B_X7_mayNotPrecede_34 N t0 h y0 = some (hz, rz)) : Fw h hz := by
  unfold B_X7_mayNotPrecede_34 at hJ
  obtain ⟨-, hJ⟩ := ck_some hJ
  obtain ⟨rfl, -⟩ := rs2 hJ
  exact (Fw.rf h)
theorem wb_X7_mayNotPrecede_29 (N : Nat) (t0 : Nat) (h : Hp) (hJ : B_X7_mayNotPrecede_29 N t0 h = some (hz, rz)) : Fw h hz := by
  unfold B_X7_mayNotPrecede_29 at hJ
  exact wb_X7_mayNotPrecede_34 N t0 _ _ hJ
theorem wb_X7_mayNotPrecede_48 (N : Nat) (t0 : Nat) (h : Hp) (y0 : Int32) (hJ : B_X7_mayNotPrecede_48 N t0 h y0 = some (hz, rz)) : Fw h hz := by
  unfold B_X7_mayNotPrecede_48 at hJ
  obtain ⟨-, hJ⟩ := ck_some hJ
  obtain ⟨rfl, -⟩ := rs2 hJ
  exact (Fw.rf h)
theorem wb_X7_mayNotPrecede_0 (N : Nat) (t0 : Nat) (h : Hp) (x1 : Int32) (hJ : B_X7_mayNotPrecede_0 N t0 h x1 = some (hz, rz)) : Fw h hz := by
  unfold B_X7_mayNotPrecede_0 at hJ
  by_cases c3 : x1 = 0
  · have hJ := it_pos c3 hJ
    obtain ⟨rfl, -⟩ := rs2 hJ
    exact (Fw.rf h)
  · have hJ := it_neg c3 hJ
    by_cases c4 : (h.fi 1005 t0) = 0
    · have hJ := it_pos c4 hJ
      by_cases c6 : (h.fi 1006 t0) = (1 : Int32)
      · have hJ := it_pos c6 hJ
        exact wb_X7_mayNotPrecede_29 N t0 _ hJ
      · have hJ := it_neg c6 hJ
        by_cases c7 : (h.fi 1007 t0) < x1
        · have hJ := it_pos c7 hJ
          exact wb_X7_mayNotPrecede_34 N t0 _ _ hJ
        · have hJ := it_neg c7 hJ
          exact wb_X7_mayNotPrecede_29 N t0 _ hJ
    · have hJ := it_neg c4 hJ
      by_cases c5 : (h.fi 1001 t0) < x1
      · have hJ := it_pos c5 hJ
        exact wb_X7_mayNotPrecede_48 N t0 _ _ hJ
      · have hJ := it_neg c5 hJ
        exact wb_X7_mayNotPrecede_48 N t0 _ _ hJ
theorem wo_X7_mayNotPrecede (N : Nat) (t0 : Nat) (h : Hp) (x1 : Int32) (hJ : J_X7_mayNotPrecede N t0 h x1 = some (hz, rz)) : Fw h hz := wb_X7_mayNotPrecede_0 N t0 h x1 hJ
end V_X7_mayNotPrecede
section V_X7_heedEndOf
variable {hz : Hp}
theorem wb_X7_heedEndOf_18 (N : Nat) (t0 : Nat) (h : Hp) (hJ : B_X7_heedEndOf_18 N t0 h = some (hz, ())) : Fw h hz := by
  unfold B_X7_heedEndOf_18 at hJ
  obtain ⟨rfl, -⟩ := rs2 hJ
  exact (Fw.rf h)
theorem wb_X7_heedEndOf_72 (N : Nat) (t0 : Nat) (h : Hp) (hJ : B_X7_heedEndOf_72 N t0 h = some (hz, ())) : Fw h hz := by
  unfold B_X7_heedEndOf_72 at hJ
  obtain ⟨rfl, -⟩ := rs2 hJ
  exact (Fw.rf h)
theorem wb_X7_heedEndOf_68 (N : Nat) (t0 : Nat) (h : Hp) (hJ : B_X7_heedEndOf_68 N t0 h = some (hz, ())) : Fw h hz := by
  unfold B_X7_heedEndOf_68 at hJ
  obtain ⟨⟨h1, r2⟩, e3, hJ⟩ := ob_some hJ
  exact (wo_X7_becomeSafeIfDone N t0 h e3).tr (wb_X7_heedEndOf_72 N t0 _ hJ)
theorem wb_X7_heedEndOf_0 (N : Nat) (t0 : Nat) (h : Hp) (x1 : Option Nat) (hJ : B_X7_heedEndOf_0 N t0 h x1 = some (hz, ())) : Fw h hz := by
  unfold B_X7_heedEndOf_0 at hJ
  by_cases c5 : (h.fi 1005 t0) = 0
  · have hJ := it_pos c5 hJ
    exact wb_X7_heedEndOf_18 N t0 _ hJ
  · have hJ := it_neg c5 hJ
    obtain ⟨a6, ea6, -, hJ⟩ := dr_some hJ
    by_cases c7 : (h.fi 1000 a6) ≤ (h.fi 1000 t0)
    · have hJ := it_pos c7 hJ
      by_cases c8 : ((h.sfi 1010 t0 ((h.fi 1010 t0) - (1 : Int32))).fi 1005 t0) = (1 : Int32)
      · have hJ := it_pos c8 hJ
        by_cases c9 : ((h.sfi 1010 t0 ((h.fi 1010 t0) - (1 : Int32))).fi 1006 a6) = (2 : Int32)
        · have hJ := it_pos c9 hJ
          by_cases c10 : ((h.sfi 1010 t0 ((h.fi 1010 t0) - (1 : Int32))).fi 1008 a6) = 0
          · have hJ := it_pos c10 hJ
            exact (Fw.tr (show Fw h (h.sfi 1010 t0 ((h.fi 1010 t0) - (1 : Int32))) from (Fw.rf h)) (wb_X7_heedEndOf_68 N t0 _ hJ))
          · have hJ := it_neg c10 hJ
            by_cases c11 : ((h.sfi 1010 t0 ((h.fi 1010 t0) - (1 : Int32))).fi 1001 t0) < ((h.sfi 1010 t0 ((h.fi 1010 t0) - (1 : Int32))).fi 1008 a6)
            · have hJ := it_pos c11 hJ
              exact (Fw.tr (show Fw h (h.sfi 1010 t0 ((h.fi 1010 t0) - (1 : Int32))) from (Fw.rf h)) (wb_X7_heedEndOf_68 N t0 _ hJ))
            · have hJ := it_neg c11 hJ
              exact (Fw.tr (show Fw h ((h.sfi 1010 t0 ((h.fi 1010 t0) - (1 : Int32))).sfi 1005 t0 (3 : Int32)) from (Fw.rf h)) (wb_X7_heedEndOf_68 N t0 _ hJ))
        · have hJ := it_neg c9 hJ
          exact (Fw.tr (show Fw h (h.sfi 1010 t0 ((h.fi 1010 t0) - (1 : Int32))) from (Fw.rf h)) (wb_X7_heedEndOf_68 N t0 _ hJ))
      · have hJ := it_neg c8 hJ
        exact (Fw.tr (show Fw h (h.sfi 1010 t0 ((h.fi 1010 t0) - (1 : Int32))) from (Fw.rf h)) (wb_X7_heedEndOf_68 N t0 _ hJ))
    · have hJ := it_neg c7 hJ
      exact wb_X7_heedEndOf_18 N t0 _ hJ
theorem wo_X7_heedEndOf (N : Nat) (t0 : Nat) (h : Hp) (x1 : Option Nat) (hJ : J_X7_heedEndOf N t0 h x1 = some (hz, ())) : Fw h hz := wb_X7_heedEndOf_0 N t0 h x1 hJ
end V_X7_heedEndOf
section V_X7_noteOut
variable {hz : Hp}
theorem wb_X7_noteOut_20 (N : Nat) (t0 : Nat) (h : Hp) (hJ : B_X7_noteOut_20 N t0 h = some (hz, ())) : Fw h hz := by
  unfold B_X7_noteOut_20 at hJ
  obtain ⟨rfl, -⟩ := rs2 hJ
  exact (Fw.rf h)
theorem wb_X7_noteOut_15 (N : Nat) (t0 : Nat) (h : Hp) (x1 : Int32) (hJ : B_X7_noteOut_15 N t0 h x1 = some (hz, ())) : Fw h hz := by
  unfold B_X7_noteOut_15 at hJ
  exact (Fw.tr (show Fw h (h.sfi 1008 t0 x1) from (Fw.rf h)) (wb_X7_noteOut_20 N t0 _ hJ))
theorem wb_X7_noteOut_0 (N : Nat) (t0 : Nat) (h : Hp) (x1 : Int32) (hJ : B_X7_noteOut_0 N t0 h x1 = some (hz, ())) : Fw h hz := by
  unfold B_X7_noteOut_0 at hJ
  by_cases c1 : (h.fi 1008 t0) = 0
  · have hJ := it_pos c1 hJ
    exact wb_X7_noteOut_15 N t0 _ _ hJ
  · have hJ := it_neg c1 hJ
    by_cases c2 : (h.fi 1008 t0) ≤ x1
    · have hJ := it_pos c2 hJ
      exact wb_X7_noteOut_20 N t0 _ hJ
    · have hJ := it_neg c2 hJ
      exact wb_X7_noteOut_15 N t0 _ _ hJ
theorem wo_X7_noteOut (N : Nat) (t0 : Nat) (h : Hp) (x1 : Int32) (hJ : J_X7_noteOut N t0 h x1 = some (hz, ())) : Fw h hz := wb_X7_noteOut_0 N t0 h x1 hJ
end V_X7_noteOut
section V_X7_hasReadKey
variable {hz : Hp} {rz : Int32}
theorem wb_X7_hasReadKey_24 (N : Nat) (t0 : Nat) (h : Hp) (y0 : Int32) (hJ : B_X7_hasReadKey_24 N t0 h y0 = some (hz, rz)) : Fw h hz := by
  unfold B_X7_hasReadKey_24 at hJ
  obtain ⟨-, hJ⟩ := ck_some hJ
  obtain ⟨rfl, -⟩ := rs2 hJ
  exact (Fw.rf h)
theorem wb_X7_hasReadKey_23 (N : Nat) (t0 : Nat) (h : Hp) (hJ : B_X7_hasReadKey_23 N t0 h = some (hz, rz)) : Fw h hz := by
  unfold B_X7_hasReadKey_23 at hJ
  exact wb_X7_hasReadKey_24 N t0 _ _ hJ
theorem wb_X7_hasReadKey_16 (N : Nat) (t0 : Nat) (h : Hp) (y0 : Int32) (hJ : B_X7_hasReadKey_16 N t0 h y0 = some (hz, rz)) : Fw h hz := by
  unfold B_X7_hasReadKey_16 at hJ
  by_cases c2 : y0 = 0
  · have hJ := it_pos c2 hJ
    exact wb_X7_hasReadKey_23 N t0 _ hJ
  · have hJ := it_neg c2 hJ
    exact wb_X7_hasReadKey_24 N t0 _ _ hJ
theorem wb_X7_hasReadKey_0 (N : Nat) (t0 : Nat) (h : Hp) (x1 : Int32) (hJ : B_X7_hasReadKey_0 N t0 h x1 = some (hz, rz)) : Fw h hz := by
  unfold B_X7_hasReadKey_0 at hJ
  by_cases c3 : (h.fi 1005 t0) = (2 : Int32)
  · have hJ := it_pos c3 hJ
    exact wb_X7_hasReadKey_23 N t0 _ hJ
  · have hJ := it_neg c3 hJ
    obtain ⟨a4, ea4, -, hJ⟩ := dr_some hJ
    obtain ⟨⟨h5, r6⟩, e7, hJ⟩ := ob_some hJ
    exact (wo_X6_contains N a4 h x1 e7).tr (wb_X7_hasReadKey_16 N t0 _ _ hJ)
theorem wo_X7_hasReadKey (N : Nat) (t0 : Nat) (h : Hp) (x1 : Int32) (hJ : J_X7_hasReadKey N t0 h x1 = some (hz, rz)) : Fw h hz := wb_X7_hasReadKey_0 N t0 h x1 hJ
end V_X7_hasReadKey
