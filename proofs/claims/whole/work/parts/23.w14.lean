section V_X9_abort
variable {hz : Hp}
theorem wb_X9_abort_10 (N : Nat) (t0 : Nat) (h : Hp) (hJ : B_X9_abort_10 N t0 h = some (hz, ())) : Fw h hz := by
  unfold B_X9_abort_10 at hJ
  obtain ⟨rfl, -⟩ := rs2 hJ
  exact (Fw.rf h)
theorem wb_X9_abort_6 (N : Nat) (t0 : Nat) (h : Hp) (y0 : Option Nat) (y1 : Option Nat) (hJ : B_X9_abort_6 N t0 h y0 y1 = some (hz, ())) : Fw h hz := by
  unfold B_X9_abort_6 at hJ
  obtain ⟨a1, ea1, -, hJ⟩ := dr_some hJ
  obtain ⟨⟨h2, r3⟩, e4, hJ⟩ := ob_some hJ
  exact (wo_X9_end N a1 h y1 (3 : Int32) e4).tr (wb_X9_abort_10 N t0 _ hJ)
theorem wb_X9_abort_0 (N : Nat) (t0 : Nat) (h : Hp) (x1 : Int32) (hJ : B_X9_abort_0 N t0 h x1 = some (hz, ())) : Fw h hz := by
  unfold B_X9_abort_0 at hJ
  obtain ⟨⟨h6, r7⟩, e8, hJ⟩ := ob_some hJ
  exact (wo_X9_activeOne N t0 h x1 e8).tr (wb_X9_abort_6 N t0 _ _ _ hJ)
theorem wo_X9_abort (N : Nat) (t0 : Nat) (h : Hp) (x1 : Int32) (hJ : J_X9_abort N t0 h x1 = some (hz, ())) : Fw h hz := wb_X9_abort_0 N t0 h x1 hJ
end V_X9_abort
