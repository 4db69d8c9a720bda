section V_X4_init
variable {hz : Hp}
theorem wb_X4_init_25 (N : Nat) (t0 : Nat) (h : Hp) (x6 : Option Nat) (hJ : B_X4_init_25 N t0 h x6 = some (hz, ())) : Fw h hz := by
  unfold B_X4_init_25 at hJ
  obtain ⟨rfl, -⟩ := rs2 hJ
  exact (Fw.rf h)
theorem wb_X4_init_0 (N : Nat) (t0 : Nat) (h : Hp) (x1 : Int32) (x2 : Int32) (x3 : Int32) (x4 : Int64) (x6 : Option Nat) (hJ : B_X4_init_0 N t0 h x1 x2 x3 x4 x6 = some (hz, ())) : Fw h hz := by
  unfold B_X4_init_0 at hJ
  obtain ⟨-, hJ⟩ := ck_some hJ
  exact (Fw.tr (show Fw h ((((h.sfi 700 t0 x1).sfi 701 t0 x2).sfi 702 t0 x3).sfl 703 t0 x4) from (Fw.rf h)) (wb_X4_init_25 N t0 _ _ hJ))
theorem wo_X4_init (N : Nat) (t0 : Nat) (h : Hp) (x1 : Int32) (x2 : Int32) (x3 : Int32) (x4 : Int64) (x6 : Option Nat) (hJ : J_X4_init N t0 h x1 x2 x3 x4 x6 = some (hz, ())) : Fw h hz := wb_X4_init_0 N t0 h x1 x2 x3 x4 x6 hJ
end V_X4_init
