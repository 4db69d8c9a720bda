section V_Jxa1e45_init_da8c8
variable {hz : Hp}
theorem wb_Jxa1e45_init_da8c8_0 (N : Nat) (t0 : Nat) (h : Hp) (hJ : B_Jxa1e45_init_da8c8_0 N t0 h = some (hz, ())) : Fw h hz := by
  unfold B_Jxa1e45_init_da8c8_0 at hJ
  obtain ⟨rfl, -⟩ := rs2 hJ
  exact (Fw.rf h)
theorem wo_Jxa1e45_init_da8c8 (N : Nat) (t0 : Nat) (h : Hp) (hJ : J_Jxa1e45_init_da8c8 N t0 h = some (hz, ())) : Fw h hz := wb_Jxa1e45_init_da8c8_0 N t0 h hJ
end V_Jxa1e45_init_da8c8
section V_Jxc12de_init_da8c8
variable {hz : Hp}
theorem wb_Jxc12de_init_da8c8_4 (N : Nat) (t0 : Nat) (h : Hp) (hJ : B_Jxc12de_init_da8c8_4 N t0 h = some (hz, ())) : Fw h hz := by
  unfold B_Jxc12de_init_da8c8_4 at hJ
  obtain ⟨rfl, -⟩ := rs2 hJ
  exact (Fw.rf h)
theorem wb_Jxc12de_init_da8c8_0 (N : Nat) (t0 : Nat) (h : Hp) (hJ : B_Jxc12de_init_da8c8_0 N t0 h = some (hz, ())) : Fw h hz := by
  unfold B_Jxc12de_init_da8c8_0 at hJ
  obtain ⟨⟨h1, r2⟩, e3, hJ⟩ := ob_some hJ
  exact (wo_Jxa1e45_init_da8c8 N t0 h e3).tr (wb_Jxc12de_init_da8c8_4 N t0 _ hJ)
theorem wo_Jxc12de_init_da8c8 (N : Nat) (t0 : Nat) (h : Hp) (hJ : J_Jxc12de_init_da8c8 N t0 h = some (hz, ())) : Fw h hz := wb_Jxc12de_init_da8c8_0 N t0 h hJ
end V_Jxc12de_init_da8c8
section V_Jx4a65c_init_da8c8
variable {hz : Hp}
theorem wb_Jx4a65c_init_da8c8_4 (N : Nat) (t0 : Nat) (h : Hp) (hJ : B_Jx4a65c_init_da8c8_4 N t0 h = some (hz, ())) : Fw h hz := by
  unfold B_Jx4a65c_init_da8c8_4 at hJ
  obtain ⟨rfl, -⟩ := rs2 hJ
  exact (Fw.rf h)
theorem wb_Jx4a65c_init_da8c8_0 (N : Nat) (t0 : Nat) (h : Hp) (hJ : B_Jx4a65c_init_da8c8_0 N t0 h = some (hz, ())) : Fw h hz := by
  unfold B_Jx4a65c_init_da8c8_0 at hJ
  obtain ⟨⟨h1, r2⟩, e3, hJ⟩ := ob_some hJ
  exact (wo_Jxc12de_init_da8c8 N t0 h e3).tr (wb_Jx4a65c_init_da8c8_4 N t0 _ hJ)
theorem wo_Jx4a65c_init_da8c8 (N : Nat) (t0 : Nat) (h : Hp) (hJ : J_Jx4a65c_init_da8c8 N t0 h = some (hz, ())) : Fw h hz := wb_Jx4a65c_init_da8c8_0 N t0 h hJ
end V_Jx4a65c_init_da8c8
section V_Jx4a65c_size_8abf5
variable {hz : Hp} {rz : Int32}
theorem wb_Jx4a65c_size_8abf5_0 (N : Nat) (t0 : Nat) (h : Hp) (hJ : B_Jx4a65c_size_8abf5_0 N t0 h = some (hz, rz)) : Fw h hz := by
  unfold B_Jx4a65c_size_8abf5_0 at hJ
  obtain ⟨rfl, -⟩ := rs2 hJ
  exact (Fw.rf h)
theorem wo_Jx4a65c_size_8abf5 (N : Nat) (t0 : Nat) (h : Hp) (hJ : J_Jx4a65c_size_8abf5 N t0 h = some (hz, rz)) : Fw h hz := wb_Jx4a65c_size_8abf5_0 N t0 h hJ
end V_Jx4a65c_size_8abf5
section V_Jx4a65c_isEmpty_aae02
variable {hz : Hp} {rz : Int32}
theorem wb_Jx4a65c_isEmpty_aae02_12 (N : Nat) (t0 : Nat) (h : Hp) (y0 : Int32) (hJ : B_Jx4a65c_isEmpty_aae02_12 N t0 h y0 = some (hz, rz)) : Fw h hz := by
  unfold B_Jx4a65c_isEmpty_aae02_12 at hJ
  obtain ⟨-, hJ⟩ := ck_some hJ
  obtain ⟨rfl, -⟩ := rs2 hJ
  exact (Fw.rf h)
theorem wb_Jx4a65c_isEmpty_aae02_0 (N : Nat) (t0 : Nat) (h : Hp) (hJ : B_Jx4a65c_isEmpty_aae02_0 N t0 h = some (hz, rz)) : Fw h hz := by
  unfold B_Jx4a65c_isEmpty_aae02_0 at hJ
  by_cases c2 : (h.fi 202 t0) = 0
  · have hJ := it_pos c2 hJ
    exact wb_Jx4a65c_isEmpty_aae02_12 N t0 _ _ hJ
  · have hJ := it_neg c2 hJ
    exact wb_Jx4a65c_isEmpty_aae02_12 N t0 _ _ hJ
theorem wo_Jx4a65c_isEmpty_aae02 (N : Nat) (t0 : Nat) (h : Hp) (hJ : J_Jx4a65c_isEmpty_aae02 N t0 h = some (hz, rz)) : Fw h hz := wb_Jx4a65c_isEmpty_aae02_0 N t0 h hJ
end V_Jx4a65c_isEmpty_aae02
section V_J3_checkIndex_8e157
variable {hz : Hp} {rz : Int32}
theorem wb_J3_checkIndex_8e157_9 (N : Nat) (h : Hp) (x0 : Int32) (x1 : Int32) (x2 : Option Nat) (hJ : B_J3_checkIndex_8e157_9 N h x0 x1 x2 = some (hz, rz)) : Fw h hz := by
  unfold B_J3_checkIndex_8e157_9 at hJ
  cases hJ
theorem wb_J3_checkIndex_8e157_0 (N : Nat) (h : Hp) (x0 : Int32) (x1 : Int32) (x2 : Option Nat) (hJ : B_J3_checkIndex_8e157_0 N h x0 x1 x2 = some (hz, rz)) : Fw h hz := by
  unfold B_J3_checkIndex_8e157_0 at hJ
  by_cases c1 : x0 < 0
  · have hJ := it_pos c1 hJ
    exact wb_J3_checkIndex_8e157_9 N _ _ _ _ hJ
  · have hJ := it_neg c1 hJ
    by_cases c2 : x0 < x1
    · have hJ := it_pos c2 hJ
      obtain ⟨rfl, -⟩ := rs2 hJ
      exact (Fw.rf h)
    · have hJ := it_neg c2 hJ
      exact wb_J3_checkIndex_8e157_9 N _ _ _ _ hJ
theorem wo_J3_checkIndex_8e157 (N : Nat) (h : Hp) (x0 : Int32) (x1 : Int32) (x2 : Option Nat) (hJ : J_J3_checkIndex_8e157 N h x0 x1 x2 = some (hz, rz)) : Fw h hz := wb_J3_checkIndex_8e157_0 N h x0 x1 x2 hJ
end V_J3_checkIndex_8e157
section V_J15_checkIndex_7cf53
variable {hz : Hp} {rz : Int32}
theorem wb_J15_checkIndex_7cf53_6 (N : Nat) (h : Hp) (y0 : Int32) (hJ : B_J15_checkIndex_7cf53_6 N h y0 = some (hz, rz)) : Fw h hz := by
  unfold B_J15_checkIndex_7cf53_6 at hJ
  obtain ⟨rfl, -⟩ := rs2 hJ
  exact (Fw.rf h)
theorem wb_J15_checkIndex_7cf53_0 (N : Nat) (h : Hp) (x0 : Int32) (x1 : Int32) (hJ : B_J15_checkIndex_7cf53_0 N h x0 x1 = some (hz, rz)) : Fw h hz := by
  unfold B_J15_checkIndex_7cf53_0 at hJ
  obtain ⟨⟨h1, r2⟩, e3, hJ⟩ := ob_some hJ
  exact (wo_J3_checkIndex_8e157 N h x0 x1 none e3).tr (wb_J15_checkIndex_7cf53_6 N _ _ hJ)
theorem wo_J15_checkIndex_7cf53 (N : Nat) (h : Hp) (x0 : Int32) (x1 : Int32) (hJ : J_J15_checkIndex_7cf53 N h x0 x1 = some (hz, rz)) : Fw h hz := wb_J15_checkIndex_7cf53_0 N h x0 x1 hJ
end V_J15_checkIndex_7cf53
section V_Jx4a65c_elementData_915e3
variable {hz : Hp} {rz : Option Nat}
theorem wb_Jx4a65c_elementData_915e3_0 (N : Nat) (t0 : Nat) (h : Hp) (x1 : Int32) (hJ : B_Jx4a65c_elementData_915e3_0 N t0 h x1 = some (hz, rz)) : Fw h hz := by
  unfold B_Jx4a65c_elementData_915e3_0 at hJ
  obtain ⟨a1, ea1, -, hJ⟩ := dr_some hJ
  obtain ⟨-, hJ⟩ := ck_some hJ
  obtain ⟨rfl, -⟩ := rs2 hJ
  exact (Fw.rf h)
theorem wo_Jx4a65c_elementData_915e3 (N : Nat) (t0 : Nat) (h : Hp) (x1 : Int32) (hJ : J_Jx4a65c_elementData_915e3 N t0 h x1 = some (hz, rz)) : Fw h hz := wb_Jx4a65c_elementData_915e3_0 N t0 h x1 hJ
end V_Jx4a65c_elementData_915e3
section V_Jx4a65c_get_915e3
variable {hz : Hp} {rz : Option Nat}
theorem wb_Jx4a65c_get_915e3_14 (N : Nat) (t0 : Nat) (h : Hp) (y0 : Option Nat) (hJ : B_Jx4a65c_get_915e3_14 N t0 h y0 = some (hz, rz)) : Fw h hz := by
  unfold B_Jx4a65c_get_915e3_14 at hJ
  obtain ⟨rfl, -⟩ := rs2 hJ
  exact (Fw.rf h)
theorem wb_Jx4a65c_get_915e3_8 (N : Nat) (t0 : Nat) (h : Hp) (x1 : Int32) (y0 : Int32) (hJ : B_Jx4a65c_get_915e3_8 N t0 h x1 y0 = some (hz, rz)) : Fw h hz := by
  unfold B_Jx4a65c_get_915e3_8 at hJ
  obtain ⟨⟨h1, r2⟩, e3, hJ⟩ := ob_some hJ
  exact (wo_Jx4a65c_elementData_915e3 N t0 h x1 e3).tr (wb_Jx4a65c_get_915e3_14 N t0 _ _ hJ)
theorem wb_Jx4a65c_get_915e3_0 (N : Nat) (t0 : Nat) (h : Hp) (x1 : Int32) (hJ : B_Jx4a65c_get_915e3_0 N t0 h x1 = some (hz, rz)) : Fw h hz := by
  unfold B_Jx4a65c_get_915e3_0 at hJ
  obtain ⟨⟨h5, r6⟩, e7, hJ⟩ := ob_some hJ
  exact (wo_J15_checkIndex_7cf53 N h x1 (h.fi 202 t0) e7).tr (wb_Jx4a65c_get_915e3_8 N t0 _ _ _ hJ)
theorem wo_Jx4a65c_get_915e3 (N : Nat) (t0 : Nat) (h : Hp) (x1 : Int32) (hJ : J_Jx4a65c_get_915e3 N t0 h x1 = some (hz, rz)) : Fw h hz := wb_Jx4a65c_get_915e3_0 N t0 h x1 hJ
end V_Jx4a65c_get_915e3
section V_J8_newLength_cabcc
variable {hz : Hp} {rz : Int32}
theorem wb_J8_newLength_cabcc_21 (N : Nat) (h : Hp) (x0 : Int32) (x1 : Int32) (hJ : B_J8_newLength_cabcc_21 N h x0 x1 = some (hz, rz)) : Fw h hz := by
  unfold B_J8_newLength_cabcc_21 at hJ
  cases hJ
theorem wb_J8_newLength_cabcc_6 (N : Nat) (h : Hp) (x0 : Int32) (x1 : Int32) (y0 : Int32) (y1 : Int32) (hJ : B_J8_newLength_cabcc_6 N h x0 x1 y0 y1 = some (hz, rz)) : Fw h hz := by
  unfold B_J8_newLength_cabcc_6 at hJ
  by_cases c1 : (y0 + y1) ≤ (0 : Int32)
  · have hJ := it_pos c1 hJ
    exact wb_J8_newLength_cabcc_21 N _ _ _ hJ
  · have hJ := it_neg c1 hJ
    by_cases c2 : (2147483639 : Int32) < (y0 + y1)
    · have hJ := it_pos c2 hJ
      exact wb_J8_newLength_cabcc_21 N _ _ _ hJ
    · have hJ := it_neg c2 hJ
      obtain ⟨rfl, -⟩ := rs2 hJ
      exact (Fw.rf h)
theorem wb_J8_newLength_cabcc_0 (N : Nat) (h : Hp) (x0 : Int32) (x1 : Int32) (x2 : Int32) (hJ : B_J8_newLength_cabcc_0 N h x0 x1 x2 = some (hz, rz)) : Fw h hz := by
  unfold B_J8_newLength_cabcc_0 at hJ
  exact wb_J8_newLength_cabcc_6 N _ _ _ _ _ hJ
theorem wo_J8_newLength_cabcc (N : Nat) (h : Hp) (x0 : Int32) (x1 : Int32) (x2 : Int32) (hJ : J_J8_newLength_cabcc N h x0 x1 x2 = some (hz, rz)) : Fw h hz := wb_J8_newLength_cabcc_0 N h x0 x1 x2 hJ
end V_J8_newLength_cabcc
section V_J7_copyOf_6403c
variable {hz : Hp} {rz : Option Nat}
theorem wb_J7_copyOf_6403c_35 (N : Nat) (h : Hp) (x3 : Option Nat) (y0 : Option Nat) (y1 : Int32) (y2 : Option Nat) (y3 : Int32) (y4 : Int32) (hJ : B_J7_copyOf_6403c_35 N h x3 y0 y1 y2 y3 y4 = some (hz, rz)) : Fw h hz := by
  unfold B_J7_copyOf_6403c_35 at hJ
  obtain ⟨a1, ea1, -, hJ⟩ := dr_some hJ
  obtain ⟨a2, ea2, -, hJ⟩ := dr_some hJ
  obtain ⟨-, hJ⟩ := ck_some hJ
  obtain ⟨-, hJ⟩ := ck_some hJ
  obtain ⟨rfl, -⟩ := rs2 hJ
  exact (Fw.rf h)
theorem wb_J7_copyOf_6403c_10 (N : Nat) (h : Hp) (x0 : Option Nat) (x1 : Int32) (y0 : Option Nat) (hJ : B_J7_copyOf_6403c_10 N h x0 x1 y0 = some (hz, rz)) : Fw h hz := by
  unfold B_J7_copyOf_6403c_10 at hJ
  obtain ⟨_, n6, _, _, hJ⟩ := alO_some hJ
  exact wb_J7_copyOf_6403c_35 N _ _ _ _ _ _ _ hJ
theorem wb_J7_copyOf_6403c_0 (N : Nat) (h : Hp) (x0 : Option Nat) (x1 : Int32) (x2 : Option Nat) (hJ : B_J7_copyOf_6403c_0 N h x0 x1 x2 = some (hz, rz)) : Fw h hz := by
  unfold B_J7_copyOf_6403c_0 at hJ
  by_cases c7 : x2 = (some h.se.2)
  · have hJ := it_pos c7 hJ
    obtain ⟨-, hJ⟩ := ck_some hJ
    exact (Fw.new h _ _ _).tr (wb_J7_copyOf_6403c_10 N _ _ _ _ hJ)
  · have hJ := it_neg c7 hJ
    cases hJ
theorem wo_J7_copyOf_6403c (N : Nat) (h : Hp) (x0 : Option Nat) (x1 : Int32) (x2 : Option Nat) (hJ : J_J7_copyOf_6403c N h x0 x1 x2 = some (hz, rz)) : Fw h hz := wb_J7_copyOf_6403c_0 N h x0 x1 x2 hJ
end V_J7_copyOf_6403c
section V_J7_copyOf_1904c
variable {hz : Hp} {rz : Option Nat}
theorem wb_J7_copyOf_1904c_9 (N : Nat) (h : Hp) (y0 : Option Nat) (hJ : B_J7_copyOf_1904c_9 N h y0 = some (hz, rz)) : Fw h hz := by
  unfold B_J7_copyOf_1904c_9 at hJ
  obtain ⟨rfl, -⟩ := rs2 hJ
  exact (Fw.rf h)
theorem wb_J7_copyOf_1904c_0 (N : Nat) (h : Hp) (x0 : Option Nat) (x1 : Int32) (hJ : B_J7_copyOf_1904c_0 N h x0 x1 = some (hz, rz)) : Fw h hz := by
  unfold B_J7_copyOf_1904c_0 at hJ
  obtain ⟨a1, ea1, -, hJ⟩ := dr_some hJ
  obtain ⟨⟨h2, r3⟩, e4, hJ⟩ := ob_some hJ
  exact (wo_J7_copyOf_6403c N h (some a1) x1 (some h.se.2) e4).tr (wb_J7_copyOf_1904c_9 N _ _ hJ)
theorem wo_J7_copyOf_1904c (N : Nat) (h : Hp) (x0 : Option Nat) (x1 : Int32) (hJ : J_J7_copyOf_1904c N h x0 x1 = some (hz, rz)) : Fw h hz := wb_J7_copyOf_1904c_0 N h x0 x1 hJ
end V_J7_copyOf_1904c
section V_Jx4a65c_grow_92f84
variable {hz : Hp} {rz : Option Nat}
theorem wb_Jx4a65c_grow_92f84_40 (N : Nat) (t0 : Nat) (h : Hp) (y0 : Option Nat) (y1 : Option Nat) (hJ : B_Jx4a65c_grow_92f84_40 N t0 h y0 y1 = some (hz, rz)) : Fw h hz := by
  unfold B_Jx4a65c_grow_92f84_40 at hJ
  obtain ⟨a1, ea1, -, hJ⟩ := dr_some hJ
  obtain ⟨rfl, -⟩ := rs2 hJ
  exact (Fw.rf h)
theorem wb_Jx4a65c_grow_92f84_30 (N : Nat) (t0 : Nat) (h : Hp) (y0 : Int32) (hJ : B_Jx4a65c_grow_92f84_30 N t0 h y0 = some (hz, rz)) : Fw h hz := by
  unfold B_Jx4a65c_grow_92f84_30 at hJ
  obtain ⟨⟨h2, r3⟩, e4, hJ⟩ := ob_some hJ
  exact (wo_J7_copyOf_1904c N h (h.fr 201 t0) y0 e4).tr (wb_Jx4a65c_grow_92f84_40 N t0 _ _ _ hJ)
theorem wb_Jx4a65c_grow_92f84_20 (N : Nat) (t0 : Nat) (h : Hp) (x1 : Int32) (x2 : Int32) (hJ : B_Jx4a65c_grow_92f84_20 N t0 h x1 x2 = some (hz, rz)) : Fw h hz := by
  unfold B_Jx4a65c_grow_92f84_20 at hJ
  obtain ⟨⟨h6, r7⟩, e8, hJ⟩ := ob_some hJ
  exact (wo_J8_newLength_cabcc N h x2 (x1 - x2) (x2 >>> ((1 : Int32) &&& 31)) e8).tr (wb_Jx4a65c_grow_92f84_30 N t0 _ _ hJ)
theorem wb_Jx4a65c_grow_92f84_55 (N : Nat) (t0 : Nat) (h : Hp) (y0 : Option Nat) (y1 : Option Nat) (hJ : B_Jx4a65c_grow_92f84_55 N t0 h y0 y1 = some (hz, rz)) : Fw h hz := by
  unfold B_Jx4a65c_grow_92f84_55 at hJ
  obtain ⟨a10, ea10, -, hJ⟩ := dr_some hJ
  obtain ⟨rfl, -⟩ := rs2 hJ
  exact (Fw.rf h)
theorem wb_Jx4a65c_grow_92f84_52 (N : Nat) (t0 : Nat) (h : Hp) (y0 : Option Nat) (y1 : Int32) (hJ : B_Jx4a65c_grow_92f84_52 N t0 h y0 y1 = some (hz, rz)) : Fw h hz := by
  unfold B_Jx4a65c_grow_92f84_52 at hJ
  obtain ⟨-, hJ⟩ := ck_some hJ
  exact (Fw.new h _ _ _).tr (wb_Jx4a65c_grow_92f84_55 N t0 _ _ _ hJ)
theorem wb_Jx4a65c_grow_92f84_0 (N : Nat) (t0 : Nat) (h : Hp) (x1 : Int32) (hJ : B_Jx4a65c_grow_92f84_0 N t0 h x1 = some (hz, rz)) : Fw h hz := by
  unfold B_Jx4a65c_grow_92f84_0 at hJ
  obtain ⟨_, n14, _, _, hJ⟩ := alO_some hJ
  by_cases c15 : 0 < n14
  · have hJ := it_pos c15 hJ
    exact wb_Jx4a65c_grow_92f84_20 N t0 _ _ _ hJ
  · have hJ := it_neg c15 hJ
    by_cases c16 : (h.fr 201 t0) = (some h.se.1)
    · have hJ := it_pos c16 hJ
      exact wb_Jx4a65c_grow_92f84_52 N t0 _ _ _ hJ
    · have hJ := it_neg c16 hJ
      exact wb_Jx4a65c_grow_92f84_20 N t0 _ _ _ hJ
theorem wo_Jx4a65c_grow_92f84 (N : Nat) (t0 : Nat) (h : Hp) (x1 : Int32) (hJ : J_Jx4a65c_grow_92f84 N t0 h x1 = some (hz, rz)) : Fw h hz := wb_Jx4a65c_grow_92f84_0 N t0 h x1 hJ
end V_Jx4a65c_grow_92f84
section V_Jx4a65c_grow_d5877
variable {hz : Hp} {rz : Option Nat}
theorem wb_Jx4a65c_grow_d5877_10 (N : Nat) (t0 : Nat) (h : Hp) (y0 : Option Nat) (hJ : B_Jx4a65c_grow_d5877_10 N t0 h y0 = some (hz, rz)) : Fw h hz := by
  unfold B_Jx4a65c_grow_d5877_10 at hJ
  obtain ⟨rfl, -⟩ := rs2 hJ
  exact (Fw.rf h)
theorem wb_Jx4a65c_grow_d5877_0 (N : Nat) (t0 : Nat) (h : Hp) (hJ : B_Jx4a65c_grow_d5877_0 N t0 h = some (hz, rz)) : Fw h hz := by
  unfold B_Jx4a65c_grow_d5877_0 at hJ
  obtain ⟨⟨h1, r2⟩, e3, hJ⟩ := ob_some hJ
  exact (wo_Jx4a65c_grow_92f84 N t0 h ((h.fi 202 t0) + (1 : Int32)) e3).tr (wb_Jx4a65c_grow_d5877_10 N t0 _ _ hJ)
theorem wo_Jx4a65c_grow_d5877 (N : Nat) (t0 : Nat) (h : Hp) (hJ : J_Jx4a65c_grow_d5877 N t0 h = some (hz, rz)) : Fw h hz := wb_Jx4a65c_grow_d5877_0 N t0 h hJ
end V_Jx4a65c_grow_d5877
section V_Jx4a65c_add_72be8
variable {hz : Hp}
theorem wb_Jx4a65c_add_72be8_11 (N : Nat) (t0 : Nat) (h : Hp) (x1 : Option Nat) (x2 : Option Nat) (x3 : Int32) (hJ : B_Jx4a65c_add_72be8_11 N t0 h x1 x2 x3 = some (hz, ())) : Fw h hz := by
  unfold B_Jx4a65c_add_72be8_11 at hJ
  obtain ⟨a1, ea1, -, hJ⟩ := dr_some hJ
  obtain ⟨-, hJ⟩ := ck_some hJ
  obtain ⟨-, hJ⟩ := ck_some hJ
  obtain ⟨rfl, -⟩ := rs2 hJ
  exact (Fw.rf h)
theorem wb_Jx4a65c_add_72be8_10 (N : Nat) (t0 : Nat) (h : Hp) (x1 : Option Nat) (x3 : Int32) (y0 : Option Nat) (hJ : B_Jx4a65c_add_72be8_10 N t0 h x1 x3 y0 = some (hz, ())) : Fw h hz := by
  unfold B_Jx4a65c_add_72be8_10 at hJ
  exact wb_Jx4a65c_add_72be8_11 N t0 _ _ _ _ hJ
theorem wb_Jx4a65c_add_72be8_0 (N : Nat) (t0 : Nat) (h : Hp) (x1 : Option Nat) (x2 : Option Nat) (x3 : Int32) (hJ : B_Jx4a65c_add_72be8_0 N t0 h x1 x2 x3 = some (hz, ())) : Fw h hz := by
  unfold B_Jx4a65c_add_72be8_0 at hJ
  obtain ⟨_, n5, _, _, hJ⟩ := alO_some hJ
  by_cases c6 : x3 = n5
  · have hJ := it_pos c6 hJ
    obtain ⟨⟨h7, r8⟩, e9, hJ⟩ := ob_some hJ
    exact (wo_Jx4a65c_grow_d5877 N t0 h e9).tr (wb_Jx4a65c_add_72be8_10 N t0 _ _ _ _ hJ)
  · have hJ := it_neg c6 hJ
    exact wb_Jx4a65c_add_72be8_11 N t0 _ _ _ _ hJ
theorem wo_Jx4a65c_add_72be8 (N : Nat) (t0 : Nat) (h : Hp) (x1 : Option Nat) (x2 : Option Nat) (x3 : Int32) (hJ : J_Jx4a65c_add_72be8 N t0 h x1 x2 x3 = some (hz, ())) : Fw h hz := wb_Jx4a65c_add_72be8_0 N t0 h x1 x2 x3 hJ
end V_Jx4a65c_add_72be8
section V_Jx4a65c_add_9ea2d
variable {hz : Hp} {rz : Int32}
theorem wb_Jx4a65c_add_9ea2d_23 (N : Nat) (t0 : Nat) (h : Hp) (hJ : B_Jx4a65c_add_9ea2d_23 N t0 h = some (hz, rz)) : Fw h hz := by
  unfold B_Jx4a65c_add_9ea2d_23 at hJ
  obtain ⟨rfl, -⟩ := rs2 hJ
  exact (Fw.rf h)
theorem wb_Jx4a65c_add_9ea2d_0 (N : Nat) (t0 : Nat) (h : Hp) (x1 : Option Nat) (hJ : B_Jx4a65c_add_9ea2d_0 N t0 h x1 = some (hz, rz)) : Fw h hz := by
  unfold B_Jx4a65c_add_9ea2d_0 at hJ
  obtain ⟨⟨h1, r2⟩, e3, hJ⟩ := ob_some hJ
  exact (Fw.tr (show Fw h (h.sfi 200 t0 ((h.fi 200 t0) + (1 : Int32))) from (Fw.rf h)) ((wo_Jx4a65c_add_72be8 N t0 (h.sfi 200 t0 ((h.fi 200 t0) + (1 : Int32))) x1 ((h.sfi 200 t0 ((h.fi 200 t0) + (1 : Int32))).fr 201 t0) ((h.sfi 200 t0 ((h.fi 200 t0) + (1 : Int32))).fi 202 t0) e3).tr (wb_Jx4a65c_add_9ea2d_23 N t0 _ hJ)))
theorem wo_Jx4a65c_add_9ea2d (N : Nat) (t0 : Nat) (h : Hp) (x1 : Option Nat) (hJ : J_Jx4a65c_add_9ea2d N t0 h x1 = some (hz, rz)) : Fw h hz := wb_Jx4a65c_add_9ea2d_0 N t0 h x1 hJ
end V_Jx4a65c_add_9ea2d
section V_Jx4a65c_rangeCheckForAdd_d00df
variable {hz : Hp}
theorem wb_Jx4a65c_rangeCheckForAdd_d00df_12 (N : Nat) (t0 : Nat) (h : Hp) (hJ : B_Jx4a65c_rangeCheckForAdd_d00df_12 N t0 h = some (hz, ())) : Fw h hz := by
  unfold B_Jx4a65c_rangeCheckForAdd_d00df_12 at hJ
  cases hJ
theorem wb_Jx4a65c_rangeCheckForAdd_d00df_0 (N : Nat) (t0 : Nat) (h : Hp) (x1 : Int32) (hJ : B_Jx4a65c_rangeCheckForAdd_d00df_0 N t0 h x1 = some (hz, ())) : Fw h hz := by
  unfold B_Jx4a65c_rangeCheckForAdd_d00df_0 at hJ
  by_cases c1 : (h.fi 202 t0) < x1
  · have hJ := it_pos c1 hJ
    exact wb_Jx4a65c_rangeCheckForAdd_d00df_12 N t0 _ hJ
  · have hJ := it_neg c1 hJ
    by_cases c2 : 0 ≤ x1
    · have hJ := it_pos c2 hJ
      obtain ⟨rfl, -⟩ := rs2 hJ
      exact (Fw.rf h)
    · have hJ := it_neg c2 hJ
      exact wb_Jx4a65c_rangeCheckForAdd_d00df_12 N t0 _ hJ
theorem wo_Jx4a65c_rangeCheckForAdd_d00df (N : Nat) (t0 : Nat) (h : Hp) (x1 : Int32) (hJ : J_Jx4a65c_rangeCheckForAdd_d00df N t0 h x1 = some (hz, ())) : Fw h hz := wb_Jx4a65c_rangeCheckForAdd_d00df_0 N t0 h x1 hJ
end V_Jx4a65c_rangeCheckForAdd_d00df
section V_Jx4a65c_add_7a177
variable {hz : Hp}
theorem wb_Jx4a65c_add_7a177_38 (N : Nat) (t0 : Nat) (h : Hp) (x1 : Int32) (x2 : Option Nat) (x3 : Int32) (x4 : Option Nat) (hJ : B_Jx4a65c_add_7a177_38 N t0 h x1 x2 x3 x4 = some (hz, ())) : Fw h hz := by
  unfold B_Jx4a65c_add_7a177_38 at hJ
  obtain ⟨a1, ea1, -, hJ⟩ := dr_some hJ
  obtain ⟨-, hJ⟩ := ck_some hJ
  obtain ⟨-, hJ⟩ := ck_some hJ
  obtain ⟨-, hJ⟩ := ck_some hJ
  obtain ⟨-, hJ⟩ := ck_some hJ
  obtain ⟨rfl, -⟩ := rs2 hJ
  exact (Fw.rf h)
theorem wb_Jx4a65c_add_7a177_36 (N : Nat) (t0 : Nat) (h : Hp) (x1 : Int32) (x2 : Option Nat) (x3 : Int32) (y0 : Option Nat) (hJ : B_Jx4a65c_add_7a177_36 N t0 h x1 x2 x3 y0 = some (hz, ())) : Fw h hz := by
  unfold B_Jx4a65c_add_7a177_36 at hJ
  exact wb_Jx4a65c_add_7a177_38 N t0 _ _ _ _ _ hJ
theorem wb_Jx4a65c_add_7a177_5 (N : Nat) (t0 : Nat) (h : Hp) (x1 : Int32) (x2 : Option Nat) (hJ : B_Jx4a65c_add_7a177_5 N t0 h x1 x2 = some (hz, ())) : Fw h hz := by
  unfold B_Jx4a65c_add_7a177_5 at hJ
  obtain ⟨_, n7, _, _, hJ⟩ := alO_some hJ
  by_cases c8 : ((h.sfi 200 t0 ((h.fi 200 t0) + (1 : Int32))).fi 202 t0) = n7
  · have hJ := it_pos c8 hJ
    obtain ⟨⟨h9, r10⟩, e11, hJ⟩ := ob_some hJ
    exact (Fw.tr (show Fw h (h.sfi 200 t0 ((h.fi 200 t0) + (1 : Int32))) from (Fw.rf h)) ((wo_Jx4a65c_grow_d5877 N t0 (h.sfi 200 t0 ((h.fi 200 t0) + (1 : Int32))) e11).tr (wb_Jx4a65c_add_7a177_36 N t0 _ _ _ _ _ hJ)))
  · have hJ := it_neg c8 hJ
    exact (Fw.tr (show Fw h (h.sfi 200 t0 ((h.fi 200 t0) + (1 : Int32))) from (Fw.rf h)) (wb_Jx4a65c_add_7a177_38 N t0 _ _ _ _ _ hJ))
theorem wb_Jx4a65c_add_7a177_0 (N : Nat) (t0 : Nat) (h : Hp) (x1 : Int32) (x2 : Option Nat) (hJ : B_Jx4a65c_add_7a177_0 N t0 h x1 x2 = some (hz, ())) : Fw h hz := by
  unfold B_Jx4a65c_add_7a177_0 at hJ
  obtain ⟨⟨h13, r14⟩, e15, hJ⟩ := ob_some hJ
  exact (wo_Jx4a65c_rangeCheckForAdd_d00df N t0 h x1 e15).tr (wb_Jx4a65c_add_7a177_5 N t0 _ _ _ hJ)
theorem wo_Jx4a65c_add_7a177 (N : Nat) (t0 : Nat) (h : Hp) (x1 : Int32) (x2 : Option Nat) (hJ : J_Jx4a65c_add_7a177 N t0 h x1 x2 = some (hz, ())) : Fw h hz := wb_Jx4a65c_add_7a177_0 N t0 h x1 x2 hJ
end V_Jx4a65c_add_7a177
section V_Jx4a65c_fastRemove_b59b0
variable {hz : Hp}
theorem wb_Jx4a65c_fastRemove_b59b0_34 (N : Nat) (t0 : Nat) (h : Hp) (x1 : Option Nat) (x3 : Int32) (hJ : B_Jx4a65c_fastRemove_b59b0_34 N t0 h x1 x3 = some (hz, ())) : Fw h hz := by
  unfold B_Jx4a65c_fastRemove_b59b0_34 at hJ
  obtain ⟨a1, ea1, -, hJ⟩ := dr_some hJ
  obtain ⟨-, hJ⟩ := ck_some hJ
  obtain ⟨-, hJ⟩ := ck_some hJ
  obtain ⟨rfl, -⟩ := rs2 hJ
  exact (Fw.rf h)
theorem wb_Jx4a65c_fastRemove_b59b0_0 (N : Nat) (t0 : Nat) (h : Hp) (x1 : Option Nat) (x2 : Int32) (hJ : B_Jx4a65c_fastRemove_b59b0_0 N t0 h x1 x2 = some (hz, ())) : Fw h hz := by
  unfold B_Jx4a65c_fastRemove_b59b0_0 at hJ
  by_cases c4 : (((h.sfi 200 t0 ((h.fi 200 t0) + (1 : Int32))).fi 202 t0) - (1 : Int32)) ≤ x2
  · have hJ := it_pos c4 hJ
    exact (Fw.tr (show Fw h (h.sfi 200 t0 ((h.fi 200 t0) + (1 : Int32))) from (Fw.rf h)) (wb_Jx4a65c_fastRemove_b59b0_34 N t0 _ _ _ hJ))
  · have hJ := it_neg c4 hJ
    obtain ⟨a5, ea5, -, hJ⟩ := dr_some hJ
    obtain ⟨-, hJ⟩ := ck_some hJ
    obtain ⟨-, hJ⟩ := ck_some hJ
    exact (Fw.tr (show Fw h ((h.sfi 200 t0 ((h.fi 200 t0) + (1 : Int32))).tar a5 (va_cpy ((h.sfi 200 t0 ((h.fi 200 t0) + (1 : Int32))).ar a5) ((h.sfi 200 t0 ((h.fi 200 t0) + (1 : Int32))).ar a5) (x2 + (1 : Int32)).toNatClampNeg x2.toNatClampNeg ((((h.sfi 200 t0 ((h.fi 200 t0) + (1 : Int32))).fi 202 t0) - (1 : Int32)) - x2).toNatClampNeg)) from (Fw.rf h)) (wb_Jx4a65c_fastRemove_b59b0_34 N t0 _ _ _ hJ))
theorem wo_Jx4a65c_fastRemove_b59b0 (N : Nat) (t0 : Nat) (h : Hp) (x1 : Option Nat) (x2 : Int32) (hJ : J_Jx4a65c_fastRemove_b59b0 N t0 h x1 x2 = some (hz, ())) : Fw h hz := wb_Jx4a65c_fastRemove_b59b0_0 N t0 h x1 x2 hJ
end V_Jx4a65c_fastRemove_b59b0
section V_Jx4a65c_remove_915e3
variable {hz : Hp} {rz : Option Nat}
theorem wb_Jx4a65c_remove_915e3_24 (N : Nat) (t0 : Nat) (h : Hp) (x3 : Option Nat) (hJ : B_Jx4a65c_remove_915e3_24 N t0 h x3 = some (hz, rz)) : Fw h hz := by
  unfold B_Jx4a65c_remove_915e3_24 at hJ
  obtain ⟨rfl, -⟩ := rs2 hJ
  exact (Fw.rf h)
theorem wb_Jx4a65c_remove_915e3_8 (N : Nat) (t0 : Nat) (h : Hp) (x1 : Int32) (y0 : Int32) (hJ : B_Jx4a65c_remove_915e3_8 N t0 h x1 y0 = some (hz, rz)) : Fw h hz := by
  unfold B_Jx4a65c_remove_915e3_8 at hJ
  obtain ⟨a1, ea1, -, hJ⟩ := dr_some hJ
  obtain ⟨-, hJ⟩ := ck_some hJ
  obtain ⟨⟨h3, r4⟩, e5, hJ⟩ := ob_some hJ
  exact (wo_Jx4a65c_fastRemove_b59b0 N t0 h (some a1) x1 e5).tr (wb_Jx4a65c_remove_915e3_24 N t0 _ _ hJ)
theorem wb_Jx4a65c_remove_915e3_0 (N : Nat) (t0 : Nat) (h : Hp) (x1 : Int32) (hJ : B_Jx4a65c_remove_915e3_0 N t0 h x1 = some (hz, rz)) : Fw h hz := by
  unfold B_Jx4a65c_remove_915e3_0 at hJ
  obtain ⟨⟨h7, r8⟩, e9, hJ⟩ := ob_some hJ
  exact (wo_J15_checkIndex_7cf53 N h x1 (h.fi 202 t0) e9).tr (wb_Jx4a65c_remove_915e3_8 N t0 _ _ _ hJ)
theorem wo_Jx4a65c_remove_915e3 (N : Nat) (t0 : Nat) (h : Hp) (x1 : Int32) (hJ : J_Jx4a65c_remove_915e3 N t0 h x1 = some (hz, rz)) : Fw h hz := wb_Jx4a65c_remove_915e3_0 N t0 h x1 hJ
end V_Jx4a65c_remove_915e3
section V_Jx4a65c_clear_da8c8
variable {hz : Hp}
theorem wb_Jx4a65c_clear_da8c8_27 (N : Nat) (k27 : Hp → (Option Nat) → Int32 → Int32 → Option (Hp × Unit)) (t0 : Nat) (h : Hp) (x1 : Option Nat) (x2 : Int32) (x3 : Int32) (m27 : ∀ (h : Hp) (x1 : Option Nat) (x2 : Int32) (x3 : Int32), k27 h x1 x2 x3 = some (hz, ()) → Fw h hz) (hJ : B_Jx4a65c_clear_da8c8_27 N k27 t0 h x1 x2 x3 = some (hz, ())) : Fw h hz := by
  unfold B_Jx4a65c_clear_da8c8_27 at hJ
  by_cases c1 : x2 ≤ x3
  · have hJ := it_pos c1 hJ
    obtain ⟨rfl, -⟩ := rs2 hJ
    exact (Fw.rf h)
  · have hJ := it_neg c1 hJ
    obtain ⟨a2, ea2, -, hJ⟩ := dr_some hJ
    obtain ⟨-, hJ⟩ := ck_some hJ
    obtain ⟨-, hJ⟩ := ck_some hJ
    exact (Fw.tr (show Fw h (h.sar a2 x3.toNatClampNeg none) from (Fw.rf h)) (m27 _ _ _ _ hJ))
theorem wl_Jx4a65c_clear_da8c8_27 (N : Nat) (t0 : Nat) : ∀ (n : Nat) (h : Hp) (x1 : Option Nat) (x2 : Int32) (x3 : Int32), L_Jx4a65c_clear_da8c8_27 N t0 n h x1 x2 x3 = some (hz, ()) → Fw h hz := by
  intro n
  induction n with
  | zero => intro h x1 x2 x3 hJ; cases hJ
  | succ n ih => intro h x1 x2 x3 hJ; exact wb_Jx4a65c_clear_da8c8_27 N (L_Jx4a65c_clear_da8c8_27 N t0 n) t0 h x1 x2 x3 ih hJ
theorem wb_Jx4a65c_clear_da8c8_0 (N : Nat) (t0 : Nat) (h : Hp) (hJ : B_Jx4a65c_clear_da8c8_0 N t0 h = some (hz, ())) : Fw h hz := by
  unfold B_Jx4a65c_clear_da8c8_0 at hJ
  exact (Fw.tr (show Fw h ((h.sfi 200 t0 ((h.fi 200 t0) + (1 : Int32))).sfi 202 t0 (0 : Int32)) from (Fw.rf h)) (wl_Jx4a65c_clear_da8c8_27 N t0 N _ _ _ _ hJ))
theorem wo_Jx4a65c_clear_da8c8 (N : Nat) (t0 : Nat) (h : Hp) (hJ : J_Jx4a65c_clear_da8c8 N t0 h = some (hz, ())) : Fw h hz := wb_Jx4a65c_clear_da8c8_0 N t0 h hJ
end V_Jx4a65c_clear_da8c8
section V_J7_copyOf_59c91
variable {hz : Hp} {rz : Option Nat}
theorem wb_J7_copyOf_59c91_28 (N : Nat) (h : Hp) (x2 : Option Nat) (y0 : Option Nat) (y1 : Int32) (y2 : Option Nat) (y3 : Int32) (y4 : Int32) (hJ : B_J7_copyOf_59c91_28 N h x2 y0 y1 y2 y3 y4 = some (hz, rz)) : Fw h hz := by
  unfold B_J7_copyOf_59c91_28 at hJ
  obtain ⟨a1, ea1, -, hJ⟩ := dr_some hJ
  obtain ⟨a2, ea2, -, hJ⟩ := dr_some hJ
  obtain ⟨-, hJ⟩ := ck_some hJ
  obtain ⟨rfl, -⟩ := rs2 hJ
  exact (Fw.rf h)
theorem wb_J7_copyOf_59c91_17 (N : Nat) (h : Hp) (x0 : Option Nat) (x1 : Int32) (y0 : Option Nat) (hJ : B_J7_copyOf_59c91_17 N h x0 x1 y0 = some (hz, rz)) : Fw h hz := by
  unfold B_J7_copyOf_59c91_17 at hJ
  obtain ⟨a4, ea4, -, hJ⟩ := dr_some hJ
  exact wb_J7_copyOf_59c91_28 N _ _ _ _ _ _ _ hJ
theorem wb_J7_copyOf_59c91_0 (N : Nat) (h : Hp) (x0 : Option Nat) (x1 : Int32) (hJ : B_J7_copyOf_59c91_0 N h x0 x1 = some (hz, rz)) : Fw h hz := by
  unfold B_J7_copyOf_59c91_0 at hJ
  obtain ⟨a5, ea5, -, hJ⟩ := dr_some hJ
  by_cases c6 : x1 = (nI (h.al a5))
  · have hJ := it_pos c6 hJ
    cases hJ
  · have hJ := it_neg c6 hJ
    obtain ⟨-, hJ⟩ := ck_some hJ
    exact (Fw.new h _ _ _).tr (wb_J7_copyOf_59c91_17 N _ _ _ _ hJ)
theorem wo_J7_copyOf_59c91 (N : Nat) (h : Hp) (x0 : Option Nat) (x1 : Int32) (hJ : J_J7_copyOf_59c91 N h x0 x1 = some (hz, rz)) : Fw h hz := wb_J7_copyOf_59c91_0 N h x0 x1 hJ
end V_J7_copyOf_59c91
