section V_X0_init
variable {hz : Hp}
theorem wb_X0_init_71 (N : Nat) (t0 : Nat) (h : Hp) (y0 : Option Nat) (y1 : Option Nat) (hJ : B_X0_init_71 N t0 h y0 y1 = some (hz, ())) : Fw h hz := by
  unfold B_X0_init_71 at hJ
  obtain ⟨a1, ea1, -, hJ⟩ := dr_some hJ
  obtain ⟨rfl, -⟩ := rs2 hJ
  exact (Fw.rf h)
theorem wb_X0_init_69 (N : Nat) (t0 : Nat) (h : Hp) (y0 : Option Nat) (y1 : Int32) (hJ : B_X0_init_69 N t0 h y0 y1 = some (hz, ())) : Fw h hz := by
  unfold B_X0_init_69 at hJ
  obtain ⟨-, hJ⟩ := ck_some hJ
  exact (Fw.new h _ _ _).tr (wb_X0_init_71 N t0 _ _ _ hJ)
theorem wb_X0_init_56 (N : Nat) (t0 : Nat) (h : Hp) (x1 : Int32) (y0 : Option Nat) (y1 : Option Nat) (hJ : B_X0_init_56 N t0 h x1 y0 y1 = some (hz, ())) : Fw h hz := by
  unfold B_X0_init_56 at hJ
  obtain ⟨a4, ea4, -, hJ⟩ := dr_some hJ
  by_cases c5 : x1 < 0
  · have hJ := it_pos c5 hJ
    exact (Fw.tr (show Fw h (h.sfr 308 a4 y1) from (Fw.rf h)) (wb_X0_init_69 N t0 _ _ _ hJ))
  · have hJ := it_neg c5 hJ
    exact (Fw.tr (show Fw h (h.sfr 308 a4 y1) from (Fw.rf h)) (wb_X0_init_69 N t0 _ _ _ hJ))
theorem wb_X0_init_54 (N : Nat) (t0 : Nat) (h : Hp) (x1 : Int32) (y0 : Option Nat) (y1 : Int32) (hJ : B_X0_init_54 N t0 h x1 y0 y1 = some (hz, ())) : Fw h hz := by
  unfold B_X0_init_54 at hJ
  obtain ⟨-, hJ⟩ := ck_some hJ
  exact (Fw.new h _ _ _).tr (wb_X0_init_56 N t0 _ _ _ _ hJ)
theorem wb_X0_init_44 (N : Nat) (t0 : Nat) (h : Hp) (x1 : Int32) (hJ : B_X0_init_44 N t0 h x1 = some (hz, ())) : Fw h hz := by
  unfold B_X0_init_44 at hJ
  by_cases c8 : x1 < 0
  · have hJ := it_pos c8 hJ
    exact wb_X0_init_54 N t0 _ _ _ _ hJ
  · have hJ := it_neg c8 hJ
    exact wb_X0_init_54 N t0 _ _ _ _ hJ
theorem wb_X0_init_24 (N : Nat) (t0 : Nat) (h : Hp) (x1 : Int32) (hJ : B_X0_init_24 N t0 h x1 = some (hz, ())) : Fw h hz := by
  unfold B_X0_init_24 at hJ
  exact (Fw.tr (show Fw h ((((h.sfi 304 t0 (0 : Int32)).sfi 305 t0 (0 : Int32)).sfi 306 t0 (0 : Int32)).sfi 307 t0 (0 : Int32)) from (Fw.rf h)) (wb_X0_init_44 N t0 _ _ hJ))
theorem wb_X0_init_0 (N : Nat) (t0 : Nat) (h : Hp) (x1 : Int32) (hJ : B_X0_init_0 N t0 h x1 = some (hz, ())) : Fw h hz := by
  unfold B_X0_init_0 at hJ
  exact (Fw.tr (show Fw h ((((h.sfi 300 t0 (0 : Int32)).sfi 301 t0 (0 : Int32)).sfi 302 t0 (0 : Int32)).sfl 303 t0 (0 : Int64)) from (Fw.rf h)) (wb_X0_init_24 N t0 _ _ hJ))
theorem wo_X0_init (N : Nat) (t0 : Nat) (h : Hp) (x1 : Int32) (hJ : J_X0_init N t0 h x1 = some (hz, ())) : Fw h hz := wb_X0_init_0 N t0 h x1 hJ
end V_X0_init
section V_X0_clear
variable {hz : Hp}
theorem wb_X0_clear_20 (N : Nat) (t0 : Nat) (h : Hp) (hJ : B_X0_clear_20 N t0 h = some (hz, ())) : Fw h hz := by
  unfold B_X0_clear_20 at hJ
  obtain ⟨rfl, -⟩ := rs2 hJ
  exact (Fw.rf h)
theorem wb_X0_clear_0 (N : Nat) (t0 : Nat) (h : Hp) (hJ : B_X0_clear_0 N t0 h = some (hz, ())) : Fw h hz := by
  unfold B_X0_clear_0 at hJ
  exact (Fw.tr (show Fw h ((((h.sfi 300 t0 (0 : Int32)).sfi 301 t0 (0 : Int32)).sfi 302 t0 (0 : Int32)).sfl 303 t0 (0 : Int64)) from (Fw.rf h)) (wb_X0_clear_20 N t0 _ hJ))
theorem wo_X0_clear (N : Nat) (t0 : Nat) (h : Hp) (hJ : J_X0_clear N t0 h = some (hz, ())) : Fw h hz := wb_X0_clear_0 N t0 h hJ
end V_X0_clear
section V_X0_find
variable {hz : Hp}
theorem wb_X0_find_20 (N : Nat) (t0 : Nat) (h : Hp) (hJ : B_X0_find_20 N t0 h = some (hz, ())) : Fw h hz := by
  unfold B_X0_find_20 at hJ
  obtain ⟨rfl, -⟩ := rs2 hJ
  exact (Fw.rf h)
theorem wb_X0_find_0 (N : Nat) (t0 : Nat) (h : Hp) (x1 : Int32) (x2 : Int64) (hJ : B_X0_find_0 N t0 h x1 x2 = some (hz, ())) : Fw h hz := by
  unfold B_X0_find_0 at hJ
  exact (Fw.tr (show Fw h ((((h.sfi 300 t0 (1 : Int32)).sfi 301 t0 (1 : Int32)).sfi 302 t0 x1).sfl 303 t0 x2) from (Fw.rf h)) (wb_X0_find_20 N t0 _ hJ))
theorem wo_X0_find (N : Nat) (t0 : Nat) (h : Hp) (x1 : Int32) (x2 : Int64) (hJ : J_X0_find N t0 h x1 x2 = some (hz, ())) : Fw h hz := wb_X0_find_0 N t0 h x1 x2 hJ
end V_X0_find
section V_X0_lookAt
variable {hz : Hp}
theorem wb_X0_lookAt_0 (N : Nat) (t0 : Nat) (h : Hp) (x1 : Int32) (x2 : Int32) (hJ : B_X0_lookAt_0 N t0 h x1 x2 = some (hz, ())) : Fw h hz := by
  unfold B_X0_lookAt_0 at hJ
  obtain ⟨rfl, -⟩ := rs2 hJ
  exact (Fw.rf h)
theorem wo_X0_lookAt (N : Nat) (t0 : Nat) (h : Hp) (x1 : Int32) (x2 : Int32) (hJ : J_X0_lookAt N t0 h x1 x2 = some (hz, ())) : Fw h hz := wb_X0_lookAt_0 N t0 h x1 x2 hJ
end V_X0_lookAt
section V_X0_addRow
variable {hz : Hp}
theorem wb_X0_addRow_54 (N : Nat) (t0 : Nat) (h : Hp) (hJ : B_X0_addRow_54 N t0 h = some (hz, ())) : Fw h hz := by
  unfold B_X0_addRow_54 at hJ
  obtain ⟨rfl, -⟩ := rs2 hJ
  exact (Fw.rf h)
theorem wb_X0_addRow_0 (N : Nat) (t0 : Nat) (h : Hp) (x1 : Int32) (x2 : Int64) (hJ : B_X0_addRow_0 N t0 h x1 x2 = some (hz, ())) : Fw h hz := by
  unfold B_X0_addRow_0 at hJ
  obtain ⟨a1, ea1, -, hJ⟩ := dr_some hJ
  by_cases c2 : (nI (h.al a1)) ≤ (h.fi 307 t0)
  · have hJ := it_pos c2 hJ
    exact wb_X0_addRow_54 N t0 _ hJ
  · have hJ := it_neg c2 hJ
    obtain ⟨a3, ea3, -, hJ⟩ := dr_some hJ
    by_cases c4 : (nI (h.al a3)) ≤ (h.fi 307 t0)
    · have hJ := it_pos c4 hJ
      exact wb_X0_addRow_54 N t0 _ hJ
    · have hJ := it_neg c4 hJ
      obtain ⟨a5, ea5, -, hJ⟩ := dr_some hJ
      obtain ⟨-, hJ⟩ := ck_some hJ
      obtain ⟨a7, ea7, -, hJ⟩ := dr_some hJ
      obtain ⟨-, hJ⟩ := ck_some hJ
      exact (Fw.tr (show Fw h (((h.sai a5 (h.fi 307 t0).toNatClampNeg x1).saw a7 ((h.sai a5 (h.fi 307 t0).toNatClampNeg x1).fi 307 t0).toNatClampNeg x2).sfi 307 t0 ((((h.sai a5 (h.fi 307 t0).toNatClampNeg x1).saw a7 ((h.sai a5 (h.fi 307 t0).toNatClampNeg x1).fi 307 t0).toNatClampNeg x2).fi 307 t0) + (1 : Int32))) from (Fw.rf h)) (wb_X0_addRow_54 N t0 _ hJ))
theorem wo_X0_addRow (N : Nat) (t0 : Nat) (h : Hp) (x1 : Int32) (x2 : Int64) (hJ : J_X0_addRow N t0 h x1 x2 = some (hz, ())) : Fw h hz := wb_X0_addRow_0 N t0 h x1 x2 hJ
end V_X0_addRow
section V_X0_hasRow
variable {hz : Hp} {rz : Int32}
theorem wb_X0_hasRow_35 (N : Nat) (t0 : Nat) (h : Hp) (y0 : Int32) (hJ : B_X0_hasRow_35 N t0 h y0 = some (hz, rz)) : Fw h hz := by
  unfold B_X0_hasRow_35 at hJ
  obtain ⟨-, hJ⟩ := ck_some hJ
  obtain ⟨rfl, -⟩ := rs2 hJ
  exact (Fw.rf h)
theorem wb_X0_hasRow_34 (N : Nat) (t0 : Nat) (h : Hp) (hJ : B_X0_hasRow_34 N t0 h = some (hz, rz)) : Fw h hz := by
  unfold B_X0_hasRow_34 at hJ
  exact wb_X0_hasRow_35 N t0 _ _ hJ
theorem wb_X0_hasRow_0 (N : Nat) (t0 : Nat) (h : Hp) (x1 : Int32) (hJ : B_X0_hasRow_0 N t0 h x1 = some (hz, rz)) : Fw h hz := by
  unfold B_X0_hasRow_0 at hJ
  by_cases c2 : x1 < 0
  · have hJ := it_pos c2 hJ
    exact wb_X0_hasRow_34 N t0 _ hJ
  · have hJ := it_neg c2 hJ
    by_cases c3 : (h.fi 307 t0) ≤ x1
    · have hJ := it_pos c3 hJ
      exact wb_X0_hasRow_34 N t0 _ hJ
    · have hJ := it_neg c3 hJ
      obtain ⟨a4, ea4, -, hJ⟩ := dr_some hJ
      by_cases c5 : (nI (h.al a4)) ≤ x1
      · have hJ := it_pos c5 hJ
        exact wb_X0_hasRow_34 N t0 _ hJ
      · have hJ := it_neg c5 hJ
        obtain ⟨a6, ea6, -, hJ⟩ := dr_some hJ
        by_cases c7 : (nI (h.al a6)) ≤ x1
        · have hJ := it_pos c7 hJ
          exact wb_X0_hasRow_34 N t0 _ hJ
        · have hJ := it_neg c7 hJ
          exact wb_X0_hasRow_35 N t0 _ _ hJ
theorem wo_X0_hasRow (N : Nat) (t0 : Nat) (h : Hp) (x1 : Int32) (hJ : J_X0_hasRow N t0 h x1 = some (hz, rz)) : Fw h hz := wb_X0_hasRow_0 N t0 h x1 hJ
end V_X0_hasRow
section V_X0_tellsAs
variable {hz : Hp} {rz : Int32}
theorem wb_X0_tellsAs_33 (N : Nat) (t0 : Nat) (h : Hp) (hJ : B_X0_tellsAs_33 N t0 h = some (hz, rz)) : Fw h hz := by
  unfold B_X0_tellsAs_33 at hJ
  obtain ⟨rfl, -⟩ := rs2 hJ
  exact (Fw.rf h)
theorem wb_X0_tellsAs_58 (N : Nat) (t0 : Nat) (h : Hp) (hJ : B_X0_tellsAs_58 N t0 h = some (hz, rz)) : Fw h hz := by
  unfold B_X0_tellsAs_58 at hJ
  obtain ⟨rfl, -⟩ := rs2 hJ
  exact (Fw.rf h)
theorem wb_X0_tellsAs_117 (N : Nat) (t0 : Nat) (h : Hp) (hJ : B_X0_tellsAs_117 N t0 h = some (hz, rz)) : Fw h hz := by
  unfold B_X0_tellsAs_117 at hJ
  obtain ⟨rfl, -⟩ := rs2 hJ
  exact (Fw.rf h)
theorem wb_X0_tellsAs_125 (N : Nat) (t0 : Nat) (h : Hp) (hJ : B_X0_tellsAs_125 N t0 h = some (hz, rz)) : Fw h hz := by
  unfold B_X0_tellsAs_125 at hJ
  obtain ⟨rfl, -⟩ := rs2 hJ
  exact (Fw.rf h)
theorem wb_X0_tellsAs_83 (N : Nat) (k62 : Hp → (Option Nat) → Int32 → Option (Hp × Int32)) (t0 : Nat) (h : Hp) (x1 : Option Nat) (x2 : Int32) (y0 : Int32) (m62 : ∀ (h : Hp) (x1 : Option Nat) (x2 : Int32), k62 h x1 x2 = some (hz, rz) → Fw h hz) (hJ : B_X0_tellsAs_83 N k62 t0 h x1 x2 y0 = some (hz, rz)) : Fw h hz := by
  unfold B_X0_tellsAs_83 at hJ
  by_cases c1 : y0 = 0
  · have hJ := it_pos c1 hJ
    exact wb_X0_tellsAs_125 N t0 _ hJ
  · have hJ := it_neg c1 hJ
    obtain ⟨a2, ea2, -, hJ⟩ := dr_some hJ
    obtain ⟨-, hJ⟩ := ck_some hJ
    obtain ⟨a4, ea4, -, hJ⟩ := dr_some hJ
    obtain ⟨a5, ea5, -, hJ⟩ := dr_some hJ
    obtain ⟨-, hJ⟩ := ck_some hJ
    by_cases c7 : (h.ai a2 x2.toNatClampNeg) = (h.ai a5 x2.toNatClampNeg)
    · have hJ := it_pos c7 hJ
      obtain ⟨a8, ea8, -, hJ⟩ := dr_some hJ
      obtain ⟨-, hJ⟩ := ck_some hJ
      obtain ⟨a10, ea10, -, hJ⟩ := dr_some hJ
      obtain ⟨-, hJ⟩ := ck_some hJ
      by_cases c12 : (lg_cmp (h.aw a8 x2.toNatClampNeg) (h.aw a10 x2.toNatClampNeg)) = 0
      · have hJ := it_pos c12 hJ
        exact m62 _ _ _ hJ
      · have hJ := it_neg c12 hJ
        exact wb_X0_tellsAs_117 N t0 _ hJ
    · have hJ := it_neg c7 hJ
      exact wb_X0_tellsAs_117 N t0 _ hJ
theorem wb_X0_tellsAs_75 (N : Nat) (k62 : Hp → (Option Nat) → Int32 → Option (Hp × Int32)) (t0 : Nat) (h : Hp) (x1 : Option Nat) (x2 : Int32) (y0 : Int32) (m62 : ∀ (h : Hp) (x1 : Option Nat) (x2 : Int32), k62 h x1 x2 = some (hz, rz) → Fw h hz) (hJ : B_X0_tellsAs_75 N k62 t0 h x1 x2 y0 = some (hz, rz)) : Fw h hz := by
  unfold B_X0_tellsAs_75 at hJ
  by_cases c13 : y0 = 0
  · have hJ := it_pos c13 hJ
    exact wb_X0_tellsAs_125 N t0 _ hJ
  · have hJ := it_neg c13 hJ
    obtain ⟨a14, ea14, -, hJ⟩ := dr_some hJ
    obtain ⟨⟨h15, r16⟩, e17, hJ⟩ := ob_some hJ
    exact (wo_X0_hasRow N a14 h x2 e17).tr (wb_X0_tellsAs_83 N k62 t0 _ _ _ _ m62 hJ)
theorem wb_X0_tellsAs_62 (N : Nat) (k62 : Hp → (Option Nat) → Int32 → Option (Hp × Int32)) (t0 : Nat) (h : Hp) (x1 : Option Nat) (x2 : Int32) (m62 : ∀ (h : Hp) (x1 : Option Nat) (x2 : Int32), k62 h x1 x2 = some (hz, rz) → Fw h hz) (hJ : B_X0_tellsAs_62 N k62 t0 h x1 x2 = some (hz, rz)) : Fw h hz := by
  unfold B_X0_tellsAs_62 at hJ
  by_cases c19 : (h.fi 307 t0) ≤ x2
  · have hJ := it_pos c19 hJ
    exact wb_X0_tellsAs_125 N t0 _ hJ
  · have hJ := it_neg c19 hJ
    obtain ⟨⟨h20, r21⟩, e22, hJ⟩ := ob_some hJ
    exact (wo_X0_hasRow N t0 h x2 e22).tr (wb_X0_tellsAs_75 N k62 t0 _ _ _ _ m62 hJ)
theorem wl_X0_tellsAs_62 (N : Nat) (t0 : Nat) : ∀ (n : Nat) (h : Hp) (x1 : Option Nat) (x2 : Int32), L_X0_tellsAs_62 N t0 n h x1 x2 = some (hz, rz) → Fw h hz := by
  intro n
  induction n with
  | zero => intro h x1 x2 hJ; cases hJ
  | succ n ih => intro h x1 x2 hJ; exact wb_X0_tellsAs_62 N (L_X0_tellsAs_62 N t0 n) t0 h x1 x2 ih hJ
theorem wb_X0_tellsAs_0 (N : Nat) (t0 : Nat) (h : Hp) (x1 : Option Nat) (hJ : B_X0_tellsAs_0 N t0 h x1 = some (hz, rz)) : Fw h hz := by
  unfold B_X0_tellsAs_0 at hJ
  obtain ⟨a24, ea24, -, hJ⟩ := dr_some hJ
  by_cases c25 : (h.fi 300 t0) = (h.fi 300 a24)
  · have hJ := it_pos c25 hJ
    by_cases c26 : (h.fi 301 t0) = (h.fi 301 a24)
    · have hJ := it_pos c26 hJ
      by_cases c27 : (h.fi 307 t0) = (h.fi 307 a24)
      · have hJ := it_pos c27 hJ
        by_cases c28 : (h.fi 302 t0) = (h.fi 302 a24)
        · have hJ := it_pos c28 hJ
          by_cases c29 : (lg_cmp (h.fl 303 t0) (h.fl 303 a24)) = 0
          · have hJ := it_pos c29 hJ
            exact wl_X0_tellsAs_62 N t0 N _ _ _ hJ
          · have hJ := it_neg c29 hJ
            exact wb_X0_tellsAs_58 N t0 _ hJ
        · have hJ := it_neg c28 hJ
          exact wb_X0_tellsAs_58 N t0 _ hJ
      · have hJ := it_neg c27 hJ
        exact wb_X0_tellsAs_33 N t0 _ hJ
    · have hJ := it_neg c26 hJ
      exact wb_X0_tellsAs_33 N t0 _ hJ
  · have hJ := it_neg c25 hJ
    exact wb_X0_tellsAs_33 N t0 _ hJ
theorem wo_X0_tellsAs (N : Nat) (t0 : Nat) (h : Hp) (x1 : Option Nat) (hJ : J_X0_tellsAs N t0 h x1 = some (hz, rz)) : Fw h hz := wb_X0_tellsAs_0 N t0 h x1 hJ
end V_X0_tellsAs
section V_X0_copy
variable {hz : Hp} {rz : Option Nat}
theorem wb_X0_copy_78 (N : Nat) (k46 : Hp → (Option Nat) → Int32 → Option (Hp × Option Nat)) (t0 : Nat) (h : Hp) (x1 : Option Nat) (x2 : Int32) (m46 : ∀ (h : Hp) (x1 : Option Nat) (x2 : Int32), k46 h x1 x2 = some (hz, rz) → Fw h hz) (hJ : B_X0_copy_78 N k46 t0 h x1 x2 = some (hz, rz)) : Fw h hz := by
  unfold B_X0_copy_78 at hJ
  exact m46 _ _ _ hJ
theorem wb_X0_copy_84 (N : Nat) (t0 : Nat) (h : Hp) (x1 : Option Nat) (hJ : B_X0_copy_84 N t0 h x1 = some (hz, rz)) : Fw h hz := by
  unfold B_X0_copy_84 at hJ
  obtain ⟨rfl, -⟩ := rs2 hJ
  exact (Fw.rf h)
theorem wb_X0_copy_59 (N : Nat) (k46 : Hp → (Option Nat) → Int32 → Option (Hp × Option Nat)) (t0 : Nat) (h : Hp) (x1 : Option Nat) (x2 : Int32) (y0 : Int32) (m46 : ∀ (h : Hp) (x1 : Option Nat) (x2 : Int32), k46 h x1 x2 = some (hz, rz) → Fw h hz) (hJ : B_X0_copy_59 N k46 t0 h x1 x2 y0 = some (hz, rz)) : Fw h hz := by
  unfold B_X0_copy_59 at hJ
  by_cases c1 : y0 = 0
  · have hJ := it_pos c1 hJ
    exact wb_X0_copy_84 N t0 _ _ hJ
  · have hJ := it_neg c1 hJ
    obtain ⟨a2, ea2, -, hJ⟩ := dr_some hJ
    obtain ⟨-, hJ⟩ := ck_some hJ
    obtain ⟨a4, ea4, -, hJ⟩ := dr_some hJ
    obtain ⟨-, hJ⟩ := ck_some hJ
    obtain ⟨a6, ea6, -, hJ⟩ := dr_some hJ
    obtain ⟨⟨h7, r8⟩, e9, hJ⟩ := ob_some hJ
    exact (wo_X0_addRow N a6 h (h.ai a2 x2.toNatClampNeg) (h.aw a4 x2.toNatClampNeg) e9).tr (wb_X0_copy_78 N k46 t0 _ _ _ m46 hJ)
theorem wb_X0_copy_46 (N : Nat) (k46 : Hp → (Option Nat) → Int32 → Option (Hp × Option Nat)) (t0 : Nat) (h : Hp) (x1 : Option Nat) (x2 : Int32) (m46 : ∀ (h : Hp) (x1 : Option Nat) (x2 : Int32), k46 h x1 x2 = some (hz, rz) → Fw h hz) (hJ : B_X0_copy_46 N k46 t0 h x1 x2 = some (hz, rz)) : Fw h hz := by
  unfold B_X0_copy_46 at hJ
  by_cases c11 : (h.fi 307 t0) ≤ x2
  · have hJ := it_pos c11 hJ
    exact wb_X0_copy_84 N t0 _ _ hJ
  · have hJ := it_neg c11 hJ
    obtain ⟨⟨h12, r13⟩, e14, hJ⟩ := ob_some hJ
    exact (wo_X0_hasRow N t0 h x2 e14).tr (wb_X0_copy_59 N k46 t0 _ _ _ _ m46 hJ)
theorem wl_X0_copy_46 (N : Nat) (t0 : Nat) : ∀ (n : Nat) (h : Hp) (x1 : Option Nat) (x2 : Int32), L_X0_copy_46 N t0 n h x1 x2 = some (hz, rz) → Fw h hz := by
  intro n
  induction n with
  | zero => intro h x1 x2 hJ; cases hJ
  | succ n ih => intro h x1 x2 hJ; exact wb_X0_copy_46 N (L_X0_copy_46 N t0 n) t0 h x1 x2 ih hJ
theorem wb_X0_copy_44 (N : Nat) (t0 : Nat) (h : Hp) (x1 : Option Nat) (hJ : B_X0_copy_44 N t0 h x1 = some (hz, rz)) : Fw h hz := by
  unfold B_X0_copy_44 at hJ
  exact wl_X0_copy_46 N t0 N _ _ _ hJ
theorem wb_X0_copy_11 (N : Nat) (t0 : Nat) (h : Hp) (y0 : Option Nat) (hJ : B_X0_copy_11 N t0 h y0 = some (hz, rz)) : Fw h hz := by
  unfold B_X0_copy_11 at hJ
  obtain ⟨a16, ea16, -, hJ⟩ := dr_some hJ
  obtain ⟨-, hJ⟩ := ck_some hJ
  exact (Fw.tr (show Fw h ((((h.sfi 300 a16 (h.fi 300 t0)).sfi 301 a16 ((h.sfi 300 a16 (h.fi 300 t0)).fi 301 t0)).sfi 302 a16 (((h.sfi 300 a16 (h.fi 300 t0)).sfi 301 a16 ((h.sfi 300 a16 (h.fi 300 t0)).fi 301 t0)).fi 302 t0)).sfl 303 a16 ((((h.sfi 300 a16 (h.fi 300 t0)).sfi 301 a16 ((h.sfi 300 a16 (h.fi 300 t0)).fi 301 t0)).sfi 302 a16 (((h.sfi 300 a16 (h.fi 300 t0)).sfi 301 a16 ((h.sfi 300 a16 (h.fi 300 t0)).fi 301 t0)).fi 302 t0)).fl 303 t0)) from (Fw.rf h)) (wb_X0_copy_44 N t0 _ _ hJ))
theorem wb_X0_copy_3 (N : Nat) (t0 : Nat) (h : Hp) (y0 : Option Nat) (hJ : B_X0_copy_3 N t0 h y0 = some (hz, rz)) : Fw h hz := by
  unfold B_X0_copy_3 at hJ
  obtain ⟨a18, ea18, -, hJ⟩ := dr_some hJ
  obtain ⟨⟨h19, r20⟩, e21, hJ⟩ := ob_some hJ
  exact (wo_X0_init N a18 h (h.fi 307 t0) e21).tr (wb_X0_copy_11 N t0 _ _ hJ)
theorem wb_X0_copy_0 (N : Nat) (t0 : Nat) (h : Hp) (hJ : B_X0_copy_0 N t0 h = some (hz, rz)) : Fw h hz := by
  unfold B_X0_copy_0 at hJ
  exact (Fw.new h _ _ _).tr (wb_X0_copy_3 N t0 _ _ hJ)
theorem wo_X0_copy (N : Nat) (t0 : Nat) (h : Hp) (hJ : J_X0_copy N t0 h = some (hz, rz)) : Fw h hz := wb_X0_copy_0 N t0 h hJ
end V_X0_copy
