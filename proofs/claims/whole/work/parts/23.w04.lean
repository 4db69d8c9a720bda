section V_X6_init
variable {hz : Hp}
theorem wb_X6_init_15 (N : Nat) (t0 : Nat) (h : Hp) (y0 : Option Nat) (y1 : Option Nat) (hJ : B_X6_init_15 N t0 h y0 y1 = some (hz, ())) : Fw h hz := by
  unfold B_X6_init_15 at hJ
  obtain ⟨a1, ea1, -, hJ⟩ := dr_some hJ
  obtain ⟨rfl, -⟩ := rs2 hJ
  exact (Fw.rf h)
theorem wb_X6_init_8 (N : Nat) (t0 : Nat) (h : Hp) (y0 : Option Nat) (y1 : Option Nat) (hJ : B_X6_init_8 N t0 h y0 y1 = some (hz, ())) : Fw h hz := by
  unfold B_X6_init_8 at hJ
  obtain ⟨a2, ea2, -, hJ⟩ := dr_some hJ
  obtain ⟨-, hJ⟩ := ck_some hJ
  exact (Fw.tr (show Fw h (h.sfr 900 a2 y1) from (Fw.rf h)) ((Fw.new (h.sfr 900 a2 y1) _ _ _).tr (wb_X6_init_15 N t0 _ _ _ hJ)))
theorem wb_X6_init_0 (N : Nat) (t0 : Nat) (h : Hp) (hJ : B_X6_init_0 N t0 h = some (hz, ())) : Fw h hz := by
  unfold B_X6_init_0 at hJ
  obtain ⟨-, hJ⟩ := ck_some hJ
  exact (Fw.new h _ _ _).tr (wb_X6_init_8 N t0 _ _ _ hJ)
theorem wo_X6_init (N : Nat) (t0 : Nat) (h : Hp) (hJ : J_X6_init N t0 h = some (hz, ())) : Fw h hz := wb_X6_init_0 N t0 h hJ
end V_X6_init
section V_X6_indexReaching
variable {hz : Hp} {rz : Int32}
theorem wb_X6_indexReaching_47 (N : Nat) (k8 : Hp → Int64 → Int32 → Int32 → Option (Hp × Int32)) (t0 : Nat) (h : Hp) (x1 : Int64) (x3 : Int32) (x4 : Int32) (m8 : ∀ (h : Hp) (x1 : Int64) (x3 : Int32) (x4 : Int32), k8 h x1 x3 x4 = some (hz, rz) → Fw h hz) (hJ : B_X6_indexReaching_47 N k8 t0 h x1 x3 x4 = some (hz, rz)) : Fw h hz := by
  unfold B_X6_indexReaching_47 at hJ
  exact m8 _ _ _ _ hJ
theorem wb_X6_indexReaching_8 (N : Nat) (k8 : Hp → Int64 → Int32 → Int32 → Option (Hp × Int32)) (t0 : Nat) (h : Hp) (x1 : Int64) (x3 : Int32) (x4 : Int32) (m8 : ∀ (h : Hp) (x1 : Int64) (x3 : Int32) (x4 : Int32), k8 h x1 x3 x4 = some (hz, rz) → Fw h hz) (hJ : B_X6_indexReaching_8 N k8 t0 h x1 x3 x4 = some (hz, rz)) : Fw h hz := by
  unfold B_X6_indexReaching_8 at hJ
  by_cases c1 : x4 ≤ x3
  · have hJ := it_pos c1 hJ
    obtain ⟨rfl, -⟩ := rs2 hJ
    exact (Fw.rf h)
  · have hJ := it_neg c1 hJ
    obtain ⟨a2, ea2, -, hJ⟩ := dr_some hJ
    obtain ⟨-, hJ⟩ := ck_some hJ
    by_cases c4 : 0 ≤ (lg_cmp ((h.ai a2 (((x3 + x4).toUInt32 >>> ((1 : Int32).toUInt32 &&& Int32.toUInt32 31)).toInt32).toNatClampNeg).toInt64) x1)
    · have hJ := it_pos c4 hJ
      exact wb_X6_indexReaching_47 N k8 t0 _ _ _ _ m8 hJ
    · have hJ := it_neg c4 hJ
      exact wb_X6_indexReaching_47 N k8 t0 _ _ _ _ m8 hJ
theorem wl_X6_indexReaching_8 (N : Nat) (t0 : Nat) : ∀ (n : Nat) (h : Hp) (x1 : Int64) (x3 : Int32) (x4 : Int32), L_X6_indexReaching_8 N t0 n h x1 x3 x4 = some (hz, rz) → Fw h hz := by
  intro n
  induction n with
  | zero => intro h x1 x3 x4 hJ; cases hJ
  | succ n ih => intro h x1 x3 x4 hJ; exact wb_X6_indexReaching_8 N (L_X6_indexReaching_8 N t0 n) t0 h x1 x3 x4 ih hJ
theorem wb_X6_indexReaching_0 (N : Nat) (t0 : Nat) (h : Hp) (x1 : Int64) (hJ : B_X6_indexReaching_0 N t0 h x1 = some (hz, rz)) : Fw h hz := by
  unfold B_X6_indexReaching_0 at hJ
  exact wl_X6_indexReaching_8 N t0 N _ _ _ _ hJ
theorem wo_X6_indexReaching (N : Nat) (t0 : Nat) (h : Hp) (x1 : Int64) (hJ : J_X6_indexReaching N t0 h x1 = some (hz, rz)) : Fw h hz := wb_X6_indexReaching_0 N t0 h x1 hJ
end V_X6_indexReaching
section V_X6_replace
variable {hz : Hp}
theorem wb_X6_replace_46 (N : Nat) (t0 : Nat) (h : Hp) (x1 : Int32) (x2 : Int32) (x3 : Int32) (x4 : Int32) (hJ : B_X6_replace_46 N t0 h x1 x2 x3 x4 = some (hz, ())) : Fw h hz := by
  unfold B_X6_replace_46 at hJ
  obtain ⟨a1, ea1, -, hJ⟩ := dr_some hJ
  obtain ⟨-, hJ⟩ := ck_some hJ
  obtain ⟨a3, ea3, -, hJ⟩ := dr_some hJ
  obtain ⟨-, hJ⟩ := ck_some hJ
  obtain ⟨a5, ea5, -, hJ⟩ := dr_some hJ
  obtain ⟨-, hJ⟩ := ck_some hJ
  obtain ⟨a7, ea7, -, hJ⟩ := dr_some hJ
  obtain ⟨-, hJ⟩ := ck_some hJ
  obtain ⟨rfl, -⟩ := rs2 hJ
  exact (Fw.rf h)
theorem wb_X6_replace_43 (N : Nat) (t0 : Nat) (h : Hp) (x1 : Int32) (x2 : Int32) (x3 : Int32) (x4 : Int32) (y0 : Option Nat) (y1 : Option Nat) (hJ : B_X6_replace_43 N t0 h x1 x2 x3 x4 y0 y1 = some (hz, ())) : Fw h hz := by
  unfold B_X6_replace_43 at hJ
  obtain ⟨a9, ea9, -, hJ⟩ := dr_some hJ
  exact (Fw.tr (show Fw h (h.sfr 901 a9 y1) from (Fw.rf h)) (wb_X6_replace_46 N t0 _ _ _ _ _ hJ))
theorem wb_X6_replace_26 (N : Nat) (t0 : Nat) (h : Hp) (x1 : Int32) (x2 : Int32) (x3 : Int32) (x4 : Int32) (y0 : Option Nat) (y1 : Option Nat) (hJ : B_X6_replace_26 N t0 h x1 x2 x3 x4 y0 y1 = some (hz, ())) : Fw h hz := by
  unfold B_X6_replace_26 at hJ
  obtain ⟨a10, ea10, -, hJ⟩ := dr_some hJ
  obtain ⟨⟨h11, r12⟩, e13, hJ⟩ := ob_some hJ
  exact (Fw.tr (show Fw h (h.sfr 900 a10 y1) from (Fw.rf h)) ((wo_J7_copyOf_59c91 N (h.sfr 900 a10 y1) ((h.sfr 900 a10 y1).fr 901 t0) (((h.sfr 900 a10 y1).fi 902 t0) * (2 : Int32)) e13).tr (wb_X6_replace_43 N t0 _ _ _ _ _ _ _ hJ)))
theorem wb_X6_replace_0 (N : Nat) (t0 : Nat) (h : Hp) (x1 : Int32) (x2 : Int32) (x3 : Int32) (x4 : Int32) (hJ : B_X6_replace_0 N t0 h x1 x2 x3 x4 = some (hz, ())) : Fw h hz := by
  unfold B_X6_replace_0 at hJ
  obtain ⟨a15, ea15, -, hJ⟩ := dr_some hJ
  by_cases c16 : (h.fi 902 t0) = (nI (h.al a15))
  · have hJ := it_pos c16 hJ
    obtain ⟨⟨h17, r18⟩, e19, hJ⟩ := ob_some hJ
    exact (wo_J7_copyOf_59c91 N h (h.fr 900 t0) ((h.fi 902 t0) * (2 : Int32)) e19).tr (wb_X6_replace_26 N t0 _ _ _ _ _ _ _ hJ)
  · have hJ := it_neg c16 hJ
    exact wb_X6_replace_46 N t0 _ _ _ _ _ hJ
theorem wo_X6_replace (N : Nat) (t0 : Nat) (h : Hp) (x1 : Int32) (x2 : Int32) (x3 : Int32) (x4 : Int32) (hJ : J_X6_replace N t0 h x1 x2 x3 x4 = some (hz, ())) : Fw h hz := wb_X6_replace_0 N t0 h x1 x2 x3 x4 hJ
end V_X6_replace
section V_X6_add
variable {hz : Hp}
theorem wb_X6_add_69 (N : Nat) (k18 : Hp → Int32 → Int32 → Int32 → Int32 → Int32 → Option (Hp × Unit)) (t0 : Nat) (h : Hp) (x2 : Int32) (x3 : Int32) (x4 : Int32) (x5 : Int32) (y0 : Int32) (m18 : ∀ (h : Hp) (x2 : Int32) (x3 : Int32) (x4 : Int32) (x5 : Int32) (x6 : Int32), k18 h x2 x3 x4 x5 x6 = some (hz, ()) → Fw h hz) (hJ : B_X6_add_69 N k18 t0 h x2 x3 x4 x5 y0 = some (hz, ())) : Fw h hz := by
  unfold B_X6_add_69 at hJ
  exact m18 _ _ _ _ _ _ hJ
theorem wb_X6_add_55 (N : Nat) (k18 : Hp → Int32 → Int32 → Int32 → Int32 → Int32 → Option (Hp × Unit)) (t0 : Nat) (h : Hp) (x2 : Int32) (x3 : Int32) (x4 : Int32) (x6 : Int32) (y0 : Int32) (m18 : ∀ (h : Hp) (x2 : Int32) (x3 : Int32) (x4 : Int32) (x5 : Int32) (x6 : Int32), k18 h x2 x3 x4 x5 x6 = some (hz, ()) → Fw h hz) (hJ : B_X6_add_55 N k18 t0 h x2 x3 x4 x6 y0 = some (hz, ())) : Fw h hz := by
  unfold B_X6_add_55 at hJ
  obtain ⟨a1, ea1, -, hJ⟩ := dr_some hJ
  obtain ⟨-, hJ⟩ := ck_some hJ
  exact wb_X6_add_69 N k18 t0 _ _ _ _ _ _ m18 hJ
theorem wb_X6_add_88 (N : Nat) (t0 : Nat) (h : Hp) (hJ : B_X6_add_88 N t0 h = some (hz, ())) : Fw h hz := by
  unfold B_X6_add_88 at hJ
  obtain ⟨rfl, -⟩ := rs2 hJ
  exact (Fw.rf h)
theorem wb_X6_add_77 (N : Nat) (t0 : Nat) (h : Hp) (x3 : Int32) (x4 : Int32) (x5 : Int32) (x6 : Int32) (hJ : B_X6_add_77 N t0 h x3 x4 x5 x6 = some (hz, ())) : Fw h hz := by
  unfold B_X6_add_77 at hJ
  obtain ⟨⟨h3, r4⟩, e5, hJ⟩ := ob_some hJ
  exact (wo_X6_replace N t0 h x3 x4 x5 x6 e5).tr (wb_X6_add_88 N t0 _ hJ)
theorem wb_X6_add_18 (N : Nat) (k18 : Hp → Int32 → Int32 → Int32 → Int32 → Int32 → Option (Hp × Unit)) (t0 : Nat) (h : Hp) (x2 : Int32) (x3 : Int32) (x4 : Int32) (x5 : Int32) (x6 : Int32) (m18 : ∀ (h : Hp) (x2 : Int32) (x3 : Int32) (x4 : Int32) (x5 : Int32) (x6 : Int32), k18 h x2 x3 x4 x5 x6 = some (hz, ()) → Fw h hz) (hJ : B_X6_add_18 N k18 t0 h x2 x3 x4 x5 x6 = some (hz, ())) : Fw h hz := by
  unfold B_X6_add_18 at hJ
  by_cases c7 : (h.fi 902 t0) ≤ x4
  · have hJ := it_pos c7 hJ
    exact wb_X6_add_77 N t0 _ _ _ _ _ hJ
  · have hJ := it_neg c7 hJ
    obtain ⟨a8, ea8, -, hJ⟩ := dr_some hJ
    obtain ⟨-, hJ⟩ := ck_some hJ
    by_cases c10 : 0 < (lg_cmp ((h.ai a8 x4.toNatClampNeg).toInt64) (x2.toInt64 + (1 : Int64)))
    · have hJ := it_pos c10 hJ
      exact wb_X6_add_77 N t0 _ _ _ _ _ hJ
    · have hJ := it_neg c10 hJ
      obtain ⟨a11, ea11, -, hJ⟩ := dr_some hJ
      obtain ⟨-, hJ⟩ := ck_some hJ
      exact wb_X6_add_55 N k18 t0 _ _ _ _ _ _ m18 hJ
theorem wl_X6_add_18 (N : Nat) (t0 : Nat) : ∀ (n : Nat) (h : Hp) (x2 : Int32) (x3 : Int32) (x4 : Int32) (x5 : Int32) (x6 : Int32), L_X6_add_18 N t0 n h x2 x3 x4 x5 x6 = some (hz, ()) → Fw h hz := by
  intro n
  induction n with
  | zero => intro h x2 x3 x4 x5 x6 hJ; cases hJ
  | succ n ih => intro h x2 x3 x4 x5 x6 hJ; exact wb_X6_add_18 N (L_X6_add_18 N t0 n) t0 h x2 x3 x4 x5 x6 ih hJ
theorem wb_X6_add_8 (N : Nat) (t0 : Nat) (h : Hp) (x1 : Int32) (x2 : Int32) (y0 : Int32) (hJ : B_X6_add_8 N t0 h x1 x2 y0 = some (hz, ())) : Fw h hz := by
  unfold B_X6_add_8 at hJ
  exact wl_X6_add_18 N t0 N _ _ _ _ _ _ hJ
theorem wb_X6_add_0 (N : Nat) (t0 : Nat) (h : Hp) (x1 : Int32) (x2 : Int32) (hJ : B_X6_add_0 N t0 h x1 x2 = some (hz, ())) : Fw h hz := by
  unfold B_X6_add_0 at hJ
  obtain ⟨⟨h13, r14⟩, e15, hJ⟩ := ob_some hJ
  exact (wo_X6_indexReaching N t0 h (x1.toInt64 - (1 : Int64)) e15).tr (wb_X6_add_8 N t0 _ _ _ _ hJ)
theorem wo_X6_add (N : Nat) (t0 : Nat) (h : Hp) (x1 : Int32) (x2 : Int32) (hJ : J_X6_add N t0 h x1 x2 = some (hz, ())) : Fw h hz := wb_X6_add_0 N t0 h x1 x2 hJ
end V_X6_add
section V_X6_contains
variable {hz : Hp} {rz : Int32}
theorem wb_X6_contains_30 (N : Nat) (t0 : Nat) (h : Hp) (y0 : Int32) (hJ : B_X6_contains_30 N t0 h y0 = some (hz, rz)) : Fw h hz := by
  unfold B_X6_contains_30 at hJ
  obtain ⟨-, hJ⟩ := ck_some hJ
  obtain ⟨rfl, -⟩ := rs2 hJ
  exact (Fw.rf h)
theorem wb_X6_contains_29 (N : Nat) (t0 : Nat) (h : Hp) (hJ : B_X6_contains_29 N t0 h = some (hz, rz)) : Fw h hz := by
  unfold B_X6_contains_29 at hJ
  exact wb_X6_contains_30 N t0 _ _ hJ
theorem wb_X6_contains_6 (N : Nat) (t0 : Nat) (h : Hp) (x1 : Int32) (y0 : Int32) (hJ : B_X6_contains_6 N t0 h x1 y0 = some (hz, rz)) : Fw h hz := by
  unfold B_X6_contains_6 at hJ
  by_cases c2 : (h.fi 902 t0) ≤ y0
  · have hJ := it_pos c2 hJ
    exact wb_X6_contains_29 N t0 _ hJ
  · have hJ := it_neg c2 hJ
    obtain ⟨a3, ea3, -, hJ⟩ := dr_some hJ
    obtain ⟨-, hJ⟩ := ck_some hJ
    by_cases c5 : x1 < (h.ai a3 y0.toNatClampNeg)
    · have hJ := it_pos c5 hJ
      exact wb_X6_contains_29 N t0 _ hJ
    · have hJ := it_neg c5 hJ
      exact wb_X6_contains_30 N t0 _ _ hJ
theorem wb_X6_contains_0 (N : Nat) (t0 : Nat) (h : Hp) (x1 : Int32) (hJ : B_X6_contains_0 N t0 h x1 = some (hz, rz)) : Fw h hz := by
  unfold B_X6_contains_0 at hJ
  obtain ⟨⟨h6, r7⟩, e8, hJ⟩ := ob_some hJ
  exact (wo_X6_indexReaching N t0 h x1.toInt64 e8).tr (wb_X6_contains_6 N t0 _ _ _ hJ)
theorem wo_X6_contains (N : Nat) (t0 : Nat) (h : Hp) (x1 : Int32) (hJ : J_X6_contains N t0 h x1 = some (hz, rz)) : Fw h hz := wb_X6_contains_0 N t0 h x1 hJ
end V_X6_contains
