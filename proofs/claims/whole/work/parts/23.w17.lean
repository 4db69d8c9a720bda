section V_X10_judge
variable {hz : Hp}
theorem wb_X10_judge_43 (N : Nat) (k2 : Hp → Int32 → Option (Hp × Unit)) (t0 : Nat) (h : Hp) (x1 : Int32) (m2 : ∀ (h : Hp) (x1 : Int32), k2 h x1 = some (hz, ()) → Fw h hz) (hJ : B_X10_judge_43 N k2 t0 h x1 = some (hz, ())) : Fw h hz := by
  unfold B_X10_judge_43 at hJ
  exact m2 _ _ hJ
theorem wb_X10_judge_2 (N : Nat) (k2 : Hp → Int32 → Option (Hp × Unit)) (t0 : Nat) (h : Hp) (x1 : Int32) (m2 : ∀ (h : Hp) (x1 : Int32), k2 h x1 = some (hz, ()) → Fw h hz) (hJ : B_X10_judge_2 N k2 t0 h x1 = some (hz, ())) : Fw h hz := by
  unfold B_X10_judge_2 at hJ
  by_cases c1 : (h.gi 1311 t0) < x1
  · have hJ := it_pos c1 hJ
    obtain ⟨rfl, -⟩ := rs2 hJ
    exact (Fw.rf h)
  · have hJ := it_neg c1 hJ
    obtain ⟨a2, ea2, -, hJ⟩ := dr_some hJ
    obtain ⟨-, hJ⟩ := ck_some hJ
    by_cases c4 : (h.bi a2 x1.toNatClampNeg) = (1 : Int32)
    · have hJ := it_pos c4 hJ
      obtain ⟨a5, ea5, -, hJ⟩ := dr_some hJ
      obtain ⟨-, hJ⟩ := ck_some hJ
      by_cases c7 : (h.bi a5 x1.toNatClampNeg) = 0
      · have hJ := it_pos c7 hJ
        exact wb_X10_judge_43 N k2 t0 _ _ m2 hJ
      · have hJ := it_neg c7 hJ
        obtain ⟨a8, ea8, -, hJ⟩ := dr_some hJ
        obtain ⟨-, hJ⟩ := ck_some hJ
        by_cases c10 : (h.bi a8 x1.toNatClampNeg) = 0
        · have hJ := it_pos c10 hJ
          obtain ⟨⟨h11, r12⟩, e13, hJ⟩ := ob_some hJ
          exact (wo_X10_judgeOne N t0 h x1 e13).tr (wb_X10_judge_43 N k2 t0 _ _ m2 hJ)
        · have hJ := it_neg c10 hJ
          exact wb_X10_judge_43 N k2 t0 _ _ m2 hJ
    · have hJ := it_neg c4 hJ
      exact wb_X10_judge_43 N k2 t0 _ _ m2 hJ
theorem wl_X10_judge_2 (N : Nat) (t0 : Nat) : ∀ (n : Nat) (h : Hp) (x1 : Int32), L_X10_judge_2 N t0 n h x1 = some (hz, ()) → Fw h hz := by
  intro n
  induction n with
  | zero => intro h x1 hJ; cases hJ
  | succ n ih => intro h x1 hJ; exact wb_X10_judge_2 N (L_X10_judge_2 N t0 n) t0 h x1 ih hJ
theorem wb_X10_judge_0 (N : Nat) (t0 : Nat) (h : Hp) (hJ : B_X10_judge_0 N t0 h = some (hz, ())) : Fw h hz := by
  unfold B_X10_judge_0 at hJ
  exact wl_X10_judge_2 N t0 N _ _ hJ
theorem wo_X10_judge (N : Nat) (t0 : Nat) (h : Hp) (hJ : J_X10_judge N t0 h = some (hz, ())) : Fw h hz := wb_X10_judge_0 N t0 h hJ
end V_X10_judge
section V_X10_begin
variable {hz : Hp} {rz : Int32}
theorem wb_X10_begin_86 (N : Nat) (t0 : Nat) (h : Hp) (hJ : B_X10_begin_86 N t0 h = some (hz, rz)) : Fw h hz := by
  unfold B_X10_begin_86 at hJ
  obtain ⟨rfl, -⟩ := rs2 hJ
  exact (Fw.rf h)
theorem wb_X10_begin_69 (N : Nat) (t0 : Nat) (h : Hp) (hJ : B_X10_begin_69 N t0 h = some (hz, rz)) : Fw h hz := by
  unfold B_X10_begin_69 at hJ
  obtain ⟨a1, ea1, -, hJ⟩ := dr_some hJ
  obtain ⟨-, hJ⟩ := ck_some hJ
  obtain ⟨⟨h3, r4⟩, e5, hJ⟩ := ob_some hJ
  exact (Fw.tr (show Fw h (h.sbi a1 (h.gi 1311 t0).toNatClampNeg (h.gi 1313 t0)) from (Fw.rf h)) ((wo_X10_judge N t0 (h.sbi a1 (h.gi 1311 t0).toNatClampNeg (h.gi 1313 t0)) e5).tr (wb_X10_begin_86 N t0 _ hJ)))
theorem wb_X10_begin_19 (N : Nat) (t0 : Nat) (h : Hp) (x1 : Int32) (y0 : Int32) (hJ : B_X10_begin_19 N t0 h x1 y0 = some (hz, rz)) : Fw h hz := by
  unfold B_X10_begin_19 at hJ
  by_cases c7 : y0 = (24 : Int32)
  · have hJ := it_pos c7 hJ
    obtain ⟨rfl, -⟩ := rs2 hJ
    exact (Fw.rf h)
  · have hJ := it_neg c7 hJ
    obtain ⟨a8, ea8, -, hJ⟩ := dr_some hJ
    obtain ⟨-, hJ⟩ := ck_some hJ
    obtain ⟨a10, ea10, -, hJ⟩ := dr_some hJ
    obtain ⟨-, hJ⟩ := ck_some hJ
    obtain ⟨-, hJ⟩ := ck_some hJ
    obtain ⟨a13, ea13, -, hJ⟩ := dr_some hJ
    obtain ⟨-, hJ⟩ := ck_some hJ
    exact (Fw.tr (show Fw h ((((h.sgi 1311 t0 ((h.gi 1311 t0) + (1 : Int32))).sbi a8 ((h.sgi 1311 t0 ((h.gi 1311 t0) + (1 : Int32))).gi 1311 t0).toNatClampNeg (1 : Int32)).sbi a10 (((h.sgi 1311 t0 ((h.gi 1311 t0) + (1 : Int32))).sbi a8 ((h.sgi 1311 t0 ((h.gi 1311 t0) + (1 : Int32))).gi 1311 t0).toNatClampNeg (1 : Int32)).gi 1311 t0).toNatClampNeg x1).sbi a13 ((((h.sgi 1311 t0 ((h.gi 1311 t0) + (1 : Int32))).sbi a8 ((h.sgi 1311 t0 ((h.gi 1311 t0) + (1 : Int32))).gi 1311 t0).toNatClampNeg (1 : Int32)).sbi a10 (((h.sgi 1311 t0 ((h.gi 1311 t0) + (1 : Int32))).sbi a8 ((h.sgi 1311 t0 ((h.gi 1311 t0) + (1 : Int32))).gi 1311 t0).toNatClampNeg (1 : Int32)).gi 1311 t0).toNatClampNeg x1).gi 1311 t0).toNatClampNeg ((((h.sgi 1311 t0 ((h.gi 1311 t0) + (1 : Int32))).sbi a8 ((h.sgi 1311 t0 ((h.gi 1311 t0) + (1 : Int32))).gi 1311 t0).toNatClampNeg (1 : Int32)).sbi a10 (((h.sgi 1311 t0 ((h.gi 1311 t0) + (1 : Int32))).sbi a8 ((h.sgi 1311 t0 ((h.gi 1311 t0) + (1 : Int32))).gi 1311 t0).toNatClampNeg (1 : Int32)).gi 1311 t0).toNatClampNeg x1).gi 1312 t0)) from (Fw.rf h)) (wb_X10_begin_69 N t0 _ hJ))
theorem wb_X10_begin_0 (N : Nat) (t0 : Nat) (h : Hp) (x1 : Int32) (hJ : B_X10_begin_0 N t0 h x1 = some (hz, rz)) : Fw h hz := by
  unfold B_X10_begin_0 at hJ
  obtain ⟨⟨h15, r16⟩, e17, hJ⟩ := ob_some hJ
  exact (Fw.tr (show Fw h ((h.sgi 1300 t0 (0 : Int32)).sgi 1313 t0 (((h.sgi 1300 t0 (0 : Int32)).gi 1313 t0) + (1 : Int32))) from (Fw.rf h)) ((wo_X10_activeMany N t0 ((h.sgi 1300 t0 (0 : Int32)).sgi 1313 t0 (((h.sgi 1300 t0 (0 : Int32)).gi 1313 t0) + (1 : Int32))) e17).tr (wb_X10_begin_19 N t0 _ _ _ hJ)))
theorem wo_X10_begin (N : Nat) (t0 : Nat) (h : Hp) (x1 : Int32) (hJ : J_X10_begin N t0 h x1 = some (hz, rz)) : Fw h hz := wb_X10_begin_0 N t0 h x1 hJ
end V_X10_begin
section V_X10_momentOf
variable {hz : Hp} {rz : Int32}
theorem wb_X10_momentOf_0 (N : Nat) (t0 : Nat) (h : Hp) (x1 : Int32) (hJ : B_X10_momentOf_0 N t0 h x1 = some (hz, rz)) : Fw h hz := by
  unfold B_X10_momentOf_0 at hJ
  obtain ⟨a1, ea1, -, hJ⟩ := dr_some hJ
  obtain ⟨-, hJ⟩ := ck_some hJ
  obtain ⟨a3, ea3, -, hJ⟩ := dr_some hJ
  obtain ⟨-, hJ⟩ := ck_some hJ
  obtain ⟨rfl, -⟩ := rs2 hJ
  exact (Fw.rf h)
theorem wo_X10_momentOf (N : Nat) (t0 : Nat) (h : Hp) (x1 : Int32) (hJ : J_X10_momentOf N t0 h x1 = some (hz, rz)) : Fw h hz := wb_X10_momentOf_0 N t0 h x1 hJ
end V_X10_momentOf
section V_X10_ownOf
variable {hz : Hp} {rz : Int32}
theorem wb_X10_ownOf_42 (N : Nat) (k7 : Hp → Int32 → Int32 → Int32 → Option (Hp × Int32)) (t0 : Nat) (h : Hp) (x1 : Int32) (x2 : Int32) (x3 : Int32) (m7 : ∀ (h : Hp) (x1 : Int32) (x2 : Int32) (x3 : Int32), k7 h x1 x2 x3 = some (hz, rz) → Fw h hz) (hJ : B_X10_ownOf_42 N k7 t0 h x1 x2 x3 = some (hz, rz)) : Fw h hz := by
  unfold B_X10_ownOf_42 at hJ
  exact m7 _ _ _ _ hJ
theorem wb_X10_ownOf_7 (N : Nat) (k7 : Hp → Int32 → Int32 → Int32 → Option (Hp × Int32)) (t0 : Nat) (h : Hp) (x1 : Int32) (x2 : Int32) (x3 : Int32) (m7 : ∀ (h : Hp) (x1 : Int32) (x2 : Int32) (x3 : Int32), k7 h x1 x2 x3 = some (hz, rz) → Fw h hz) (hJ : B_X10_ownOf_7 N k7 t0 h x1 x2 x3 = some (hz, rz)) : Fw h hz := by
  unfold B_X10_ownOf_7 at hJ
  by_cases c1 : x3 < 0
  · have hJ := it_pos c1 hJ
    obtain ⟨rfl, -⟩ := rs2 hJ
    exact (Fw.rf h)
  · have hJ := it_neg c1 hJ
    obtain ⟨a2, ea2, -, hJ⟩ := dr_some hJ
    obtain ⟨-, hJ⟩ := ck_some hJ
    by_cases c4 : (h.bi a2 x3.toNatClampNeg) = x1
    · have hJ := it_pos c4 hJ
      obtain ⟨a5, ea5, -, hJ⟩ := dr_some hJ
      obtain ⟨-, hJ⟩ := ck_some hJ
      by_cases c7 : (h.bi a5 x3.toNatClampNeg) = x2
      · have hJ := it_pos c7 hJ
        obtain ⟨a8, ea8, -, hJ⟩ := dr_some hJ
        obtain ⟨-, hJ⟩ := ck_some hJ
        by_cases c10 : (h.bi a8 x3.toNatClampNeg) = 0
        · have hJ := it_pos c10 hJ
          obtain ⟨rfl, -⟩ := rs2 hJ
          exact (Fw.rf h)
        · have hJ := it_neg c10 hJ
          exact wb_X10_ownOf_42 N k7 t0 _ _ _ _ m7 hJ
      · have hJ := it_neg c7 hJ
        exact wb_X10_ownOf_42 N k7 t0 _ _ _ _ m7 hJ
    · have hJ := it_neg c4 hJ
      exact wb_X10_ownOf_42 N k7 t0 _ _ _ _ m7 hJ
theorem wl_X10_ownOf_7 (N : Nat) (t0 : Nat) : ∀ (n : Nat) (h : Hp) (x1 : Int32) (x2 : Int32) (x3 : Int32), L_X10_ownOf_7 N t0 n h x1 x2 x3 = some (hz, rz) → Fw h hz := by
  intro n
  induction n with
  | zero => intro h x1 x2 x3 hJ; cases hJ
  | succ n ih => intro h x1 x2 x3 hJ; exact wb_X10_ownOf_7 N (L_X10_ownOf_7 N t0 n) t0 h x1 x2 x3 ih hJ
theorem wb_X10_ownOf_0 (N : Nat) (t0 : Nat) (h : Hp) (x1 : Int32) (x2 : Int32) (hJ : B_X10_ownOf_0 N t0 h x1 x2 = some (hz, rz)) : Fw h hz := by
  unfold B_X10_ownOf_0 at hJ
  exact wl_X10_ownOf_7 N t0 N _ _ _ _ hJ
theorem wo_X10_ownOf (N : Nat) (t0 : Nat) (h : Hp) (x1 : Int32) (x2 : Int32) (hJ : J_X10_ownOf N t0 h x1 x2 = some (hz, rz)) : Fw h hz := wb_X10_ownOf_0 N t0 h x1 x2 hJ
end V_X10_ownOf
section V_X10_conflicts
variable {hz : Hp} {rz : Int32}
theorem wb_X10_conflicts_88 (N : Nat) (k15 : Hp → Int32 → Int32 → Int32 → Int32 → Int32 → Option (Hp × Int32)) (t0 : Nat) (h : Hp) (x1 : Int32) (x2 : Int32) (x3 : Int32) (x4 : Int32) (x5 : Int32) (m15 : ∀ (h : Hp) (x1 : Int32) (x2 : Int32) (x3 : Int32) (x4 : Int32) (x5 : Int32), k15 h x1 x2 x3 x4 x5 = some (hz, rz) → Fw h hz) (hJ : B_X10_conflicts_88 N k15 t0 h x1 x2 x3 x4 x5 = some (hz, rz)) : Fw h hz := by
  unfold B_X10_conflicts_88 at hJ
  exact m15 _ _ _ _ _ _ hJ
theorem wb_X10_conflicts_86 (N : Nat) (k15 : Hp → Int32 → Int32 → Int32 → Int32 → Int32 → Option (Hp × Int32)) (t0 : Nat) (h : Hp) (x1 : Int32) (x3 : Int32) (x4 : Int32) (x5 : Int32) (m15 : ∀ (h : Hp) (x1 : Int32) (x2 : Int32) (x3 : Int32) (x4 : Int32) (x5 : Int32), k15 h x1 x2 x3 x4 x5 = some (hz, rz) → Fw h hz) (hJ : B_X10_conflicts_86 N k15 t0 h x1 x3 x4 x5 = some (hz, rz)) : Fw h hz := by
  unfold B_X10_conflicts_86 at hJ
  exact wb_X10_conflicts_88 N k15 t0 _ _ _ _ _ _ m15 hJ
theorem wb_X10_conflicts_69 (N : Nat) (k15 : Hp → Int32 → Int32 → Int32 → Int32 → Int32 → Option (Hp × Int32)) (t0 : Nat) (h : Hp) (x1 : Int32) (x5 : Int32) (m15 : ∀ (h : Hp) (x1 : Int32) (x2 : Int32) (x3 : Int32) (x4 : Int32) (x5 : Int32), k15 h x1 x2 x3 x4 x5 = some (hz, rz) → Fw h hz) (hJ : B_X10_conflicts_69 N k15 t0 h x1 x5 = some (hz, rz)) : Fw h hz := by
  unfold B_X10_conflicts_69 at hJ
  obtain ⟨a1, ea1, -, hJ⟩ := dr_some hJ
  obtain ⟨-, hJ⟩ := ck_some hJ
  obtain ⟨a3, ea3, -, hJ⟩ := dr_some hJ
  obtain ⟨-, hJ⟩ := ck_some hJ
  exact wb_X10_conflicts_86 N k15 t0 _ _ _ _ _ m15 hJ
theorem wb_X10_conflicts_47 (N : Nat) (k15 : Hp → Int32 → Int32 → Int32 → Int32 → Int32 → Option (Hp × Int32)) (t0 : Nat) (h : Hp) (x1 : Int32) (x2 : Int32) (x3 : Int32) (x4 : Int32) (x5 : Int32) (y0 : Int32) (m15 : ∀ (h : Hp) (x1 : Int32) (x2 : Int32) (x3 : Int32) (x4 : Int32) (x5 : Int32), k15 h x1 x2 x3 x4 x5 = some (hz, rz) → Fw h hz) (hJ : B_X10_conflicts_47 N k15 t0 h x1 x2 x3 x4 x5 y0 = some (hz, rz)) : Fw h hz := by
  unfold B_X10_conflicts_47 at hJ
  by_cases c5 : y0 = (-1 : Int32)
  · have hJ := it_pos c5 hJ
    exact wb_X10_conflicts_88 N k15 t0 _ _ _ _ _ _ m15 hJ
  · have hJ := it_neg c5 hJ
    by_cases c6 : x2 = 0
    · have hJ := it_pos c6 hJ
      exact wb_X10_conflicts_69 N k15 t0 _ _ _ m15 hJ
    · have hJ := it_neg c6 hJ
      obtain ⟨a7, ea7, -, hJ⟩ := dr_some hJ
      obtain ⟨-, hJ⟩ := ck_some hJ
      by_cases c9 : x3 < (h.bi a7 x5.toNatClampNeg)
      · have hJ := it_pos c9 hJ
        exact wb_X10_conflicts_86 N k15 t0 _ _ _ _ _ m15 hJ
      · have hJ := it_neg c9 hJ
        exact wb_X10_conflicts_69 N k15 t0 _ _ _ m15 hJ
theorem wb_X10_conflicts_26 (N : Nat) (k15 : Hp → Int32 → Int32 → Int32 → Int32 → Int32 → Option (Hp × Int32)) (t0 : Nat) (h : Hp) (x1 : Int32) (x2 : Int32) (x3 : Int32) (x4 : Int32) (x5 : Int32) (y0 : Int32) (m15 : ∀ (h : Hp) (x1 : Int32) (x2 : Int32) (x3 : Int32) (x4 : Int32) (x5 : Int32), k15 h x1 x2 x3 x4 x5 = some (hz, rz) → Fw h hz) (hJ : B_X10_conflicts_26 N k15 t0 h x1 x2 x3 x4 x5 y0 = some (hz, rz)) : Fw h hz := by
  unfold B_X10_conflicts_26 at hJ
  obtain ⟨a10, ea10, -, hJ⟩ := dr_some hJ
  obtain ⟨-, hJ⟩ := ck_some hJ
  by_cases c12 : y0 ≤ (h.bi a10 x1.toNatClampNeg)
  · have hJ := it_pos c12 hJ
    exact wb_X10_conflicts_88 N k15 t0 _ _ _ _ _ _ m15 hJ
  · have hJ := it_neg c12 hJ
    obtain ⟨a13, ea13, -, hJ⟩ := dr_some hJ
    obtain ⟨-, hJ⟩ := ck_some hJ
    obtain ⟨⟨h15, r16⟩, e17, hJ⟩ := ob_some hJ
    exact (wo_X10_ownOf N t0 h x1 (h.bi a13 x5.toNatClampNeg) e17).tr (wb_X10_conflicts_47 N k15 t0 _ _ _ _ _ _ _ m15 hJ)
theorem wb_X10_conflicts_119 (N : Nat) (t0 : Nat) (h : Hp) (x2 : Int32) (hJ : B_X10_conflicts_119 N t0 h x2 = some (hz, rz)) : Fw h hz := by
  unfold B_X10_conflicts_119 at hJ
  obtain ⟨-, hJ⟩ := ck_some hJ
  obtain ⟨rfl, -⟩ := rs2 hJ
  exact (Fw.rf h)
theorem wb_X10_conflicts_15 (N : Nat) (k15 : Hp → Int32 → Int32 → Int32 → Int32 → Int32 → Option (Hp × Int32)) (t0 : Nat) (h : Hp) (x1 : Int32) (x2 : Int32) (x3 : Int32) (x4 : Int32) (x5 : Int32) (m15 : ∀ (h : Hp) (x1 : Int32) (x2 : Int32) (x3 : Int32) (x4 : Int32) (x5 : Int32), k15 h x1 x2 x3 x4 x5 = some (hz, rz) → Fw h hz) (hJ : B_X10_conflicts_15 N k15 t0 h x1 x2 x3 x4 x5 = some (hz, rz)) : Fw h hz := by
  unfold B_X10_conflicts_15 at hJ
  by_cases c20 : x5 < 0
  · have hJ := it_pos c20 hJ
    by_cases c21 : x2 = 0
    · have hJ := it_pos c21 hJ
      exact wb_X10_conflicts_119 N t0 _ _ hJ
    · have hJ := it_neg c21 hJ
      exact (Fw.tr (show Fw h ((((h.sgi 1347 t0 (1 : Int32)).sgi 1348 t0 x1).sgi 1349 t0 x4).sgi 1350 t0 x3) from (Fw.rf h)) (wb_X10_conflicts_119 N t0 _ _ hJ))
  · have hJ := it_neg c20 hJ
    obtain ⟨⟨h22, r23⟩, e24, hJ⟩ := ob_some hJ
    exact (wo_X10_momentOf N t0 h x5 e24).tr (wb_X10_conflicts_26 N k15 t0 _ _ _ _ _ _ _ m15 hJ)
theorem wl_X10_conflicts_15 (N : Nat) (t0 : Nat) : ∀ (n : Nat) (h : Hp) (x1 : Int32) (x2 : Int32) (x3 : Int32) (x4 : Int32) (x5 : Int32), L_X10_conflicts_15 N t0 n h x1 x2 x3 x4 x5 = some (hz, rz) → Fw h hz := by
  intro n
  induction n with
  | zero => intro h x1 x2 x3 x4 x5 hJ; cases hJ
  | succ n ih => intro h x1 x2 x3 x4 x5 hJ; exact wb_X10_conflicts_15 N (L_X10_conflicts_15 N t0 n) t0 h x1 x2 x3 x4 x5 ih hJ
theorem wb_X10_conflicts_0 (N : Nat) (t0 : Nat) (h : Hp) (x1 : Int32) (hJ : B_X10_conflicts_0 N t0 h x1 = some (hz, rz)) : Fw h hz := by
  unfold B_X10_conflicts_0 at hJ
  exact wl_X10_conflicts_15 N t0 N _ _ _ _ _ _ hJ
theorem wo_X10_conflicts (N : Nat) (t0 : Nat) (h : Hp) (x1 : Int32) (hJ : J_X10_conflicts N t0 h x1 = some (hz, rz)) : Fw h hz := wb_X10_conflicts_0 N t0 h x1 hJ
end V_X10_conflicts
section V_X10_atMoment
variable {hz : Hp} {rz : Int32}
theorem wb_X10_atMoment_32 (N : Nat) (k2 : Hp → Int32 → Int32 → Option (Hp × Int32)) (t0 : Nat) (h : Hp) (x1 : Int32) (x2 : Int32) (m2 : ∀ (h : Hp) (x1 : Int32) (x2 : Int32), k2 h x1 x2 = some (hz, rz) → Fw h hz) (hJ : B_X10_atMoment_32 N k2 t0 h x1 x2 = some (hz, rz)) : Fw h hz := by
  unfold B_X10_atMoment_32 at hJ
  exact m2 _ _ _ hJ
theorem wb_X10_atMoment_2 (N : Nat) (k2 : Hp → Int32 → Int32 → Option (Hp × Int32)) (t0 : Nat) (h : Hp) (x1 : Int32) (x2 : Int32) (m2 : ∀ (h : Hp) (x1 : Int32) (x2 : Int32), k2 h x1 x2 = some (hz, rz) → Fw h hz) (hJ : B_X10_atMoment_2 N k2 t0 h x1 x2 = some (hz, rz)) : Fw h hz := by
  unfold B_X10_atMoment_2 at hJ
  by_cases c1 : (h.gi 1311 t0) < x2
  · have hJ := it_pos c1 hJ
    obtain ⟨rfl, -⟩ := rs2 hJ
    exact (Fw.rf h)
  · have hJ := it_neg c1 hJ
    obtain ⟨a2, ea2, -, hJ⟩ := dr_some hJ
    obtain ⟨-, hJ⟩ := ck_some hJ
    by_cases c4 : (h.bi a2 x2.toNatClampNeg) = (2 : Int32)
    · have hJ := it_pos c4 hJ
      obtain ⟨a5, ea5, -, hJ⟩ := dr_some hJ
      obtain ⟨-, hJ⟩ := ck_some hJ
      by_cases c7 : (h.bi a5 x2.toNatClampNeg) = x1
      · have hJ := it_pos c7 hJ
        obtain ⟨rfl, -⟩ := rs2 hJ
        exact (Fw.rf h)
      · have hJ := it_neg c7 hJ
        exact wb_X10_atMoment_32 N k2 t0 _ _ _ m2 hJ
    · have hJ := it_neg c4 hJ
      exact wb_X10_atMoment_32 N k2 t0 _ _ _ m2 hJ
theorem wl_X10_atMoment_2 (N : Nat) (t0 : Nat) : ∀ (n : Nat) (h : Hp) (x1 : Int32) (x2 : Int32), L_X10_atMoment_2 N t0 n h x1 x2 = some (hz, rz) → Fw h hz := by
  intro n
  induction n with
  | zero => intro h x1 x2 hJ; cases hJ
  | succ n ih => intro h x1 x2 hJ; exact wb_X10_atMoment_2 N (L_X10_atMoment_2 N t0 n) t0 h x1 x2 ih hJ
theorem wb_X10_atMoment_0 (N : Nat) (t0 : Nat) (h : Hp) (x1 : Int32) (hJ : B_X10_atMoment_0 N t0 h x1 = some (hz, rz)) : Fw h hz := by
  unfold B_X10_atMoment_0 at hJ
  exact wl_X10_atMoment_2 N t0 N _ _ _ hJ
theorem wo_X10_atMoment (N : Nat) (t0 : Nat) (h : Hp) (x1 : Int32) (hJ : J_X10_atMoment N t0 h x1 = some (hz, rz)) : Fw h hz := wb_X10_atMoment_0 N t0 h x1 hJ
end V_X10_atMoment
section V_X10_danger
variable {hz : Hp}
theorem wb_X10_danger_25 (N : Nat) (t0 : Nat) (h : Hp) (y0 : Option Nat) (y1 : Int32) (hJ : B_X10_danger_25 N t0 h y0 y1 = some (hz, ())) : Fw h hz := by
  unfold B_X10_danger_25 at hJ
  obtain ⟨a1, ea1, -, hJ⟩ := dr_some hJ
  obtain ⟨rfl, -⟩ := rs2 hJ
  exact (Fw.rf h)
theorem wb_X10_danger_22 (N : Nat) (t0 : Nat) (h : Hp) (y0 : Option Nat) (y1 : Option Nat) (y2 : Int32) (hJ : B_X10_danger_22 N t0 h y0 y1 y2 = some (hz, ())) : Fw h hz := by
  unfold B_X10_danger_22 at hJ
  obtain ⟨a2, ea2, -, hJ⟩ := dr_some hJ
  obtain ⟨⟨h3, r4⟩, e5, hJ⟩ := ob_some hJ
  exact (wo_X10_atMoment N a2 h y2 e5).tr (wb_X10_danger_25 N t0 _ _ _ hJ)
theorem wb_X10_danger_0 (N : Nat) (t0 : Nat) (h : Hp) (x1 : Int32) (x2 : Int32) (hJ : B_X10_danger_0 N t0 h x1 x2 = some (hz, ())) : Fw h hz := by
  unfold B_X10_danger_0 at hJ
  obtain ⟨⟨h7, r8⟩, e9, hJ⟩ := ob_some hJ
  exact (Fw.tr (show Fw h (((h.sgi 1347 t0 (2 : Int32)).sgi 1348 t0 x1).sgi 1349 t0 x2) from (Fw.rf h)) ((wo_X10_outOf N t0 (((h.sgi 1347 t0 (2 : Int32)).sgi 1348 t0 x1).sgi 1349 t0 x2) x2 e9).tr (wb_X10_danger_22 N t0 _ _ _ _ hJ)))
theorem wo_X10_danger (N : Nat) (t0 : Nat) (h : Hp) (x1 : Int32) (x2 : Int32) (hJ : J_X10_danger N t0 h x1 x2 = some (hz, ())) : Fw h hz := wb_X10_danger_0 N t0 h x1 x2 hJ
end V_X10_danger
section V_X10_ends
variable {hz : Hp}
theorem wb_X10_ends_21 (N : Nat) (t0 : Nat) (h : Hp) (hJ : B_X10_ends_21 N t0 h = some (hz, ())) : Fw h hz := by
  unfold B_X10_ends_21 at hJ
  obtain ⟨rfl, -⟩ := rs2 hJ
  exact (Fw.rf h)
theorem wb_X10_ends_0 (N : Nat) (t0 : Nat) (h : Hp) (x1 : Int32) (x2 : Int32) (hJ : B_X10_ends_0 N t0 h x1 x2 = some (hz, ())) : Fw h hz := by
  unfold B_X10_ends_0 at hJ
  obtain ⟨a1, ea1, -, hJ⟩ := dr_some hJ
  obtain ⟨-, hJ⟩ := ck_some hJ
  obtain ⟨a3, ea3, -, hJ⟩ := dr_some hJ
  obtain ⟨-, hJ⟩ := ck_some hJ
  obtain ⟨⟨h5, r6⟩, e7, hJ⟩ := ob_some hJ
  exact (Fw.tr (show Fw h ((h.sbi a1 x1.toNatClampNeg x2).sbi a3 x1.toNatClampNeg ((h.sbi a1 x1.toNatClampNeg x2).gi 1313 t0)) from (Fw.rf h)) ((wo_X10_judge N t0 ((h.sbi a1 x1.toNatClampNeg x2).sbi a3 x1.toNatClampNeg ((h.sbi a1 x1.toNatClampNeg x2).gi 1313 t0)) e7).tr (wb_X10_ends_21 N t0 _ hJ)))
theorem wo_X10_ends (N : Nat) (t0 : Nat) (h : Hp) (x1 : Int32) (x2 : Int32) (hJ : J_X10_ends N t0 h x1 x2 = some (hz, ())) : Fw h hz := wb_X10_ends_0 N t0 h x1 x2 hJ
end V_X10_ends
section V_X10_gatherKeys
variable {hz : Hp}
theorem wb_X10_gatherKeys_59 (N : Nat) (k7 : Hp → Int32 → Option (Hp × Unit)) (k25 : Hp → Int32 → Int32 → Int32 → Int32 → Option (Hp × Unit)) (t0 : Nat) (h : Hp) (x1 : Int32) (x2 : Int32) (x4 : Int32) (y0 : Int32) (m7 : ∀ (h : Hp) (x1 : Int32), k7 h x1 = some (hz, ()) → Fw h hz) (m25 : ∀ (h : Hp) (x1 : Int32) (x2 : Int32) (x3 : Int32) (x4 : Int32), k25 h x1 x2 x3 x4 = some (hz, ()) → Fw h hz) (hJ : B_X10_gatherKeys_59 N k7 k25 t0 h x1 x2 x4 y0 = some (hz, ())) : Fw h hz := by
  unfold B_X10_gatherKeys_59 at hJ
  exact m25 _ _ _ _ _ hJ
theorem wb_X10_gatherKeys_54 (N : Nat) (k7 : Hp → Int32 → Option (Hp × Unit)) (k25 : Hp → Int32 → Int32 → Int32 → Int32 → Option (Hp × Unit)) (t0 : Nat) (h : Hp) (x1 : Int32) (x2 : Int32) (x4 : Int32) (m7 : ∀ (h : Hp) (x1 : Int32), k7 h x1 = some (hz, ()) → Fw h hz) (m25 : ∀ (h : Hp) (x1 : Int32) (x2 : Int32) (x3 : Int32) (x4 : Int32), k25 h x1 x2 x3 x4 = some (hz, ()) → Fw h hz) (hJ : B_X10_gatherKeys_54 N k7 k25 t0 h x1 x2 x4 = some (hz, ())) : Fw h hz := by
  unfold B_X10_gatherKeys_54 at hJ
  exact wb_X10_gatherKeys_59 N k7 k25 t0 _ _ _ _ _ m7 m25 hJ
theorem wb_X10_gatherKeys_136 (N : Nat) (k7 : Hp → Int32 → Option (Hp × Unit)) (t0 : Nat) (h : Hp) (x1 : Int32) (m7 : ∀ (h : Hp) (x1 : Int32), k7 h x1 = some (hz, ()) → Fw h hz) (hJ : B_X10_gatherKeys_136 N k7 t0 h x1 = some (hz, ())) : Fw h hz := by
  unfold B_X10_gatherKeys_136 at hJ
  exact m7 _ _ hJ
theorem wb_X10_gatherKeys_114 (N : Nat) (k7 : Hp → Int32 → Option (Hp × Unit)) (t0 : Nat) (h : Hp) (x1 : Int32) (x2 : Int32) (m7 : ∀ (h : Hp) (x1 : Int32), k7 h x1 = some (hz, ()) → Fw h hz) (hJ : B_X10_gatherKeys_114 N k7 t0 h x1 x2 = some (hz, ())) : Fw h hz := by
  unfold B_X10_gatherKeys_114 at hJ
  obtain ⟨a1, ea1, -, hJ⟩ := dr_some hJ
  obtain ⟨-, hJ⟩ := ck_some hJ
  obtain ⟨a3, ea3, -, hJ⟩ := dr_some hJ
  obtain ⟨-, hJ⟩ := ck_some hJ
  exact (Fw.tr (show Fw h ((h.sbi a3 x2.toNatClampNeg (h.bi a1 x1.toNatClampNeg)).sgi 1353 t0 (((h.sbi a3 x2.toNatClampNeg (h.bi a1 x1.toNatClampNeg)).gi 1353 t0) + (1 : Int32))) from (Fw.rf h)) (wb_X10_gatherKeys_136 N k7 t0 _ _ m7 hJ))
theorem wb_X10_gatherKeys_73 (N : Nat) (k7 : Hp → Int32 → Option (Hp × Unit)) (k73 : Hp → Int32 → Int32 → Option (Hp × Unit)) (t0 : Nat) (h : Hp) (x1 : Int32) (x2 : Int32) (m7 : ∀ (h : Hp) (x1 : Int32), k7 h x1 = some (hz, ()) → Fw h hz) (m73 : ∀ (h : Hp) (x1 : Int32) (x2 : Int32), k73 h x1 x2 = some (hz, ()) → Fw h hz) (hJ : B_X10_gatherKeys_73 N k7 k73 t0 h x1 x2 = some (hz, ())) : Fw h hz := by
  unfold B_X10_gatherKeys_73 at hJ
  by_cases c5 : x2 ≤ 0
  · have hJ := it_pos c5 hJ
    exact wb_X10_gatherKeys_114 N k7 t0 _ _ _ m7 hJ
  · have hJ := it_neg c5 hJ
    obtain ⟨a6, ea6, -, hJ⟩ := dr_some hJ
    obtain ⟨-, hJ⟩ := ck_some hJ
    obtain ⟨a8, ea8, -, hJ⟩ := dr_some hJ
    obtain ⟨-, hJ⟩ := ck_some hJ
    by_cases c10 : (h.bi a6 (x2 - (1 : Int32)).toNatClampNeg) ≤ (h.bi a8 x1.toNatClampNeg)
    · have hJ := it_pos c10 hJ
      exact wb_X10_gatherKeys_114 N k7 t0 _ _ _ m7 hJ
    · have hJ := it_neg c10 hJ
      obtain ⟨a11, ea11, -, hJ⟩ := dr_some hJ
      obtain ⟨-, hJ⟩ := ck_some hJ
      obtain ⟨-, hJ⟩ := ck_some hJ
      exact (Fw.tr (show Fw h (h.sbi a11 x2.toNatClampNeg (h.bi a11 (x2 - (1 : Int32)).toNatClampNeg)) from (Fw.rf h)) (m73 _ _ _ hJ))
theorem wl_X10_gatherKeys_73 (N : Nat) (k7 : Hp → Int32 → Option (Hp × Unit)) (t0 : Nat) (m7 : ∀ (h : Hp) (x1 : Int32), k7 h x1 = some (hz, ()) → Fw h hz) : ∀ (n : Nat) (h : Hp) (x1 : Int32) (x2 : Int32), L_X10_gatherKeys_73 N k7 t0 n h x1 x2 = some (hz, ()) → Fw h hz := by
  intro n
  induction n with
  | zero => intro h x1 x2 hJ; cases hJ
  | succ n ih => intro h x1 x2 hJ; exact wb_X10_gatherKeys_73 N k7 (L_X10_gatherKeys_73 N k7 t0 n) t0 h x1 x2 m7 ih hJ
theorem wb_X10_gatherKeys_25 (N : Nat) (k7 : Hp → Int32 → Option (Hp × Unit)) (k25 : Hp → Int32 → Int32 → Int32 → Int32 → Option (Hp × Unit)) (t0 : Nat) (h : Hp) (x1 : Int32) (x2 : Int32) (x3 : Int32) (x4 : Int32) (m7 : ∀ (h : Hp) (x1 : Int32), k7 h x1 = some (hz, ()) → Fw h hz) (m25 : ∀ (h : Hp) (x1 : Int32) (x2 : Int32) (x3 : Int32) (x4 : Int32), k25 h x1 x2 x3 x4 = some (hz, ()) → Fw h hz) (hJ : B_X10_gatherKeys_25 N k7 k25 t0 h x1 x2 x3 x4 = some (hz, ())) : Fw h hz := by
  unfold B_X10_gatherKeys_25 at hJ
  by_cases c14 : (h.gi 1353 t0) ≤ x4
  · have hJ := it_pos c14 hJ
    by_cases c15 : x3 = 0
    · have hJ := it_pos c15 hJ
      exact wl_X10_gatherKeys_73 N k7 t0 m7 N _ _ _ hJ
    · have hJ := it_neg c15 hJ
      exact wb_X10_gatherKeys_136 N k7 t0 _ _ m7 hJ
  · have hJ := it_neg c14 hJ
    by_cases c16 : x3 = 0
    · have hJ := it_pos c16 hJ
      obtain ⟨a17, ea17, -, hJ⟩ := dr_some hJ
      obtain ⟨-, hJ⟩ := ck_some hJ
      obtain ⟨a19, ea19, -, hJ⟩ := dr_some hJ
      obtain ⟨-, hJ⟩ := ck_some hJ
      by_cases c21 : (h.bi a17 x4.toNatClampNeg) = (h.bi a19 x1.toNatClampNeg)
      · have hJ := it_pos c21 hJ
        exact wb_X10_gatherKeys_54 N k7 k25 t0 _ _ _ _ m7 m25 hJ
      · have hJ := it_neg c21 hJ
        exact wb_X10_gatherKeys_59 N k7 k25 t0 _ _ _ _ _ m7 m25 hJ
    · have hJ := it_neg c16 hJ
      exact wb_X10_gatherKeys_54 N k7 k25 t0 _ _ _ _ m7 m25 hJ
theorem wl_X10_gatherKeys_25 (N : Nat) (k7 : Hp → Int32 → Option (Hp × Unit)) (t0 : Nat) (m7 : ∀ (h : Hp) (x1 : Int32), k7 h x1 = some (hz, ()) → Fw h hz) : ∀ (n : Nat) (h : Hp) (x1 : Int32) (x2 : Int32) (x3 : Int32) (x4 : Int32), L_X10_gatherKeys_25 N k7 t0 n h x1 x2 x3 x4 = some (hz, ()) → Fw h hz := by
  intro n
  induction n with
  | zero => intro h x1 x2 x3 x4 hJ; cases hJ
  | succ n ih => intro h x1 x2 x3 x4 hJ; exact wb_X10_gatherKeys_25 N k7 (L_X10_gatherKeys_25 N k7 t0 n) t0 h x1 x2 x3 x4 m7 ih hJ
theorem wb_X10_gatherKeys_7 (N : Nat) (k7 : Hp → Int32 → Option (Hp × Unit)) (t0 : Nat) (h : Hp) (x1 : Int32) (m7 : ∀ (h : Hp) (x1 : Int32), k7 h x1 = some (hz, ()) → Fw h hz) (hJ : B_X10_gatherKeys_7 N k7 t0 h x1 = some (hz, ())) : Fw h hz := by
  unfold B_X10_gatherKeys_7 at hJ
  by_cases c22 : (h.gi 1319 t0) ≤ x1
  · have hJ := it_pos c22 hJ
    obtain ⟨rfl, -⟩ := rs2 hJ
    exact (Fw.rf h)
  · have hJ := it_neg c22 hJ
    exact wl_X10_gatherKeys_25 N k7 t0 m7 N _ _ _ _ _ hJ
theorem wl_X10_gatherKeys_7 (N : Nat) (t0 : Nat) : ∀ (n : Nat) (h : Hp) (x1 : Int32), L_X10_gatherKeys_7 N t0 n h x1 = some (hz, ()) → Fw h hz := by
  intro n
  induction n with
  | zero => intro h x1 hJ; cases hJ
  | succ n ih => intro h x1 hJ; exact wb_X10_gatherKeys_7 N (L_X10_gatherKeys_7 N t0 n) t0 h x1 ih hJ
theorem wb_X10_gatherKeys_0 (N : Nat) (t0 : Nat) (h : Hp) (hJ : B_X10_gatherKeys_0 N t0 h = some (hz, ())) : Fw h hz := by
  unfold B_X10_gatherKeys_0 at hJ
  exact (Fw.tr (show Fw h (h.sgi 1353 t0 (0 : Int32)) from (Fw.rf h)) (wl_X10_gatherKeys_7 N t0 N _ _ hJ))
theorem wo_X10_gatherKeys (N : Nat) (t0 : Nat) (h : Hp) (hJ : J_X10_gatherKeys N t0 h = some (hz, ())) : Fw h hz := wb_X10_gatherKeys_0 N t0 h hJ
end V_X10_gatherKeys
section V_X10_isIdle
variable {hz : Hp} {rz : Int32}
theorem wb_X10_isIdle_44 (N : Nat) (t0 : Nat) (h : Hp) (y0 : Int32) (hJ : B_X10_isIdle_44 N t0 h y0 = some (hz, rz)) : Fw h hz := by
  unfold B_X10_isIdle_44 at hJ
  obtain ⟨-, hJ⟩ := ck_some hJ
  obtain ⟨rfl, -⟩ := rs2 hJ
  exact (Fw.rf h)
theorem wb_X10_isIdle_29 (N : Nat) (t0 : Nat) (h : Hp) (y0 : Option Nat) (y1 : Int32) (hJ : B_X10_isIdle_29 N t0 h y0 y1 = some (hz, rz)) : Fw h hz := by
  unfold B_X10_isIdle_29 at hJ
  obtain ⟨a2, ea2, -, hJ⟩ := dr_some hJ
  by_cases c3 : ((h.sgi 1300 a2 y1).gi 1300 t0) ≤ 0
  · have hJ := it_pos c3 hJ
    exact (Fw.tr (show Fw h (h.sgi 1300 a2 y1) from (Fw.rf h)) (wb_X10_isIdle_44 N t0 _ _ hJ))
  · have hJ := it_neg c3 hJ
    exact (Fw.tr (show Fw h (h.sgi 1300 a2 y1) from (Fw.rf h)) (wb_X10_isIdle_44 N t0 _ _ hJ))
theorem wb_X10_isIdle_24 (N : Nat) (t0 : Nat) (h : Hp) (y0 : Option Nat) (hJ : B_X10_isIdle_24 N t0 h y0 = some (hz, rz)) : Fw h hz := by
  unfold B_X10_isIdle_24 at hJ
  exact wb_X10_isIdle_29 N t0 _ _ _ hJ
theorem wb_X10_isIdle_0 (N : Nat) (t0 : Nat) (h : Hp) (x1 : Int32) (hJ : B_X10_isIdle_0 N t0 h x1 = some (hz, rz)) : Fw h hz := by
  unfold B_X10_isIdle_0 at hJ
  by_cases c4 : x1 < (1 : Int32)
  · have hJ := it_pos c4 hJ
    exact wb_X10_isIdle_24 N t0 _ _ hJ
  · have hJ := it_neg c4 hJ
    by_cases c5 : (h.gi 1311 t0) < x1
    · have hJ := it_pos c5 hJ
      exact wb_X10_isIdle_24 N t0 _ _ hJ
    · have hJ := it_neg c5 hJ
      obtain ⟨a6, ea6, -, hJ⟩ := dr_some hJ
      obtain ⟨-, hJ⟩ := ck_some hJ
      by_cases c8 : (h.bi a6 x1.toNatClampNeg) = (1 : Int32)
      · have hJ := it_pos c8 hJ
        exact wb_X10_isIdle_29 N t0 _ _ _ hJ
      · have hJ := it_neg c8 hJ
        exact wb_X10_isIdle_24 N t0 _ _ hJ
theorem wo_X10_isIdle (N : Nat) (t0 : Nat) (h : Hp) (x1 : Int32) (hJ : J_X10_isIdle N t0 h x1 = some (hz, rz)) : Fw h hz := wb_X10_isIdle_0 N t0 h x1 hJ
end V_X10_isIdle
section V_X10_mayNot
variable {hz : Hp} {rz : Int32}
theorem wb_X10_mayNot_42 (N : Nat) (t0 : Nat) (h : Hp) (y0 : Int32) (hJ : B_X10_mayNot_42 N t0 h y0 = some (hz, rz)) : Fw h hz := by
  unfold B_X10_mayNot_42 at hJ
  obtain ⟨-, hJ⟩ := ck_some hJ
  obtain ⟨rfl, -⟩ := rs2 hJ
  exact (Fw.rf h)
theorem wb_X10_mayNot_41 (N : Nat) (t0 : Nat) (h : Hp) (hJ : B_X10_mayNot_41 N t0 h = some (hz, rz)) : Fw h hz := by
  unfold B_X10_mayNot_41 at hJ
  exact wb_X10_mayNot_42 N t0 _ _ hJ
theorem wb_X10_mayNot_34 (N : Nat) (t0 : Nat) (h : Hp) (y0 : Int32) (y1 : Int32) (hJ : B_X10_mayNot_34 N t0 h y0 y1 = some (hz, rz)) : Fw h hz := by
  unfold B_X10_mayNot_34 at hJ
  by_cases c2 : y1 < y0
  · have hJ := it_pos c2 hJ
    exact wb_X10_mayNot_41 N t0 _ hJ
  · have hJ := it_neg c2 hJ
    exact wb_X10_mayNot_42 N t0 _ _ hJ
theorem wb_X10_mayNot_5 (N : Nat) (t0 : Nat) (h : Hp) (x1 : Int32) (y0 : Int32) (hJ : B_X10_mayNot_5 N t0 h x1 y0 = some (hz, rz)) : Fw h hz := by
  unfold B_X10_mayNot_5 at hJ
  by_cases c3 : y0 = 0
  · have hJ := it_pos c3 hJ
    exact wb_X10_mayNot_41 N t0 _ hJ
  · have hJ := it_neg c3 hJ
    obtain ⟨a4, ea4, -, hJ⟩ := dr_some hJ
    obtain ⟨-, hJ⟩ := ck_some hJ
    by_cases c6 : (h.bi a4 x1.toNatClampNeg) = 0
    · have hJ := it_pos c6 hJ
      obtain ⟨⟨h7, r8⟩, e9, hJ⟩ := ob_some hJ
      exact (wo_X10_endOf N t0 h x1 e9).tr (wb_X10_mayNot_34 N t0 _ _ _ hJ)
    · have hJ := it_neg c6 hJ
      obtain ⟨a11, ea11, -, hJ⟩ := dr_some hJ
      obtain ⟨-, hJ⟩ := ck_some hJ
      exact wb_X10_mayNot_34 N t0 _ _ _ hJ
theorem wb_X10_mayNot_0 (N : Nat) (t0 : Nat) (h : Hp) (x1 : Int32) (x2 : Int32) (hJ : B_X10_mayNot_0 N t0 h x1 x2 = some (hz, rz)) : Fw h hz := by
  unfold B_X10_mayNot_0 at hJ
  obtain ⟨⟨h13, r14⟩, e15, hJ⟩ := ob_some hJ
  exact (wo_X10_outOf N t0 h x2 e15).tr (wb_X10_mayNot_5 N t0 _ _ _ hJ)
theorem wo_X10_mayNot (N : Nat) (t0 : Nat) (h : Hp) (x1 : Int32) (x2 : Int32) (hJ : J_X10_mayNot N t0 h x1 x2 = some (hz, rz)) : Fw h hz := wb_X10_mayNot_0 N t0 h x1 x2 hJ
end V_X10_mayNot
section V_X10_commit
variable {hz : Hp} {rz : Int32}
theorem wb_X10_commit_34 (N : Nat) (t0 : Nat) (h : Hp) (hJ : B_X10_commit_34 N t0 h = some (hz, rz)) : Fw h hz := by
  unfold B_X10_commit_34 at hJ
  obtain ⟨rfl, -⟩ := rs2 hJ
  exact (Fw.rf h)
theorem wb_X10_commit_173 (N : Nat) (k76 : Hp → Int32 → Int32 → Int32 → Option (Hp × Int32)) (t0 : Nat) (h : Hp) (x1 : Int32) (x2 : Int32) (x3 : Int32) (m76 : ∀ (h : Hp) (x1 : Int32) (x2 : Int32) (x3 : Int32), k76 h x1 x2 x3 = some (hz, rz) → Fw h hz) (hJ : B_X10_commit_173 N k76 t0 h x1 x2 x3 = some (hz, rz)) : Fw h hz := by
  unfold B_X10_commit_173 at hJ
  exact m76 _ _ _ _ hJ
theorem wb_X10_commit_163 (N : Nat) (k76 : Hp → Int32 → Int32 → Int32 → Option (Hp × Int32)) (t0 : Nat) (h : Hp) (x1 : Int32) (x2 : Int32) (x3 : Int32) (m76 : ∀ (h : Hp) (x1 : Int32) (x2 : Int32) (x3 : Int32), k76 h x1 x2 x3 = some (hz, rz) → Fw h hz) (hJ : B_X10_commit_163 N k76 t0 h x1 x2 x3 = some (hz, rz)) : Fw h hz := by
  unfold B_X10_commit_163 at hJ
  exact (Fw.tr (show Fw h (h.sgi 1328 t0 ((h.gi 1328 t0) + (1 : Int32))) from (Fw.rf h)) (wb_X10_commit_173 N k76 t0 _ _ _ _ m76 hJ))
theorem wb_X10_commit_95 (N : Nat) (k76 : Hp → Int32 → Int32 → Int32 → Option (Hp × Int32)) (t0 : Nat) (h : Hp) (x1 : Int32) (x2 : Int32) (x3 : Int32) (y0 : Int32) (m76 : ∀ (h : Hp) (x1 : Int32) (x2 : Int32) (x3 : Int32), k76 h x1 x2 x3 = some (hz, rz) → Fw h hz) (hJ : B_X10_commit_95 N k76 t0 h x1 x2 x3 y0 = some (hz, rz)) : Fw h hz := by
  unfold B_X10_commit_95 at hJ
  by_cases c1 : y0 = (-1 : Int32)
  · have hJ := it_pos c1 hJ
    exact wb_X10_commit_173 N k76 t0 _ _ _ _ m76 hJ
  · have hJ := it_neg c1 hJ
    obtain ⟨a2, ea2, -, hJ⟩ := dr_some hJ
    obtain ⟨-, hJ⟩ := ck_some hJ
    obtain ⟨a4, ea4, -, hJ⟩ := dr_some hJ
    obtain ⟨-, hJ⟩ := ck_some hJ
    obtain ⟨a6, ea6, -, hJ⟩ := dr_some hJ
    obtain ⟨-, hJ⟩ := ck_some hJ
    obtain ⟨a8, ea8, -, hJ⟩ := dr_some hJ
    obtain ⟨-, hJ⟩ := ck_some hJ
    obtain ⟨a10, ea10, -, hJ⟩ := dr_some hJ
    obtain ⟨-, hJ⟩ := ck_some hJ
    obtain ⟨a12, ea12, -, hJ⟩ := dr_some hJ
    obtain ⟨-, hJ⟩ := ck_some hJ
    obtain ⟨a14, ea14, -, hJ⟩ := dr_some hJ
    obtain ⟨-, hJ⟩ := ck_some hJ
    obtain ⟨-, hJ⟩ := ck_some hJ
    exact (Fw.tr (show Fw h ((((h.sbi a4 (h.gi 1328 t0).toNatClampNeg (h.bi a2 x3.toNatClampNeg)).sbi a6 ((h.sbi a4 (h.gi 1328 t0).toNatClampNeg (h.bi a2 x3.toNatClampNeg)).gi 1328 t0).toNatClampNeg x1).sbw a10 (((h.sbi a4 (h.gi 1328 t0).toNatClampNeg (h.bi a2 x3.toNatClampNeg)).sbi a6 ((h.sbi a4 (h.gi 1328 t0).toNatClampNeg (h.bi a2 x3.toNatClampNeg)).gi 1328 t0).toNatClampNeg x1).gi 1328 t0).toNatClampNeg (((h.sbi a4 (h.gi 1328 t0).toNatClampNeg (h.bi a2 x3.toNatClampNeg)).sbi a6 ((h.sbi a4 (h.gi 1328 t0).toNatClampNeg (h.bi a2 x3.toNatClampNeg)).gi 1328 t0).toNatClampNeg x1).bw a8 y0.toNatClampNeg)).sbi a14 ((((h.sbi a4 (h.gi 1328 t0).toNatClampNeg (h.bi a2 x3.toNatClampNeg)).sbi a6 ((h.sbi a4 (h.gi 1328 t0).toNatClampNeg (h.bi a2 x3.toNatClampNeg)).gi 1328 t0).toNatClampNeg x1).sbw a10 (((h.sbi a4 (h.gi 1328 t0).toNatClampNeg (h.bi a2 x3.toNatClampNeg)).sbi a6 ((h.sbi a4 (h.gi 1328 t0).toNatClampNeg (h.bi a2 x3.toNatClampNeg)).gi 1328 t0).toNatClampNeg x1).gi 1328 t0).toNatClampNeg (((h.sbi a4 (h.gi 1328 t0).toNatClampNeg (h.bi a2 x3.toNatClampNeg)).sbi a6 ((h.sbi a4 (h.gi 1328 t0).toNatClampNeg (h.bi a2 x3.toNatClampNeg)).gi 1328 t0).toNatClampNeg x1).bw a8 y0.toNatClampNeg)).gi 1328 t0).toNatClampNeg ((((h.sbi a4 (h.gi 1328 t0).toNatClampNeg (h.bi a2 x3.toNatClampNeg)).sbi a6 ((h.sbi a4 (h.gi 1328 t0).toNatClampNeg (h.bi a2 x3.toNatClampNeg)).gi 1328 t0).toNatClampNeg x1).sbw a10 (((h.sbi a4 (h.gi 1328 t0).toNatClampNeg (h.bi a2 x3.toNatClampNeg)).sbi a6 ((h.sbi a4 (h.gi 1328 t0).toNatClampNeg (h.bi a2 x3.toNatClampNeg)).gi 1328 t0).toNatClampNeg x1).gi 1328 t0).toNatClampNeg (((h.sbi a4 (h.gi 1328 t0).toNatClampNeg (h.bi a2 x3.toNatClampNeg)).sbi a6 ((h.sbi a4 (h.gi 1328 t0).toNatClampNeg (h.bi a2 x3.toNatClampNeg)).gi 1328 t0).toNatClampNeg x1).bw a8 y0.toNatClampNeg)).bi a12 y0.toNatClampNeg)) from (Fw.rf h)) (wb_X10_commit_163 N k76 t0 _ _ _ _ m76 hJ))
theorem wb_X10_commit_231 (N : Nat) (t0 : Nat) (h : Hp) (hJ : B_X10_commit_231 N t0 h = some (hz, rz)) : Fw h hz := by
  unfold B_X10_commit_231 at hJ
  obtain ⟨rfl, -⟩ := rs2 hJ
  exact (Fw.rf h)
theorem wb_X10_commit_213 (N : Nat) (t0 : Nat) (h : Hp) (x1 : Int32) (x2 : Int32) (hJ : B_X10_commit_213 N t0 h x1 x2 = some (hz, rz)) : Fw h hz := by
  unfold B_X10_commit_213 at hJ
  obtain ⟨a17, ea17, -, hJ⟩ := dr_some hJ
  obtain ⟨-, hJ⟩ := ck_some hJ
  obtain ⟨⟨h19, r20⟩, e21, hJ⟩ := ob_some hJ
  exact (Fw.tr (show Fw h ((h.sgi 1328 t0 x2).sbi a17 x1.toNatClampNeg (0 : Int32)) from (Fw.rf h)) ((wo_X10_ends N t0 ((h.sgi 1328 t0 x2).sbi a17 x1.toNatClampNeg (0 : Int32)) x1 (5 : Int32) e21).tr (wb_X10_commit_231 N t0 _ hJ)))
theorem wb_X10_commit_233 (N : Nat) (k181 : Hp → Int32 → Int32 → Int32 → Option (Hp × Int32)) (t0 : Nat) (h : Hp) (x1 : Int32) (x2 : Int32) (x3 : Int32) (m181 : ∀ (h : Hp) (x1 : Int32) (x2 : Int32) (x3 : Int32), k181 h x1 x2 x3 = some (hz, rz) → Fw h hz) (hJ : B_X10_commit_233 N k181 t0 h x1 x2 x3 = some (hz, rz)) : Fw h hz := by
  unfold B_X10_commit_233 at hJ
  exact m181 _ _ _ _ hJ
theorem wb_X10_commit_204 (N : Nat) (k181 : Hp → Int32 → Int32 → Int32 → Option (Hp × Int32)) (t0 : Nat) (h : Hp) (x1 : Int32) (x2 : Int32) (x3 : Int32) (y0 : Int32) (m181 : ∀ (h : Hp) (x1 : Int32) (x2 : Int32) (x3 : Int32), k181 h x1 x2 x3 = some (hz, rz) → Fw h hz) (hJ : B_X10_commit_204 N k181 t0 h x1 x2 x3 y0 = some (hz, rz)) : Fw h hz := by
  unfold B_X10_commit_204 at hJ
  by_cases c23 : y0 = 0
  · have hJ := it_pos c23 hJ
    exact wb_X10_commit_233 N k181 t0 _ _ _ _ m181 hJ
  · have hJ := it_neg c23 hJ
    obtain ⟨⟨h24, r25⟩, e26, hJ⟩ := ob_some hJ
    exact (wo_X10_danger N t0 h x3 x1 e26).tr (wb_X10_commit_213 N t0 _ _ _ hJ)
theorem wb_X10_commit_195 (N : Nat) (k181 : Hp → Int32 → Int32 → Int32 → Option (Hp × Int32)) (t0 : Nat) (h : Hp) (x1 : Int32) (x2 : Int32) (x3 : Int32) (y0 : Int32) (m181 : ∀ (h : Hp) (x1 : Int32) (x2 : Int32) (x3 : Int32), k181 h x1 x2 x3 = some (hz, rz) → Fw h hz) (hJ : B_X10_commit_195 N k181 t0 h x1 x2 x3 y0 = some (hz, rz)) : Fw h hz := by
  unfold B_X10_commit_195 at hJ
  by_cases c28 : y0 = 0
  · have hJ := it_pos c28 hJ
    exact wb_X10_commit_233 N k181 t0 _ _ _ _ m181 hJ
  · have hJ := it_neg c28 hJ
    obtain ⟨⟨h29, r30⟩, e31, hJ⟩ := ob_some hJ
    exact (wo_X10_mayNot N t0 h x3 x1 e31).tr (wb_X10_commit_204 N k181 t0 _ _ _ _ _ m181 hJ)
theorem wb_X10_commit_277 (N : Nat) (k241 : Hp → Int32 → Int32 → Option (Hp × Int32)) (t0 : Nat) (h : Hp) (x1 : Int32) (x3 : Int32) (y0 : Option Nat) (y1 : Int32) (y2 : Int32) (m241 : ∀ (h : Hp) (x1 : Int32) (x3 : Int32), k241 h x1 x3 = some (hz, rz) → Fw h hz) (hJ : B_X10_commit_277 N k241 t0 h x1 x3 y0 y1 y2 = some (hz, rz)) : Fw h hz := by
  unfold B_X10_commit_277 at hJ
  obtain ⟨a33, ea33, -, hJ⟩ := dr_some hJ
  obtain ⟨-, hJ⟩ := ck_some hJ
  obtain ⟨-, hJ⟩ := ck_some hJ
  exact (Fw.tr (show Fw h (h.sbi a33 y1.toNatClampNeg y2) from (Fw.rf h)) (m241 _ _ _ hJ))
theorem wb_X10_commit_272 (N : Nat) (k241 : Hp → Int32 → Int32 → Option (Hp × Int32)) (t0 : Nat) (h : Hp) (x1 : Int32) (x3 : Int32) (y0 : Option Nat) (y1 : Int32) (m241 : ∀ (h : Hp) (x1 : Int32) (x3 : Int32), k241 h x1 x3 = some (hz, rz) → Fw h hz) (hJ : B_X10_commit_272 N k241 t0 h x1 x3 y0 y1 = some (hz, rz)) : Fw h hz := by
  unfold B_X10_commit_272 at hJ
  exact wb_X10_commit_277 N k241 t0 _ _ _ _ _ _ m241 hJ
theorem wb_X10_commit_269 (N : Nat) (k241 : Hp → Int32 → Int32 → Option (Hp × Int32)) (t0 : Nat) (h : Hp) (x1 : Int32) (x3 : Int32) (y0 : Option Nat) (y1 : Int32) (y2 : Int32) (m241 : ∀ (h : Hp) (x1 : Int32) (x3 : Int32), k241 h x1 x3 = some (hz, rz) → Fw h hz) (hJ : B_X10_commit_269 N k241 t0 h x1 x3 y0 y1 y2 = some (hz, rz)) : Fw h hz := by
  unfold B_X10_commit_269 at hJ
  by_cases c36 : y2 = 0
  · have hJ := it_pos c36 hJ
    exact wb_X10_commit_277 N k241 t0 _ _ _ _ _ _ m241 hJ
  · have hJ := it_neg c36 hJ
    exact wb_X10_commit_272 N k241 t0 _ _ _ _ _ m241 hJ
theorem wb_X10_commit_298 (N : Nat) (t0 : Nat) (h : Hp) (hJ : B_X10_commit_298 N t0 h = some (hz, rz)) : Fw h hz := by
  unfold B_X10_commit_298 at hJ
  obtain ⟨rfl, -⟩ := rs2 hJ
  exact (Fw.rf h)
theorem wb_X10_commit_241 (N : Nat) (k241 : Hp → Int32 → Int32 → Option (Hp × Int32)) (t0 : Nat) (h : Hp) (x1 : Int32) (x3 : Int32) (m241 : ∀ (h : Hp) (x1 : Int32) (x3 : Int32), k241 h x1 x3 = some (hz, rz) → Fw h hz) (hJ : B_X10_commit_241 N k241 t0 h x1 x3 = some (hz, rz)) : Fw h hz := by
  unfold B_X10_commit_241 at hJ
  by_cases c37 : (h.gi 1311 t0) < x3
  · have hJ := it_pos c37 hJ
    obtain ⟨⟨h38, r39⟩, e40, hJ⟩ := ob_some hJ
    exact (Fw.tr (show Fw h (h.sgi 1312 t0 ((h.gi 1312 t0) + (1 : Int32))) from (Fw.rf h)) ((wo_X10_judge N t0 (h.sgi 1312 t0 ((h.gi 1312 t0) + (1 : Int32))) e40).tr (wb_X10_commit_298 N t0 _ hJ)))
  · have hJ := it_neg c37 hJ
    obtain ⟨a42, ea42, -, hJ⟩ := dr_some hJ
    obtain ⟨-, hJ⟩ := ck_some hJ
    by_cases c44 : (h.bi a42 x1.toNatClampNeg) = 0
    · have hJ := it_pos c44 hJ
      obtain ⟨⟨h45, r46⟩, e47, hJ⟩ := ob_some hJ
      exact (wo_X10_precedes N t0 h x3 x1 e47).tr (wb_X10_commit_269 N k241 t0 _ _ _ _ _ _ m241 hJ)
    · have hJ := it_neg c44 hJ
      exact wb_X10_commit_272 N k241 t0 _ _ _ _ _ m241 hJ
theorem wl_X10_commit_241 (N : Nat) (t0 : Nat) : ∀ (n : Nat) (h : Hp) (x1 : Int32) (x3 : Int32), L_X10_commit_241 N t0 n h x1 x3 = some (hz, rz) → Fw h hz := by
  intro n
  induction n with
  | zero => intro h x1 x3 hJ; cases hJ
  | succ n ih => intro h x1 x3 hJ; exact wb_X10_commit_241 N (L_X10_commit_241 N t0 n) t0 h x1 x3 ih hJ
theorem wb_X10_commit_181 (N : Nat) (k181 : Hp → Int32 → Int32 → Int32 → Option (Hp × Int32)) (t0 : Nat) (h : Hp) (x1 : Int32) (x2 : Int32) (x3 : Int32) (m181 : ∀ (h : Hp) (x1 : Int32) (x2 : Int32) (x3 : Int32), k181 h x1 x2 x3 = some (hz, rz) → Fw h hz) (hJ : B_X10_commit_181 N k181 t0 h x1 x2 x3 = some (hz, rz)) : Fw h hz := by
  unfold B_X10_commit_181 at hJ
  by_cases c49 : (h.gi 1311 t0) < x3
  · have hJ := it_pos c49 hJ
    exact wl_X10_commit_241 N t0 N _ _ _ hJ
  · have hJ := it_neg c49 hJ
    obtain ⟨⟨h50, r51⟩, e52, hJ⟩ := ob_some hJ
    exact (wo_X10_precedes N t0 h x3 x1 e52).tr (wb_X10_commit_195 N k181 t0 _ _ _ _ _ m181 hJ)
theorem wl_X10_commit_181 (N : Nat) (t0 : Nat) : ∀ (n : Nat) (h : Hp) (x1 : Int32) (x2 : Int32) (x3 : Int32), L_X10_commit_181 N t0 n h x1 x2 x3 = some (hz, rz) → Fw h hz := by
  intro n
  induction n with
  | zero => intro h x1 x2 x3 hJ; cases hJ
  | succ n ih => intro h x1 x2 x3 hJ; exact wb_X10_commit_181 N (L_X10_commit_181 N t0 n) t0 h x1 x2 x3 ih hJ
theorem wb_X10_commit_76 (N : Nat) (k76 : Hp → Int32 → Int32 → Int32 → Option (Hp × Int32)) (t0 : Nat) (h : Hp) (x1 : Int32) (x2 : Int32) (x3 : Int32) (m76 : ∀ (h : Hp) (x1 : Int32) (x2 : Int32) (x3 : Int32), k76 h x1 x2 x3 = some (hz, rz) → Fw h hz) (hJ : B_X10_commit_76 N k76 t0 h x1 x2 x3 = some (hz, rz)) : Fw h hz := by
  unfold B_X10_commit_76 at hJ
  by_cases c54 : (h.gi 1353 t0) ≤ x3
  · have hJ := it_pos c54 hJ
    exact wl_X10_commit_181 N t0 N _ _ _ _ hJ
  · have hJ := it_neg c54 hJ
    obtain ⟨a55, ea55, -, hJ⟩ := dr_some hJ
    obtain ⟨-, hJ⟩ := ck_some hJ
    obtain ⟨⟨h57, r58⟩, e59, hJ⟩ := ob_some hJ
    exact (wo_X10_ownOf N t0 h x1 (h.bi a55 x3.toNatClampNeg) e59).tr (wb_X10_commit_95 N k76 t0 _ _ _ _ _ m76 hJ)
theorem wl_X10_commit_76 (N : Nat) (t0 : Nat) : ∀ (n : Nat) (h : Hp) (x1 : Int32) (x2 : Int32) (x3 : Int32), L_X10_commit_76 N t0 n h x1 x2 x3 = some (hz, rz) → Fw h hz := by
  intro n
  induction n with
  | zero => intro h x1 x2 x3 hJ; cases hJ
  | succ n ih => intro h x1 x2 x3 hJ; exact wb_X10_commit_76 N (L_X10_commit_76 N t0 n) t0 h x1 x2 x3 ih hJ
theorem wb_X10_commit_74 (N : Nat) (t0 : Nat) (h : Hp) (x1 : Int32) (x2 : Int32) (hJ : B_X10_commit_74 N t0 h x1 x2 = some (hz, rz)) : Fw h hz := by
  unfold B_X10_commit_74 at hJ
  exact wl_X10_commit_76 N t0 N _ _ _ _ hJ
theorem wb_X10_commit_25 (N : Nat) (t0 : Nat) (h : Hp) (x1 : Int32) (y0 : Int32) (hJ : B_X10_commit_25 N t0 h x1 y0 = some (hz, rz)) : Fw h hz := by
  unfold B_X10_commit_25 at hJ
  by_cases c61 : y0 = 0
  · have hJ := it_pos c61 hJ
    obtain ⟨a62, ea62, -, hJ⟩ := dr_some hJ
    obtain ⟨-, hJ⟩ := ck_some hJ
    obtain ⟨a64, ea64, -, hJ⟩ := dr_some hJ
    obtain ⟨-, hJ⟩ := ck_some hJ
    obtain ⟨a66, ea66, -, hJ⟩ := dr_some hJ
    obtain ⟨-, hJ⟩ := ck_some hJ
    obtain ⟨⟨h68, r69⟩, e70, hJ⟩ := ob_some hJ
    exact (Fw.tr (show Fw h (((h.sbi a62 x1.toNatClampNeg (2 : Int32)).sbi a64 x1.toNatClampNeg (((h.sbi a62 x1.toNatClampNeg (2 : Int32)).gi 1312 t0) + (1 : Int32))).sbi a66 x1.toNatClampNeg (((h.sbi a62 x1.toNatClampNeg (2 : Int32)).sbi a64 x1.toNatClampNeg (((h.sbi a62 x1.toNatClampNeg (2 : Int32)).gi 1312 t0) + (1 : Int32))).gi 1313 t0)) from (Fw.rf h)) ((wo_X10_gatherKeys N t0 (((h.sbi a62 x1.toNatClampNeg (2 : Int32)).sbi a64 x1.toNatClampNeg (((h.sbi a62 x1.toNatClampNeg (2 : Int32)).gi 1312 t0) + (1 : Int32))).sbi a66 x1.toNatClampNeg (((h.sbi a62 x1.toNatClampNeg (2 : Int32)).sbi a64 x1.toNatClampNeg (((h.sbi a62 x1.toNatClampNeg (2 : Int32)).gi 1312 t0) + (1 : Int32))).gi 1313 t0)) e70).tr (wb_X10_commit_74 N t0 _ _ _ hJ)))
  · have hJ := it_neg c61 hJ
    obtain ⟨⟨h72, r73⟩, e74, hJ⟩ := ob_some hJ
    exact (wo_X10_ends N t0 h x1 (4 : Int32) e74).tr (wb_X10_commit_34 N t0 _ hJ)
theorem wb_X10_commit_15 (N : Nat) (t0 : Nat) (h : Hp) (x1 : Int32) (y0 : Int32) (hJ : B_X10_commit_15 N t0 h x1 y0 = some (hz, rz)) : Fw h hz := by
  unfold B_X10_commit_15 at hJ
  by_cases c76 : y0 = 0
  · have hJ := it_pos c76 hJ
    obtain ⟨⟨h77, r78⟩, e79, hJ⟩ := ob_some hJ
    exact (wo_X10_conflicts N t0 h x1 e79).tr (wb_X10_commit_25 N t0 _ _ _ hJ)
  · have hJ := it_neg c76 hJ
    obtain ⟨rfl, -⟩ := rs2 hJ
    exact (Fw.rf h)
theorem wb_X10_commit_0 (N : Nat) (t0 : Nat) (h : Hp) (x1 : Int32) (hJ : B_X10_commit_0 N t0 h x1 = some (hz, rz)) : Fw h hz := by
  unfold B_X10_commit_0 at hJ
  obtain ⟨⟨h81, r82⟩, e83, hJ⟩ := ob_some hJ
  exact (Fw.tr (show Fw h (h.sgi 1313 t0 ((h.gi 1313 t0) + (1 : Int32))) from (Fw.rf h)) ((wo_X10_isIdle N t0 (h.sgi 1313 t0 ((h.gi 1313 t0) + (1 : Int32))) x1 e83).tr (wb_X10_commit_15 N t0 _ _ _ hJ)))
theorem wo_X10_commit (N : Nat) (t0 : Nat) (h : Hp) (x1 : Int32) (hJ : J_X10_commit N t0 h x1 = some (hz, rz)) : Fw h hz := wb_X10_commit_0 N t0 h x1 hJ
end V_X10_commit
