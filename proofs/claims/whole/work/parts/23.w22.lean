section V_X10_isAgain
variable {hz : Hp} {rz : Int32}
theorem wb_X10_isAgain_219 (N : Nat) (t0 : Nat) (h : Hp) (hJ : B_X10_isAgain_219 N t0 h = some (hz, rz)) : Fw h hz := by
  unfold B_X10_isAgain_219 at hJ
  obtain ⟨rfl, -⟩ := rs2 hJ
  exact (Fw.rf h)
theorem wb_X10_isAgain_183 (N : Nat) (t0 : Nat) (h : Hp) (y0 : Option Nat) (y1 : Int32) (y2 : Int32) (hJ : B_X10_isAgain_183 N t0 h y0 y1 y2 = some (hz, rz)) : Fw h hz := by
  unfold B_X10_isAgain_183 at hJ
  obtain ⟨a1, ea1, -, hJ⟩ := dr_some hJ
  obtain ⟨-, hJ⟩ := ck_some hJ
  obtain ⟨-, hJ⟩ := ck_some hJ
  obtain ⟨rfl, -⟩ := rs2 hJ
  exact (Fw.rf h)
theorem wb_X10_isAgain_130 (N : Nat) (t0 : Nat) (h : Hp) (x1 : Int32) (hJ : B_X10_isAgain_130 N t0 h x1 = some (hz, rz)) : Fw h hz := by
  unfold B_X10_isAgain_130 at hJ
  obtain ⟨a4, ea4, -, hJ⟩ := dr_some hJ
  obtain ⟨-, hJ⟩ := ck_some hJ
  obtain ⟨a6, ea6, -, hJ⟩ := dr_some hJ
  obtain ⟨-, hJ⟩ := ck_some hJ
  obtain ⟨a8, ea8, -, hJ⟩ := dr_some hJ
  obtain ⟨-, hJ⟩ := ck_some hJ
  obtain ⟨a10, ea10, -, hJ⟩ := dr_some hJ
  obtain ⟨-, hJ⟩ := ck_some hJ
  obtain ⟨a12, ea12, -, hJ⟩ := dr_some hJ
  obtain ⟨-, hJ⟩ := ck_some hJ
  by_cases c14 : (((h.sbi a6 (h.gi 1363 t0).toNatClampNeg (h.bi a4 x1.toNatClampNeg)).sbw a10 ((h.sbi a6 (h.gi 1363 t0).toNatClampNeg (h.bi a4 x1.toNatClampNeg)).gi 1363 t0).toNatClampNeg ((h.sbi a6 (h.gi 1363 t0).toNatClampNeg (h.bi a4 x1.toNatClampNeg)).bw a8 x1.toNatClampNeg)).bi a12 x1.toNatClampNeg) = (5 : Int32)
  · have hJ := it_pos c14 hJ
    exact (Fw.tr (show Fw h ((h.sbi a6 (h.gi 1363 t0).toNatClampNeg (h.bi a4 x1.toNatClampNeg)).sbw a10 ((h.sbi a6 (h.gi 1363 t0).toNatClampNeg (h.bi a4 x1.toNatClampNeg)).gi 1363 t0).toNatClampNeg ((h.sbi a6 (h.gi 1363 t0).toNatClampNeg (h.bi a4 x1.toNatClampNeg)).bw a8 x1.toNatClampNeg)) from (Fw.rf h)) (wb_X10_isAgain_183 N t0 _ _ _ _ hJ))
  · have hJ := it_neg c14 hJ
    exact (Fw.tr (show Fw h ((h.sbi a6 (h.gi 1363 t0).toNatClampNeg (h.bi a4 x1.toNatClampNeg)).sbw a10 ((h.sbi a6 (h.gi 1363 t0).toNatClampNeg (h.bi a4 x1.toNatClampNeg)).gi 1363 t0).toNatClampNeg ((h.sbi a6 (h.gi 1363 t0).toNatClampNeg (h.bi a4 x1.toNatClampNeg)).bw a8 x1.toNatClampNeg)) from (Fw.rf h)) (wb_X10_isAgain_183 N t0 _ _ _ _ hJ))
theorem wb_X10_isAgain_129 (N : Nat) (t0 : Nat) (h : Hp) (y0 : Int32) (hJ : B_X10_isAgain_129 N t0 h y0 = some (hz, rz)) : Fw h hz := by
  unfold B_X10_isAgain_129 at hJ
  obtain ⟨-, hJ⟩ := ck_some hJ
  obtain ⟨rfl, -⟩ := rs2 hJ
  exact (Fw.rf h)
theorem wb_X10_isAgain_123 (N : Nat) (t0 : Nat) (h : Hp) (y0 : Int32) (hJ : B_X10_isAgain_123 N t0 h y0 = some (hz, rz)) : Fw h hz := by
  unfold B_X10_isAgain_123 at hJ
  obtain ⟨-, hJ⟩ := ck_some hJ
  obtain ⟨rfl, -⟩ := rs2 hJ
  exact (Fw.rf h)
theorem wb_X10_isAgain_116 (N : Nat) (t0 : Nat) (h : Hp) (y0 : Int32) (hJ : B_X10_isAgain_116 N t0 h y0 = some (hz, rz)) : Fw h hz := by
  unfold B_X10_isAgain_116 at hJ
  obtain ⟨-, hJ⟩ := ck_some hJ
  obtain ⟨rfl, -⟩ := rs2 hJ
  exact (Fw.rf h)
theorem wb_X10_isAgain_109 (N : Nat) (t0 : Nat) (h : Hp) (y0 : Int32) (hJ : B_X10_isAgain_109 N t0 h y0 = some (hz, rz)) : Fw h hz := by
  unfold B_X10_isAgain_109 at hJ
  obtain ⟨-, hJ⟩ := ck_some hJ
  obtain ⟨rfl, -⟩ := rs2 hJ
  exact (Fw.rf h)
theorem wb_X10_isAgain_91 (N : Nat) (t0 : Nat) (h : Hp) (hJ : B_X10_isAgain_91 N t0 h = some (hz, rz)) : Fw h hz := by
  unfold B_X10_isAgain_91 at hJ
  exact wb_X10_isAgain_109 N t0 _ _ hJ
theorem wb_X10_isAgain_58 (N : Nat) (t0 : Nat) (h : Hp) (x1 : Int32) (y0 : Int32) (hJ : B_X10_isAgain_58 N t0 h x1 y0 = some (hz, rz)) : Fw h hz := by
  unfold B_X10_isAgain_58 at hJ
  by_cases c19 : y0 = 0
  · have hJ := it_pos c19 hJ
    obtain ⟨a20, ea20, -, hJ⟩ := dr_some hJ
    obtain ⟨-, hJ⟩ := ck_some hJ
    by_cases c22 : (h.bi a20 x1.toNatClampNeg) = 0
    · have hJ := it_pos c22 hJ
      exact wb_X10_isAgain_109 N t0 _ _ hJ
    · have hJ := it_neg c22 hJ
      exact wb_X10_isAgain_109 N t0 _ _ hJ
  · have hJ := it_neg c19 hJ
    obtain ⟨a23, ea23, -, hJ⟩ := dr_some hJ
    obtain ⟨-, hJ⟩ := ck_some hJ
    by_cases c25 : (h.bi a23 x1.toNatClampNeg) = (1 : Int32)
    · have hJ := it_pos c25 hJ
      obtain ⟨a26, ea26, -, hJ⟩ := dr_some hJ
      obtain ⟨-, hJ⟩ := ck_some hJ
      by_cases c28 : (lg_cmp (h.bw a26 x1.toNatClampNeg) (h.gl 1351 t0)) = 0
      · have hJ := it_pos c28 hJ
        exact wb_X10_isAgain_109 N t0 _ _ hJ
      · have hJ := it_neg c28 hJ
        exact wb_X10_isAgain_91 N t0 _ hJ
    · have hJ := it_neg c25 hJ
      exact wb_X10_isAgain_91 N t0 _ hJ
theorem wb_X10_isAgain_0 (N : Nat) (t0 : Nat) (h : Hp) (x1 : Int32) (hJ : B_X10_isAgain_0 N t0 h x1 = some (hz, rz)) : Fw h hz := by
  unfold B_X10_isAgain_0 at hJ
  obtain ⟨a29, ea29, -, hJ⟩ := dr_some hJ
  obtain ⟨-, hJ⟩ := ck_some hJ
  by_cases c31 : (h.bi a29 x1.toNatClampNeg) = (1 : Int32)
  · have hJ := it_pos c31 hJ
    obtain ⟨a32, ea32, -, hJ⟩ := dr_some hJ
    obtain ⟨-, hJ⟩ := ck_some hJ
    obtain ⟨⟨h34, r35⟩, e36, hJ⟩ := ob_some hJ
    exact (wo_X10_hasNow N t0 h (h.bi a32 x1.toNatClampNeg) e36).tr (wb_X10_isAgain_58 N t0 _ _ _ hJ)
  · have hJ := it_neg c31 hJ
    by_cases c38 : (h.bi a29 x1.toNatClampNeg) = (2 : Int32)
    · have hJ := it_pos c38 hJ
      obtain ⟨⟨h39, r40⟩, e41, hJ⟩ := ob_some hJ
      exact (wo_X10_isNearAgain N t0 h x1 (1 : Int32) e41).tr (wb_X10_isAgain_116 N t0 _ _ hJ)
    · have hJ := it_neg c38 hJ
      by_cases c43 : (h.bi a29 x1.toNatClampNeg) = (3 : Int32)
      · have hJ := it_pos c43 hJ
        obtain ⟨⟨h44, r45⟩, e46, hJ⟩ := ob_some hJ
        exact (wo_X10_isNearAgain N t0 h x1 (0 : Int32) e46).tr (wb_X10_isAgain_123 N t0 _ _ hJ)
      · have hJ := it_neg c43 hJ
        by_cases c48 : (h.bi a29 x1.toNatClampNeg) = (4 : Int32)
        · have hJ := it_pos c48 hJ
          obtain ⟨⟨h49, r50⟩, e51, hJ⟩ := ob_some hJ
          exact (wo_X10_isScanAgain N t0 h x1 e51).tr (wb_X10_isAgain_129 N t0 _ _ hJ)
        · have hJ := it_neg c48 hJ
          by_cases c53 : (h.bi a29 x1.toNatClampNeg) = (5 : Int32)
          · have hJ := it_pos c53 hJ
            exact wb_X10_isAgain_130 N t0 _ _ hJ
          · have hJ := it_neg c53 hJ
            by_cases c54 : (h.bi a29 x1.toNatClampNeg) = (6 : Int32)
            · have hJ := it_pos c54 hJ
              exact wb_X10_isAgain_130 N t0 _ _ hJ
            · have hJ := it_neg c54 hJ
              by_cases c55 : (h.bi a29 x1.toNatClampNeg) = (7 : Int32)
              · have hJ := it_pos c55 hJ
                obtain ⟨a56, ea56, -, hJ⟩ := dr_some hJ
                obtain ⟨-, hJ⟩ := ck_some hJ
                exact (Fw.tr (show Fw h ((h.sbi a56 (h.gi 1365 t0).toNatClampNeg (h.gi 1363 t0)).sgi 1365 t0 (((h.sbi a56 (h.gi 1365 t0).toNatClampNeg (h.gi 1363 t0)).gi 1365 t0) + (1 : Int32))) from (Fw.rf h)) (wb_X10_isAgain_219 N t0 _ hJ))
              · have hJ := it_neg c55 hJ
                obtain ⟨a58, ea58, -, hJ⟩ := dr_some hJ
                obtain ⟨-, hJ⟩ := ck_some hJ
                obtain ⟨a60, ea60, -, hJ⟩ := dr_some hJ
                obtain ⟨-, hJ⟩ := ck_some hJ
                obtain ⟨a62, ea62, -, hJ⟩ := dr_some hJ
                obtain ⟨-, hJ⟩ := ck_some hJ
                obtain ⟨rfl, -⟩ := rs2 hJ
                exact (Fw.rf h)
theorem wo_X10_isAgain (N : Nat) (t0 : Nat) (h : Hp) (x1 : Int32) (hJ : J_X10_isAgain N t0 h x1 = some (hz, rz)) : Fw h hz := wb_X10_isAgain_0 N t0 h x1 hJ
end V_X10_isAgain
section V_X10_again
variable {hz : Hp} {rz : Int32}
theorem wb_X10_again_48 (N : Nat) (k14 : Hp → Int32 → Int32 → Int32 → Option (Hp × Int32)) (t0 : Nat) (h : Hp) (x1 : Int32) (x2 : Int32) (x3 : Int32) (m14 : ∀ (h : Hp) (x1 : Int32) (x2 : Int32) (x3 : Int32), k14 h x1 x2 x3 = some (hz, rz) → Fw h hz) (hJ : B_X10_again_48 N k14 t0 h x1 x2 x3 = some (hz, rz)) : Fw h hz := by
  unfold B_X10_again_48 at hJ
  exact m14 _ _ _ _ hJ
theorem wb_X10_again_46 (N : Nat) (k14 : Hp → Int32 → Int32 → Int32 → Option (Hp × Int32)) (t0 : Nat) (h : Hp) (x1 : Int32) (x3 : Int32) (y0 : Int32) (y1 : Int32) (m14 : ∀ (h : Hp) (x1 : Int32) (x2 : Int32) (x3 : Int32), k14 h x1 x2 x3 = some (hz, rz) → Fw h hz) (hJ : B_X10_again_46 N k14 t0 h x1 x3 y0 y1 = some (hz, rz)) : Fw h hz := by
  unfold B_X10_again_46 at hJ
  exact wb_X10_again_48 N k14 t0 _ _ _ _ m14 hJ
theorem wb_X10_again_38 (N : Nat) (k14 : Hp → Int32 → Int32 → Int32 → Option (Hp × Int32)) (t0 : Nat) (h : Hp) (x1 : Int32) (x3 : Int32) (y0 : Int32) (y1 : Int32) (m14 : ∀ (h : Hp) (x1 : Int32) (x2 : Int32) (x3 : Int32), k14 h x1 x2 x3 = some (hz, rz) → Fw h hz) (hJ : B_X10_again_38 N k14 t0 h x1 x3 y0 y1 = some (hz, rz)) : Fw h hz := by
  unfold B_X10_again_38 at hJ
  by_cases c1 : y1 = 0
  · have hJ := it_pos c1 hJ
    exact wb_X10_again_46 N k14 t0 _ _ _ _ _ m14 hJ
  · have hJ := it_neg c1 hJ
    exact wb_X10_again_46 N k14 t0 _ _ _ _ _ m14 hJ
theorem wb_X10_again_74 (N : Nat) (k56 : Hp → Int32 → Int32 → Option (Hp × Int32)) (t0 : Nat) (h : Hp) (x2 : Int32) (x3 : Int32) (y0 : Int32) (m56 : ∀ (h : Hp) (x2 : Int32) (x3 : Int32), k56 h x2 x3 = some (hz, rz) → Fw h hz) (hJ : B_X10_again_74 N k56 t0 h x2 x3 y0 = some (hz, rz)) : Fw h hz := by
  unfold B_X10_again_74 at hJ
  obtain ⟨a2, ea2, -, hJ⟩ := dr_some hJ
  obtain ⟨-, hJ⟩ := ck_some hJ
  obtain ⟨a4, ea4, -, hJ⟩ := dr_some hJ
  obtain ⟨-, hJ⟩ := ck_some hJ
  obtain ⟨-, hJ⟩ := ck_some hJ
  obtain ⟨a7, ea7, -, hJ⟩ := dr_some hJ
  obtain ⟨-, hJ⟩ := ck_some hJ
  obtain ⟨a9, ea9, -, hJ⟩ := dr_some hJ
  obtain ⟨-, hJ⟩ := ck_some hJ
  exact (Fw.tr (show Fw h ((h.sbi a4 y0.toNatClampNeg (h.bi a2 x3.toNatClampNeg)).sbw a9 y0.toNatClampNeg ((h.sbi a4 y0.toNatClampNeg (h.bi a2 x3.toNatClampNeg)).bw a7 x3.toNatClampNeg)) from (Fw.rf h)) (m56 _ _ _ hJ))
theorem wb_X10_again_56 (N : Nat) (k56 : Hp → Int32 → Int32 → Option (Hp × Int32)) (t0 : Nat) (h : Hp) (x2 : Int32) (x3 : Int32) (m56 : ∀ (h : Hp) (x2 : Int32) (x3 : Int32), k56 h x2 x3 = some (hz, rz) → Fw h hz) (hJ : B_X10_again_56 N k56 t0 h x2 x3 = some (hz, rz)) : Fw h hz := by
  unfold B_X10_again_56 at hJ
  by_cases c11 : (h.gi 1363 t0) ≤ x3
  · have hJ := it_pos c11 hJ
    obtain ⟨rfl, -⟩ := rs2 hJ
    exact (Fw.rf h)
  · have hJ := it_neg c11 hJ
    obtain ⟨a12, ea12, -, hJ⟩ := dr_some hJ
    obtain ⟨-, hJ⟩ := ck_some hJ
    obtain ⟨⟨h14, r15⟩, e16, hJ⟩ := ob_some hJ
    exact (wo_X10_keyAt N t0 h (h.bi a12 x3.toNatClampNeg) e16).tr (wb_X10_again_74 N k56 t0 _ _ _ _ m56 hJ)
theorem wl_X10_again_56 (N : Nat) (t0 : Nat) : ∀ (n : Nat) (h : Hp) (x2 : Int32) (x3 : Int32), L_X10_again_56 N t0 n h x2 x3 = some (hz, rz) → Fw h hz := by
  intro n
  induction n with
  | zero => intro h x2 x3 hJ; cases hJ
  | succ n ih => intro h x2 x3 hJ; exact wb_X10_again_56 N (L_X10_again_56 N t0 n) t0 h x2 x3 ih hJ
theorem wb_X10_again_14 (N : Nat) (k14 : Hp → Int32 → Int32 → Int32 → Option (Hp × Int32)) (t0 : Nat) (h : Hp) (x1 : Int32) (x2 : Int32) (x3 : Int32) (m14 : ∀ (h : Hp) (x1 : Int32) (x2 : Int32) (x3 : Int32), k14 h x1 x2 x3 = some (hz, rz) → Fw h hz) (hJ : B_X10_again_14 N k14 t0 h x1 x2 x3 = some (hz, rz)) : Fw h hz := by
  unfold B_X10_again_14 at hJ
  by_cases c18 : (h.gi 1339 t0) ≤ x3
  · have hJ := it_pos c18 hJ
    exact wl_X10_again_56 N t0 N _ _ _ hJ
  · have hJ := it_neg c18 hJ
    obtain ⟨a19, ea19, -, hJ⟩ := dr_some hJ
    obtain ⟨-, hJ⟩ := ck_some hJ
    by_cases c21 : (h.bi a19 x3.toNatClampNeg) = x1
    · have hJ := it_pos c21 hJ
      obtain ⟨⟨h22, r23⟩, e24, hJ⟩ := ob_some hJ
      exact (wo_X10_isAgain N t0 h x3 e24).tr (wb_X10_again_38 N k14 t0 _ _ _ _ _ m14 hJ)
    · have hJ := it_neg c21 hJ
      exact wb_X10_again_48 N k14 t0 _ _ _ _ m14 hJ
theorem wl_X10_again_14 (N : Nat) (t0 : Nat) : ∀ (n : Nat) (h : Hp) (x1 : Int32) (x2 : Int32) (x3 : Int32), L_X10_again_14 N t0 n h x1 x2 x3 = some (hz, rz) → Fw h hz := by
  intro n
  induction n with
  | zero => intro h x1 x2 x3 hJ; cases hJ
  | succ n ih => intro h x1 x2 x3 hJ; exact wb_X10_again_14 N (L_X10_again_14 N t0 n) t0 h x1 x2 x3 ih hJ
theorem wb_X10_again_0 (N : Nat) (t0 : Nat) (h : Hp) (x1 : Int32) (hJ : B_X10_again_0 N t0 h x1 = some (hz, rz)) : Fw h hz := by
  unfold B_X10_again_0 at hJ
  exact (Fw.tr (show Fw h ((h.sgi 1363 t0 (0 : Int32)).sgi 1365 t0 (0 : Int32)) from (Fw.rf h)) (wl_X10_again_14 N t0 N _ _ _ _ hJ))
theorem wo_X10_again (N : Nat) (t0 : Nat) (h : Hp) (x1 : Int32) (hJ : J_X10_again N t0 h x1 = some (hz, rz)) : Fw h hz := wb_X10_again_0 N t0 h x1 hJ
end V_X10_again
section V_X10_joins
variable {hz : Hp}
theorem wb_X10_joins_28 (N : Nat) (t0 : Nat) (h : Hp) (hJ : B_X10_joins_28 N t0 h = some (hz, ())) : Fw h hz := by
  unfold B_X10_joins_28 at hJ
  obtain ⟨rfl, -⟩ := rs2 hJ
  exact (Fw.rf h)
theorem wb_X10_joins_0 (N : Nat) (t0 : Nat) (h : Hp) (x1 : Int32) (x2 : Int32) (hJ : B_X10_joins_0 N t0 h x1 x2 = some (hz, ())) : Fw h hz := by
  unfold B_X10_joins_0 at hJ
  by_cases c1 : x1 = x2
  · have hJ := it_pos c1 hJ
    exact wb_X10_joins_28 N t0 _ hJ
  · have hJ := it_neg c1 hJ
    obtain ⟨a2, ea2, -, hJ⟩ := dr_some hJ
    obtain ⟨-, hJ⟩ := ck_some hJ
    obtain ⟨-, hJ⟩ := ck_some hJ
    exact (Fw.tr (show Fw h (h.sbw a2 (((9 : Int32) * x1) + (x2 >>> ((6 : Int32) &&& 31))).toNatClampNeg ((h.bw a2 (((9 : Int32) * x1) + (x2 >>> ((6 : Int32) &&& 31))).toNatClampNeg) ||| ((1 : Int64) <<< ((x2 &&& (63 : Int32)).toInt64 &&& 63)))) from (Fw.rf h)) (wb_X10_joins_28 N t0 _ hJ))
theorem wo_X10_joins (N : Nat) (t0 : Nat) (h : Hp) (x1 : Int32) (x2 : Int32) (hJ : J_X10_joins N t0 h x1 x2 = some (hz, ())) : Fw h hz := wb_X10_joins_0 N t0 h x1 x2 hJ
end V_X10_joins
section V_X10_lastOf
variable {hz : Hp} {rz : Int32}
theorem wb_X10_lastOf_4 (N : Nat) (k4 : Hp → Int32 → Int32 → Option (Hp × Int32)) (t0 : Nat) (h : Hp) (x1 : Int32) (x2 : Int32) (m4 : ∀ (h : Hp) (x1 : Int32) (x2 : Int32), k4 h x1 x2 = some (hz, rz) → Fw h hz) (hJ : B_X10_lastOf_4 N k4 t0 h x1 x2 = some (hz, rz)) : Fw h hz := by
  unfold B_X10_lastOf_4 at hJ
  by_cases c1 : x2 < 0
  · have hJ := it_pos c1 hJ
    obtain ⟨rfl, -⟩ := rs2 hJ
    exact (Fw.rf h)
  · have hJ := it_neg c1 hJ
    obtain ⟨a2, ea2, -, hJ⟩ := dr_some hJ
    obtain ⟨-, hJ⟩ := ck_some hJ
    obtain ⟨a4, ea4, -, hJ⟩ := dr_some hJ
    obtain ⟨-, hJ⟩ := ck_some hJ
    by_cases c6 : (h.bi a2 x2.toNatClampNeg) = (h.bi a4 x1.toNatClampNeg)
    · have hJ := it_pos c6 hJ
      obtain ⟨rfl, -⟩ := rs2 hJ
      exact (Fw.rf h)
    · have hJ := it_neg c6 hJ
      exact m4 _ _ _ hJ
theorem wl_X10_lastOf_4 (N : Nat) (t0 : Nat) : ∀ (n : Nat) (h : Hp) (x1 : Int32) (x2 : Int32), L_X10_lastOf_4 N t0 n h x1 x2 = some (hz, rz) → Fw h hz := by
  intro n
  induction n with
  | zero => intro h x1 x2 hJ; cases hJ
  | succ n ih => intro h x1 x2 hJ; exact wb_X10_lastOf_4 N (L_X10_lastOf_4 N t0 n) t0 h x1 x2 ih hJ
theorem wb_X10_lastOf_0 (N : Nat) (t0 : Nat) (h : Hp) (x1 : Int32) (hJ : B_X10_lastOf_0 N t0 h x1 = some (hz, rz)) : Fw h hz := by
  unfold B_X10_lastOf_0 at hJ
  exact wl_X10_lastOf_4 N t0 N _ _ _ hJ
theorem wo_X10_lastOf (N : Nat) (t0 : Nat) (h : Hp) (x1 : Int32) (hJ : J_X10_lastOf N t0 h x1 = some (hz, rz)) : Fw h hz := wb_X10_lastOf_0 N t0 h x1 hJ
end V_X10_lastOf
section V_X10_nextOf
variable {hz : Hp} {rz : Int32}
theorem wb_X10_nextOf_4 (N : Nat) (k4 : Hp → Int32 → Int32 → Option (Hp × Int32)) (t0 : Nat) (h : Hp) (x1 : Int32) (x2 : Int32) (m4 : ∀ (h : Hp) (x1 : Int32) (x2 : Int32), k4 h x1 x2 = some (hz, rz) → Fw h hz) (hJ : B_X10_nextOf_4 N k4 t0 h x1 x2 = some (hz, rz)) : Fw h hz := by
  unfold B_X10_nextOf_4 at hJ
  by_cases c1 : (h.gi 1328 t0) ≤ x2
  · have hJ := it_pos c1 hJ
    obtain ⟨rfl, -⟩ := rs2 hJ
    exact (Fw.rf h)
  · have hJ := it_neg c1 hJ
    obtain ⟨a2, ea2, -, hJ⟩ := dr_some hJ
    obtain ⟨-, hJ⟩ := ck_some hJ
    obtain ⟨a4, ea4, -, hJ⟩ := dr_some hJ
    obtain ⟨-, hJ⟩ := ck_some hJ
    by_cases c6 : (h.bi a2 x2.toNatClampNeg) = (h.bi a4 x1.toNatClampNeg)
    · have hJ := it_pos c6 hJ
      obtain ⟨rfl, -⟩ := rs2 hJ
      exact (Fw.rf h)
    · have hJ := it_neg c6 hJ
      exact m4 _ _ _ hJ
theorem wl_X10_nextOf_4 (N : Nat) (t0 : Nat) : ∀ (n : Nat) (h : Hp) (x1 : Int32) (x2 : Int32), L_X10_nextOf_4 N t0 n h x1 x2 = some (hz, rz) → Fw h hz := by
  intro n
  induction n with
  | zero => intro h x1 x2 hJ; cases hJ
  | succ n ih => intro h x1 x2 hJ; exact wb_X10_nextOf_4 N (L_X10_nextOf_4 N t0 n) t0 h x1 x2 ih hJ
theorem wb_X10_nextOf_0 (N : Nat) (t0 : Nat) (h : Hp) (x1 : Int32) (hJ : B_X10_nextOf_0 N t0 h x1 = some (hz, rz)) : Fw h hz := by
  unfold B_X10_nextOf_0 at hJ
  exact wl_X10_nextOf_4 N t0 N _ _ _ hJ
theorem wo_X10_nextOf (N : Nat) (t0 : Nat) (h : Hp) (x1 : Int32) (hJ : J_X10_nextOf N t0 h x1 = some (hz, rz)) : Fw h hz := wb_X10_nextOf_0 N t0 h x1 hJ
end V_X10_nextOf
section V_X10_draw
variable {hz : Hp}
theorem wb_X10_draw_230 (N : Nat) (k26 : Hp → Int32 → Option (Hp × Unit)) (k70 : Hp → Int32 → Int32 → Int32 → Int32 → Option (Hp × Unit)) (t0 : Nat) (h : Hp) (x1 : Int32) (x2 : Int32) (x3 : Int32) (x4 : Int32) (m26 : ∀ (h : Hp) (x1 : Int32), k26 h x1 = some (hz, ()) → Fw h hz) (m70 : ∀ (h : Hp) (x1 : Int32) (x2 : Int32) (x3 : Int32) (x4 : Int32), k70 h x1 x2 x3 x4 = some (hz, ()) → Fw h hz) (hJ : B_X10_draw_230 N k26 k70 t0 h x1 x2 x3 x4 = some (hz, ())) : Fw h hz := by
  unfold B_X10_draw_230 at hJ
  exact m70 _ _ _ _ _ hJ
theorem wb_X10_draw_218 (N : Nat) (k26 : Hp → Int32 → Option (Hp × Unit)) (k70 : Hp → Int32 → Int32 → Int32 → Int32 → Option (Hp × Unit)) (t0 : Nat) (h : Hp) (x1 : Int32) (x2 : Int32) (x3 : Int32) (x4 : Int32) (x5 : Int32) (m26 : ∀ (h : Hp) (x1 : Int32), k26 h x1 = some (hz, ()) → Fw h hz) (m70 : ∀ (h : Hp) (x1 : Int32) (x2 : Int32) (x3 : Int32) (x4 : Int32), k70 h x1 x2 x3 x4 = some (hz, ()) → Fw h hz) (hJ : B_X10_draw_218 N k26 k70 t0 h x1 x2 x3 x4 x5 = some (hz, ())) : Fw h hz := by
  unfold B_X10_draw_218 at hJ
  obtain ⟨a1, ea1, -, hJ⟩ := dr_some hJ
  obtain ⟨-, hJ⟩ := ck_some hJ
  obtain ⟨⟨h3, r4⟩, e5, hJ⟩ := ob_some hJ
  exact (wo_X10_joins N t0 h x5 (h.bi a1 x1.toNatClampNeg) e5).tr (wb_X10_draw_230 N k26 k70 t0 _ _ _ _ _ m26 m70 hJ)
theorem wb_X10_draw_208 (N : Nat) (k26 : Hp → Int32 → Option (Hp × Unit)) (k70 : Hp → Int32 → Int32 → Int32 → Int32 → Option (Hp × Unit)) (t0 : Nat) (h : Hp) (x1 : Int32) (x2 : Int32) (x3 : Int32) (x4 : Int32) (x5 : Int32) (y0 : Int32) (m26 : ∀ (h : Hp) (x1 : Int32), k26 h x1 = some (hz, ()) → Fw h hz) (m70 : ∀ (h : Hp) (x1 : Int32) (x2 : Int32) (x3 : Int32) (x4 : Int32), k70 h x1 x2 x3 x4 = some (hz, ()) → Fw h hz) (hJ : B_X10_draw_208 N k26 k70 t0 h x1 x2 x3 x4 x5 y0 = some (hz, ())) : Fw h hz := by
  unfold B_X10_draw_208 at hJ
  obtain ⟨a7, ea7, -, hJ⟩ := dr_some hJ
  obtain ⟨-, hJ⟩ := ck_some hJ
  by_cases c9 : (h.bi a7 x5.toNatClampNeg) < y0
  · have hJ := it_pos c9 hJ
    exact wb_X10_draw_230 N k26 k70 t0 _ _ _ _ _ m26 m70 hJ
  · have hJ := it_neg c9 hJ
    exact wb_X10_draw_218 N k26 k70 t0 _ _ _ _ _ _ m26 m70 hJ
theorem wb_X10_draw_193 (N : Nat) (k26 : Hp → Int32 → Option (Hp × Unit)) (k70 : Hp → Int32 → Int32 → Int32 → Int32 → Option (Hp × Unit)) (t0 : Nat) (h : Hp) (x1 : Int32) (x2 : Int32) (x3 : Int32) (x4 : Int32) (x5 : Int32) (x6 : Int32) (m26 : ∀ (h : Hp) (x1 : Int32), k26 h x1 = some (hz, ()) → Fw h hz) (m70 : ∀ (h : Hp) (x1 : Int32) (x2 : Int32) (x3 : Int32) (x4 : Int32), k70 h x1 x2 x3 x4 = some (hz, ()) → Fw h hz) (hJ : B_X10_draw_193 N k26 k70 t0 h x1 x2 x3 x4 x5 x6 = some (hz, ())) : Fw h hz := by
  unfold B_X10_draw_193 at hJ
  by_cases c10 : x6 = 0
  · have hJ := it_pos c10 hJ
    by_cases c11 : x3 = (-1 : Int32)
    · have hJ := it_pos c11 hJ
      exact wb_X10_draw_218 N k26 k70 t0 _ _ _ _ _ _ m26 m70 hJ
    · have hJ := it_neg c11 hJ
      obtain ⟨⟨h12, r13⟩, e14, hJ⟩ := ob_some hJ
      exact (wo_X10_momentOf N t0 h x3 e14).tr (wb_X10_draw_208 N k26 k70 t0 _ _ _ _ _ _ _ m26 m70 hJ)
  · have hJ := it_neg c10 hJ
    exact wb_X10_draw_230 N k26 k70 t0 _ _ _ _ _ m26 m70 hJ
theorem wb_X10_draw_181 (N : Nat) (k26 : Hp → Int32 → Option (Hp × Unit)) (k70 : Hp → Int32 → Int32 → Int32 → Int32 → Option (Hp × Unit)) (t0 : Nat) (h : Hp) (x1 : Int32) (x2 : Int32) (x3 : Int32) (x4 : Int32) (x5 : Int32) (x6 : Int32) (m26 : ∀ (h : Hp) (x1 : Int32), k26 h x1 = some (hz, ()) → Fw h hz) (m70 : ∀ (h : Hp) (x1 : Int32) (x2 : Int32) (x3 : Int32) (x4 : Int32), k70 h x1 x2 x3 x4 = some (hz, ()) → Fw h hz) (hJ : B_X10_draw_181 N k26 k70 t0 h x1 x2 x3 x4 x5 x6 = some (hz, ())) : Fw h hz := by
  unfold B_X10_draw_181 at hJ
  obtain ⟨a16, ea16, -, hJ⟩ := dr_some hJ
  obtain ⟨-, hJ⟩ := ck_some hJ
  obtain ⟨⟨h18, r19⟩, e20, hJ⟩ := ob_some hJ
  exact (wo_X10_joins N t0 h (h.bi a16 x1.toNatClampNeg) x5 e20).tr (wb_X10_draw_193 N k26 k70 t0 _ _ _ _ _ _ _ m26 m70 hJ)
theorem wb_X10_draw_171 (N : Nat) (k26 : Hp → Int32 → Option (Hp × Unit)) (k70 : Hp → Int32 → Int32 → Int32 → Int32 → Option (Hp × Unit)) (t0 : Nat) (h : Hp) (x1 : Int32) (x2 : Int32) (x3 : Int32) (x4 : Int32) (x5 : Int32) (x6 : Int32) (y0 : Int32) (m26 : ∀ (h : Hp) (x1 : Int32), k26 h x1 = some (hz, ()) → Fw h hz) (m70 : ∀ (h : Hp) (x1 : Int32) (x2 : Int32) (x3 : Int32) (x4 : Int32), k70 h x1 x2 x3 x4 = some (hz, ()) → Fw h hz) (hJ : B_X10_draw_171 N k26 k70 t0 h x1 x2 x3 x4 x5 x6 y0 = some (hz, ())) : Fw h hz := by
  unfold B_X10_draw_171 at hJ
  obtain ⟨a22, ea22, -, hJ⟩ := dr_some hJ
  obtain ⟨-, hJ⟩ := ck_some hJ
  by_cases c24 : y0 ≤ (h.bi a22 x5.toNatClampNeg)
  · have hJ := it_pos c24 hJ
    exact wb_X10_draw_193 N k26 k70 t0 _ _ _ _ _ _ _ m26 m70 hJ
  · have hJ := it_neg c24 hJ
    exact wb_X10_draw_181 N k26 k70 t0 _ _ _ _ _ _ _ m26 m70 hJ
theorem wb_X10_draw_154 (N : Nat) (k26 : Hp → Int32 → Option (Hp × Unit)) (k70 : Hp → Int32 → Int32 → Int32 → Int32 → Option (Hp × Unit)) (t0 : Nat) (h : Hp) (x1 : Int32) (x2 : Int32) (x3 : Int32) (x4 : Int32) (x5 : Int32) (y0 : Int32) (m26 : ∀ (h : Hp) (x1 : Int32), k26 h x1 = some (hz, ()) → Fw h hz) (m70 : ∀ (h : Hp) (x1 : Int32) (x2 : Int32) (x3 : Int32) (x4 : Int32), k70 h x1 x2 x3 x4 = some (hz, ()) → Fw h hz) (hJ : B_X10_draw_154 N k26 k70 t0 h x1 x2 x3 x4 x5 y0 = some (hz, ())) : Fw h hz := by
  unfold B_X10_draw_154 at hJ
  by_cases c25 : y0 = 0
  · have hJ := it_pos c25 hJ
    exact wb_X10_draw_193 N k26 k70 t0 _ _ _ _ _ _ _ m26 m70 hJ
  · have hJ := it_neg c25 hJ
    by_cases c26 : x2 = (-1 : Int32)
    · have hJ := it_pos c26 hJ
      exact wb_X10_draw_181 N k26 k70 t0 _ _ _ _ _ _ _ m26 m70 hJ
    · have hJ := it_neg c26 hJ
      obtain ⟨⟨h27, r28⟩, e29, hJ⟩ := ob_some hJ
      exact (wo_X10_momentOf N t0 h x2 e29).tr (wb_X10_draw_171 N k26 k70 t0 _ _ _ _ _ _ _ _ m26 m70 hJ)
theorem wb_X10_draw_139 (N : Nat) (k26 : Hp → Int32 → Option (Hp × Unit)) (k70 : Hp → Int32 → Int32 → Int32 → Int32 → Option (Hp × Unit)) (t0 : Nat) (h : Hp) (x1 : Int32) (x2 : Int32) (x3 : Int32) (x4 : Int32) (x5 : Int32) (y0 : Int32) (m26 : ∀ (h : Hp) (x1 : Int32), k26 h x1 = some (hz, ()) → Fw h hz) (m70 : ∀ (h : Hp) (x1 : Int32) (x2 : Int32) (x3 : Int32) (x4 : Int32), k70 h x1 x2 x3 x4 = some (hz, ()) → Fw h hz) (hJ : B_X10_draw_139 N k26 k70 t0 h x1 x2 x3 x4 x5 y0 = some (hz, ())) : Fw h hz := by
  unfold B_X10_draw_139 at hJ
  obtain ⟨a31, ea31, -, hJ⟩ := dr_some hJ
  obtain ⟨-, hJ⟩ := ck_some hJ
  by_cases c33 : (h.bi a31 x5.toNatClampNeg) < y0
  · have hJ := it_pos c33 hJ
    exact wb_X10_draw_154 N k26 k70 t0 _ _ _ _ _ _ _ m26 m70 hJ
  · have hJ := it_neg c33 hJ
    exact wb_X10_draw_154 N k26 k70 t0 _ _ _ _ _ _ _ m26 m70 hJ
theorem wb_X10_draw_70 (N : Nat) (k26 : Hp → Int32 → Option (Hp × Unit)) (k70 : Hp → Int32 → Int32 → Int32 → Int32 → Option (Hp × Unit)) (t0 : Nat) (h : Hp) (x1 : Int32) (x2 : Int32) (x3 : Int32) (x4 : Int32) (m26 : ∀ (h : Hp) (x1 : Int32), k26 h x1 = some (hz, ()) → Fw h hz) (m70 : ∀ (h : Hp) (x1 : Int32) (x2 : Int32) (x3 : Int32) (x4 : Int32), k70 h x1 x2 x3 x4 = some (hz, ()) → Fw h hz) (hJ : B_X10_draw_70 N k26 k70 t0 h x1 x2 x3 x4 = some (hz, ())) : Fw h hz := by
  unfold B_X10_draw_70 at hJ
  by_cases c34 : (h.gi 1323 t0) ≤ x4
  · have hJ := it_pos c34 hJ
    exact m26 _ _ hJ
  · have hJ := it_neg c34 hJ
    obtain ⟨a35, ea35, -, hJ⟩ := dr_some hJ
    obtain ⟨-, hJ⟩ := ck_some hJ
    obtain ⟨a37, ea37, -, hJ⟩ := dr_some hJ
    obtain ⟨-, hJ⟩ := ck_some hJ
    by_cases c39 : (h.bi a37 (h.bi a35 x4.toNatClampNeg).toNatClampNeg) = (2 : Int32)
    · have hJ := it_pos c39 hJ
      obtain ⟨a40, ea40, -, hJ⟩ := dr_some hJ
      obtain ⟨-, hJ⟩ := ck_some hJ
      obtain ⟨a42, ea42, -, hJ⟩ := dr_some hJ
      obtain ⟨-, hJ⟩ := ck_some hJ
      by_cases c44 : (h.bi a40 x1.toNatClampNeg) < (h.bi a42 x4.toNatClampNeg)
      · have hJ := it_pos c44 hJ
        exact wb_X10_draw_230 N k26 k70 t0 _ _ _ _ _ m26 m70 hJ
      · have hJ := it_neg c44 hJ
        obtain ⟨a45, ea45, -, hJ⟩ := dr_some hJ
        obtain ⟨-, hJ⟩ := ck_some hJ
        obtain ⟨a47, ea47, -, hJ⟩ := dr_some hJ
        obtain ⟨-, hJ⟩ := ck_some hJ
        by_cases c49 : (h.bi a45 x1.toNatClampNeg) ≤ (h.bi a47 x4.toNatClampNeg)
        · have hJ := it_pos c49 hJ
          obtain ⟨⟨h50, r51⟩, e52, hJ⟩ := ob_some hJ
          exact (wo_X10_momentOf N t0 h x1 e52).tr (wb_X10_draw_139 N k26 k70 t0 _ _ _ _ _ _ _ m26 m70 hJ)
        · have hJ := it_neg c49 hJ
          exact wb_X10_draw_230 N k26 k70 t0 _ _ _ _ _ m26 m70 hJ
    · have hJ := it_neg c39 hJ
      exact wb_X10_draw_230 N k26 k70 t0 _ _ _ _ _ m26 m70 hJ
theorem wl_X10_draw_70 (N : Nat) (k26 : Hp → Int32 → Option (Hp × Unit)) (t0 : Nat) (m26 : ∀ (h : Hp) (x1 : Int32), k26 h x1 = some (hz, ()) → Fw h hz) : ∀ (n : Nat) (h : Hp) (x1 : Int32) (x2 : Int32) (x3 : Int32) (x4 : Int32), L_X10_draw_70 N k26 t0 n h x1 x2 x3 x4 = some (hz, ()) → Fw h hz := by
  intro n
  induction n with
  | zero => intro h x1 x2 x3 x4 hJ; cases hJ
  | succ n ih => intro h x1 x2 x3 x4 hJ; exact wb_X10_draw_70 N k26 (L_X10_draw_70 N k26 t0 n) t0 h x1 x2 x3 x4 m26 ih hJ
theorem wb_X10_draw_67 (N : Nat) (k26 : Hp → Int32 → Option (Hp × Unit)) (t0 : Nat) (h : Hp) (x1 : Int32) (x2 : Int32) (x3 : Int32) (m26 : ∀ (h : Hp) (x1 : Int32), k26 h x1 = some (hz, ()) → Fw h hz) (hJ : B_X10_draw_67 N k26 t0 h x1 x2 x3 = some (hz, ())) : Fw h hz := by
  unfold B_X10_draw_67 at hJ
  exact wl_X10_draw_70 N k26 t0 m26 N _ _ _ _ _ hJ
theorem wb_X10_draw_45 (N : Nat) (k26 : Hp → Int32 → Option (Hp × Unit)) (t0 : Nat) (h : Hp) (x1 : Int32) (x2 : Int32) (y0 : Int32) (m26 : ∀ (h : Hp) (x1 : Int32), k26 h x1 = some (hz, ()) → Fw h hz) (hJ : B_X10_draw_45 N k26 t0 h x1 x2 y0 = some (hz, ())) : Fw h hz := by
  unfold B_X10_draw_45 at hJ
  by_cases c54 : x2 = (-1 : Int32)
  · have hJ := it_pos c54 hJ
    exact wb_X10_draw_67 N k26 t0 _ _ _ _ m26 hJ
  · have hJ := it_neg c54 hJ
    obtain ⟨a55, ea55, -, hJ⟩ := dr_some hJ
    obtain ⟨-, hJ⟩ := ck_some hJ
    obtain ⟨a57, ea57, -, hJ⟩ := dr_some hJ
    obtain ⟨-, hJ⟩ := ck_some hJ
    obtain ⟨⟨h59, r60⟩, e61, hJ⟩ := ob_some hJ
    exact (wo_X10_joins N t0 h (h.bi a55 x1.toNatClampNeg) (h.bi a57 x2.toNatClampNeg) e61).tr (wb_X10_draw_67 N k26 t0 _ _ _ _ m26 hJ)
theorem wb_X10_draw_39 (N : Nat) (k26 : Hp → Int32 → Option (Hp × Unit)) (t0 : Nat) (h : Hp) (x1 : Int32) (y0 : Int32) (m26 : ∀ (h : Hp) (x1 : Int32), k26 h x1 = some (hz, ()) → Fw h hz) (hJ : B_X10_draw_39 N k26 t0 h x1 y0 = some (hz, ())) : Fw h hz := by
  unfold B_X10_draw_39 at hJ
  obtain ⟨⟨h63, r64⟩, e65, hJ⟩ := ob_some hJ
  exact (wo_X10_lastOf N t0 h x1 e65).tr (wb_X10_draw_45 N k26 t0 _ _ _ _ m26 hJ)
theorem wb_X10_draw_26 (N : Nat) (k26 : Hp → Int32 → Option (Hp × Unit)) (t0 : Nat) (h : Hp) (x1 : Int32) (m26 : ∀ (h : Hp) (x1 : Int32), k26 h x1 = some (hz, ()) → Fw h hz) (hJ : B_X10_draw_26 N k26 t0 h x1 = some (hz, ())) : Fw h hz := by
  unfold B_X10_draw_26 at hJ
  by_cases c67 : (h.gi 1328 t0) ≤ x1
  · have hJ := it_pos c67 hJ
    obtain ⟨rfl, -⟩ := rs2 hJ
    exact (Fw.rf h)
  · have hJ := it_neg c67 hJ
    obtain ⟨⟨h68, r69⟩, e70, hJ⟩ := ob_some hJ
    exact (wo_X10_nextOf N t0 h x1 e70).tr (wb_X10_draw_39 N k26 t0 _ _ _ m26 hJ)
theorem wl_X10_draw_26 (N : Nat) (t0 : Nat) : ∀ (n : Nat) (h : Hp) (x1 : Int32), L_X10_draw_26 N t0 n h x1 = some (hz, ()) → Fw h hz := by
  intro n
  induction n with
  | zero => intro h x1 hJ; cases hJ
  | succ n ih => intro h x1 hJ; exact wb_X10_draw_26 N (L_X10_draw_26 N t0 n) t0 h x1 ih hJ
theorem wb_X10_draw_2 (N : Nat) (k2 : Hp → Int32 → Option (Hp × Unit)) (t0 : Nat) (h : Hp) (x1 : Int32) (m2 : ∀ (h : Hp) (x1 : Int32), k2 h x1 = some (hz, ()) → Fw h hz) (hJ : B_X10_draw_2 N k2 t0 h x1 = some (hz, ())) : Fw h hz := by
  unfold B_X10_draw_2 at hJ
  obtain ⟨a72, ea72, -, hJ⟩ := dr_some hJ
  by_cases c73 : (nI (h.al a72)) ≤ x1
  · have hJ := it_pos c73 hJ
    exact wl_X10_draw_26 N t0 N _ _ hJ
  · have hJ := it_neg c73 hJ
    obtain ⟨a74, ea74, -, hJ⟩ := dr_some hJ
    obtain ⟨-, hJ⟩ := ck_some hJ
    exact (Fw.tr (show Fw h (h.sbw a74 x1.toNatClampNeg (0 : Int64)) from (Fw.rf h)) (m2 _ _ hJ))
theorem wl_X10_draw_2 (N : Nat) (t0 : Nat) : ∀ (n : Nat) (h : Hp) (x1 : Int32), L_X10_draw_2 N t0 n h x1 = some (hz, ()) → Fw h hz := by
  intro n
  induction n with
  | zero => intro h x1 hJ; cases hJ
  | succ n ih => intro h x1 hJ; exact wb_X10_draw_2 N (L_X10_draw_2 N t0 n) t0 h x1 ih hJ
theorem wb_X10_draw_0 (N : Nat) (t0 : Nat) (h : Hp) (hJ : B_X10_draw_0 N t0 h = some (hz, ())) : Fw h hz := by
  unfold B_X10_draw_0 at hJ
  exact wl_X10_draw_2 N t0 N _ _ hJ
theorem wo_X10_draw (N : Nat) (t0 : Nat) (h : Hp) (hJ : J_X10_draw N t0 h = some (hz, ())) : Fw h hz := wb_X10_draw_0 N t0 h hJ
end V_X10_draw
section V_X10_has
variable {hz : Hp} {rz : Int32}
theorem wb_X10_has_28 (N : Nat) (h : Hp) (y0 : Int32) (hJ : B_X10_has_28 N h y0 = some (hz, rz)) : Fw h hz := by
  unfold B_X10_has_28 at hJ
  obtain ⟨-, hJ⟩ := ck_some hJ
  obtain ⟨rfl, -⟩ := rs2 hJ
  exact (Fw.rf h)
theorem wb_X10_has_0 (N : Nat) (h : Hp) (x0 : Option Nat) (x1 : Int32) (x2 : Int32) (hJ : B_X10_has_0 N h x0 x1 x2 = some (hz, rz)) : Fw h hz := by
  unfold B_X10_has_0 at hJ
  obtain ⟨a2, ea2, -, hJ⟩ := dr_some hJ
  obtain ⟨-, hJ⟩ := ck_some hJ
  by_cases c4 : (lg_cmp (((h.bw a2 (((9 : Int32) * x1) + (x2 >>> ((6 : Int32) &&& 31))).toNatClampNeg) >>> ((x2 &&& (63 : Int32)).toInt64 &&& 63)) &&& (1 : Int64)) (1 : Int64)) = 0
  · have hJ := it_pos c4 hJ
    exact wb_X10_has_28 N _ _ hJ
  · have hJ := it_neg c4 hJ
    exact wb_X10_has_28 N _ _ hJ
theorem wo_X10_has (N : Nat) (h : Hp) (x0 : Option Nat) (x1 : Int32) (x2 : Int32) (hJ : J_X10_has N h x0 x1 x2 = some (hz, rz)) : Fw h hz := wb_X10_has_0 N h x0 x1 x2 hJ
end V_X10_has
