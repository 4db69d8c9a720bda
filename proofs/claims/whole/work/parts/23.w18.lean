section V_X10_abort
variable {hz : Hp}
theorem wb_X10_abort_25 (N : Nat) (t0 : Nat) (h : Hp) (hJ : B_X10_abort_25 N t0 h = some (hz, ())) : Fw h hz := by
  unfold B_X10_abort_25 at hJ
  obtain ⟨rfl, -⟩ := rs2 hJ
  exact (Fw.rf h)
theorem wb_X10_abort_15 (N : Nat) (t0 : Nat) (h : Hp) (x1 : Int32) (y0 : Int32) (hJ : B_X10_abort_15 N t0 h x1 y0 = some (hz, ())) : Fw h hz := by
  unfold B_X10_abort_15 at hJ
  by_cases c1 : y0 = 0
  · have hJ := it_pos c1 hJ
    obtain ⟨⟨h2, r3⟩, e4, hJ⟩ := ob_some hJ
    exact (wo_X10_ends N t0 h x1 (3 : Int32) e4).tr (wb_X10_abort_25 N t0 _ hJ)
  · have hJ := it_neg c1 hJ
    obtain ⟨rfl, -⟩ := rs2 hJ
    exact (Fw.rf h)
theorem wb_X10_abort_0 (N : Nat) (t0 : Nat) (h : Hp) (x1 : Int32) (hJ : B_X10_abort_0 N t0 h x1 = some (hz, ())) : Fw h hz := by
  unfold B_X10_abort_0 at hJ
  obtain ⟨⟨h6, r7⟩, e8, hJ⟩ := ob_some hJ
  exact (Fw.tr (show Fw h (h.sgi 1313 t0 ((h.gi 1313 t0) + (1 : Int32))) from (Fw.rf h)) ((wo_X10_isIdle N t0 (h.sgi 1313 t0 ((h.gi 1313 t0) + (1 : Int32))) x1 e8).tr (wb_X10_abort_15 N t0 _ _ _ hJ)))
theorem wo_X10_abort (N : Nat) (t0 : Nat) (h : Hp) (x1 : Int32) (hJ : J_X10_abort N t0 h x1 = some (hz, ())) : Fw h hz := wb_X10_abort_0 N t0 h x1 hJ
end V_X10_abort
section V_X10_found
variable {hz : Hp}
theorem wb_X10_found_24 (N : Nat) (t0 : Nat) (h : Hp) (x1 : Int32) (x3 : Int64) (hJ : B_X10_found_24 N t0 h x1 x3 = some (hz, ())) : Fw h hz := by
  unfold B_X10_found_24 at hJ
  obtain ⟨a1, ea1, -, hJ⟩ := dr_some hJ
  obtain ⟨-, hJ⟩ := ck_some hJ
  obtain ⟨rfl, -⟩ := rs2 hJ
  exact (Fw.rf h)
theorem wb_X10_found_0 (N : Nat) (t0 : Nat) (h : Hp) (x1 : Int32) (x2 : Int32) (x3 : Int64) (hJ : B_X10_found_0 N t0 h x1 x2 x3 = some (hz, ())) : Fw h hz := by
  unfold B_X10_found_0 at hJ
  obtain ⟨a3, ea3, -, hJ⟩ := dr_some hJ
  obtain ⟨-, hJ⟩ := ck_some hJ
  obtain ⟨a5, ea5, -, hJ⟩ := dr_some hJ
  obtain ⟨-, hJ⟩ := ck_some hJ
  exact (Fw.tr (show Fw h ((((h.sgi 1344 t0 x2).sgl 1343 t0 x3).sbi a3 x1.toNatClampNeg (1 : Int32)).sbi a5 x1.toNatClampNeg x2) from (Fw.rf h)) (wb_X10_found_24 N t0 _ _ _ hJ))
theorem wo_X10_found (N : Nat) (t0 : Nat) (h : Hp) (x1 : Int32) (x2 : Int32) (x3 : Int64) (hJ : J_X10_found N t0 h x1 x2 x3 = some (hz, ())) : Fw h hz := wb_X10_found_0 N t0 h x1 x2 x3 hJ
end V_X10_found
section V_X10_log
variable {hz : Hp} {rz : Int32}
theorem wb_X10_log_40 (N : Nat) (t0 : Nat) (h : Hp) (x4 : Int32) (hJ : B_X10_log_40 N t0 h x4 = some (hz, rz)) : Fw h hz := by
  unfold B_X10_log_40 at hJ
  obtain ⟨rfl, -⟩ := rs2 hJ
  exact (Fw.rf h)
theorem wb_X10_log_0 (N : Nat) (t0 : Nat) (h : Hp) (x1 : Int32) (x2 : Int32) (x3 : Int32) (hJ : B_X10_log_0 N t0 h x1 x2 x3 = some (hz, rz)) : Fw h hz := by
  unfold B_X10_log_0 at hJ
  obtain ⟨a1, ea1, -, hJ⟩ := dr_some hJ
  obtain ⟨-, hJ⟩ := ck_some hJ
  obtain ⟨a3, ea3, -, hJ⟩ := dr_some hJ
  obtain ⟨-, hJ⟩ := ck_some hJ
  obtain ⟨a5, ea5, -, hJ⟩ := dr_some hJ
  obtain ⟨-, hJ⟩ := ck_some hJ
  exact (Fw.tr (show Fw h ((((h.sbi a1 (h.gi 1339 t0).toNatClampNeg x1).sbi a3 (h.gi 1339 t0).toNatClampNeg x2).sbi a5 (h.gi 1339 t0).toNatClampNeg x3).sgi 1339 t0 (((((h.sbi a1 (h.gi 1339 t0).toNatClampNeg x1).sbi a3 (h.gi 1339 t0).toNatClampNeg x2).sbi a5 (h.gi 1339 t0).toNatClampNeg x3).gi 1339 t0) + (1 : Int32))) from (Fw.rf h)) (wb_X10_log_40 N t0 _ _ hJ))
theorem wo_X10_log (N : Nat) (t0 : Nat) (h : Hp) (x1 : Int32) (x2 : Int32) (x3 : Int32) (hJ : J_X10_log N t0 h x1 x2 x3 = some (hz, rz)) : Fw h hz := wb_X10_log_0 N t0 h x1 x2 x3 hJ
end V_X10_log
section V_X10_looks
variable {hz : Hp} {rz : Int32}
theorem wb_X10_looks_87 (N : Nat) (k3 : Hp → Int32 → Int32 → Int32 → Int32 → Option (Hp × Int32)) (t0 : Nat) (h : Hp) (x1 : Int32) (x2 : Int32) (x3 : Int32) (x4 : Int32) (m3 : ∀ (h : Hp) (x1 : Int32) (x2 : Int32) (x3 : Int32) (x4 : Int32), k3 h x1 x2 x3 x4 = some (hz, rz) → Fw h hz) (hJ : B_X10_looks_87 N k3 t0 h x1 x2 x3 x4 = some (hz, rz)) : Fw h hz := by
  unfold B_X10_looks_87 at hJ
  exact m3 _ _ _ _ _ hJ
theorem wb_X10_looks_85 (N : Nat) (t0 : Nat) (h : Hp) (hJ : B_X10_looks_85 N t0 h = some (hz, rz)) : Fw h hz := by
  unfold B_X10_looks_85 at hJ
  obtain ⟨rfl, -⟩ := rs2 hJ
  exact (Fw.rf h)
theorem wb_X10_looks_79 (N : Nat) (t0 : Nat) (h : Hp) (x1 : Int32) (hJ : B_X10_looks_79 N t0 h x1 = some (hz, rz)) : Fw h hz := by
  unfold B_X10_looks_79 at hJ
  obtain ⟨⟨h1, r2⟩, e3, hJ⟩ := ob_some hJ
  exact (wo_X10_ends N t0 h x1 (5 : Int32) e3).tr (wb_X10_looks_85 N t0 _ hJ)
theorem wb_X10_looks_64 (N : Nat) (k3 : Hp → Int32 → Int32 → Int32 → Int32 → Option (Hp × Int32)) (t0 : Nat) (h : Hp) (x1 : Int32) (x2 : Int32) (x3 : Int32) (x4 : Int32) (y0 : Int32) (m3 : ∀ (h : Hp) (x1 : Int32) (x2 : Int32) (x3 : Int32) (x4 : Int32), k3 h x1 x2 x3 x4 = some (hz, rz) → Fw h hz) (hJ : B_X10_looks_64 N k3 t0 h x1 x2 x3 x4 y0 = some (hz, rz)) : Fw h hz := by
  unfold B_X10_looks_64 at hJ
  by_cases c5 : y0 = 0
  · have hJ := it_pos c5 hJ
    exact wb_X10_looks_87 N k3 t0 _ _ _ _ _ m3 hJ
  · have hJ := it_neg c5 hJ
    obtain ⟨a6, ea6, -, hJ⟩ := dr_some hJ
    obtain ⟨-, hJ⟩ := ck_some hJ
    obtain ⟨⟨h8, r9⟩, e10, hJ⟩ := ob_some hJ
    exact (wo_X10_danger N t0 h x1 (h.bi a6 x4.toNatClampNeg) e10).tr (wb_X10_looks_79 N t0 _ _ hJ)
theorem wb_X10_looks_40 (N : Nat) (k3 : Hp → Int32 → Int32 → Int32 → Int32 → Option (Hp × Int32)) (t0 : Nat) (h : Hp) (x1 : Int32) (x2 : Int32) (x3 : Int32) (x4 : Int32) (y0 : Int32) (m3 : ∀ (h : Hp) (x1 : Int32) (x2 : Int32) (x3 : Int32) (x4 : Int32), k3 h x1 x2 x3 x4 = some (hz, rz) → Fw h hz) (hJ : B_X10_looks_40 N k3 t0 h x1 x2 x3 x4 y0 = some (hz, rz)) : Fw h hz := by
  unfold B_X10_looks_40 at hJ
  obtain ⟨a12, ea12, -, hJ⟩ := dr_some hJ
  obtain ⟨-, hJ⟩ := ck_some hJ
  by_cases c14 : (h.bi a12 x1.toNatClampNeg) < y0
  · have hJ := it_pos c14 hJ
    obtain ⟨a15, ea15, -, hJ⟩ := dr_some hJ
    obtain ⟨-, hJ⟩ := ck_some hJ
    obtain ⟨⟨h17, r18⟩, e19, hJ⟩ := ob_some hJ
    exact (wo_X10_mayNot N t0 h x1 (h.bi a15 x4.toNatClampNeg) e19).tr (wb_X10_looks_64 N k3 t0 _ _ _ _ _ _ m3 hJ)
  · have hJ := it_neg c14 hJ
    exact wb_X10_looks_87 N k3 t0 _ _ _ _ _ m3 hJ
theorem wb_X10_looks_217 (N : Nat) (k136 : Hp → Int32 → Int32 → Int32 → Int32 → Option (Hp × Int32)) (t0 : Nat) (h : Hp) (x1 : Int32) (x2 : Int32) (x3 : Int32) (x4 : Int32) (m136 : ∀ (h : Hp) (x1 : Int32) (x2 : Int32) (x3 : Int32) (x4 : Int32), k136 h x1 x2 x3 x4 = some (hz, rz) → Fw h hz) (hJ : B_X10_looks_217 N k136 t0 h x1 x2 x3 x4 = some (hz, rz)) : Fw h hz := by
  unfold B_X10_looks_217 at hJ
  exact m136 _ _ _ _ _ hJ
theorem wb_X10_looks_187 (N : Nat) (k136 : Hp → Int32 → Int32 → Int32 → Int32 → Option (Hp × Int32)) (t0 : Nat) (h : Hp) (x1 : Int32) (x2 : Int32) (x3 : Int32) (x4 : Int32) (y0 : Int32) (m136 : ∀ (h : Hp) (x1 : Int32) (x2 : Int32) (x3 : Int32) (x4 : Int32), k136 h x1 x2 x3 x4 = some (hz, rz) → Fw h hz) (hJ : B_X10_looks_187 N k136 t0 h x1 x2 x3 x4 y0 = some (hz, rz)) : Fw h hz := by
  unfold B_X10_looks_187 at hJ
  by_cases c21 : y0 = 0
  · have hJ := it_pos c21 hJ
    exact wb_X10_looks_217 N k136 t0 _ _ _ _ _ m136 hJ
  · have hJ := it_neg c21 hJ
    obtain ⟨a22, ea22, -, hJ⟩ := dr_some hJ
    obtain ⟨-, hJ⟩ := ck_some hJ
    by_cases c24 : (h.bi a22 x1.toNatClampNeg) = (1 : Int32)
    · have hJ := it_pos c24 hJ
      exact wb_X10_looks_217 N k136 t0 _ _ _ _ _ m136 hJ
    · have hJ := it_neg c24 hJ
      obtain ⟨a25, ea25, -, hJ⟩ := dr_some hJ
      obtain ⟨-, hJ⟩ := ck_some hJ
      obtain ⟨a27, ea27, -, hJ⟩ := dr_some hJ
      obtain ⟨-, hJ⟩ := ck_some hJ
      exact (Fw.tr (show Fw h (h.sbi a27 (h.bi a25 x4.toNatClampNeg).toNatClampNeg (1 : Int32)) from (Fw.rf h)) (wb_X10_looks_217 N k136 t0 _ _ _ _ _ m136 hJ))
theorem wb_X10_looks_186 (N : Nat) (k136 : Hp → Int32 → Int32 → Int32 → Int32 → Option (Hp × Int32)) (t0 : Nat) (h : Hp) (x1 : Int32) (x2 : Int32) (x3 : Int32) (x4 : Int32) (m136 : ∀ (h : Hp) (x1 : Int32) (x2 : Int32) (x3 : Int32) (x4 : Int32), k136 h x1 x2 x3 x4 = some (hz, rz) → Fw h hz) (hJ : B_X10_looks_186 N k136 t0 h x1 x2 x3 x4 = some (hz, rz)) : Fw h hz := by
  unfold B_X10_looks_186 at hJ
  exact wb_X10_looks_187 N k136 t0 _ _ _ _ _ _ m136 hJ
theorem wb_X10_looks_173 (N : Nat) (k136 : Hp → Int32 → Int32 → Int32 → Int32 → Option (Hp × Int32)) (t0 : Nat) (h : Hp) (x1 : Int32) (x2 : Int32) (x3 : Int32) (x4 : Int32) (y0 : Int32) (m136 : ∀ (h : Hp) (x1 : Int32) (x2 : Int32) (x3 : Int32) (x4 : Int32), k136 h x1 x2 x3 x4 = some (hz, rz) → Fw h hz) (hJ : B_X10_looks_173 N k136 t0 h x1 x2 x3 x4 y0 = some (hz, rz)) : Fw h hz := by
  unfold B_X10_looks_173 at hJ
  obtain ⟨a29, ea29, -, hJ⟩ := dr_some hJ
  obtain ⟨-, hJ⟩ := ck_some hJ
  by_cases c31 : y0 ≤ (h.bi a29 x1.toNatClampNeg)
  · have hJ := it_pos c31 hJ
    exact wb_X10_looks_186 N k136 t0 _ _ _ _ _ m136 hJ
  · have hJ := it_neg c31 hJ
    exact wb_X10_looks_187 N k136 t0 _ _ _ _ _ _ m136 hJ
theorem wb_X10_looks_136 (N : Nat) (k136 : Hp → Int32 → Int32 → Int32 → Int32 → Option (Hp × Int32)) (t0 : Nat) (h : Hp) (x1 : Int32) (x2 : Int32) (x3 : Int32) (x4 : Int32) (m136 : ∀ (h : Hp) (x1 : Int32) (x2 : Int32) (x3 : Int32) (x4 : Int32), k136 h x1 x2 x3 x4 = some (hz, rz) → Fw h hz) (hJ : B_X10_looks_136 N k136 t0 h x1 x2 x3 x4 = some (hz, rz)) : Fw h hz := by
  unfold B_X10_looks_136 at hJ
  by_cases c32 : (h.gi 1328 t0) ≤ x4
  · have hJ := it_pos c32 hJ
    obtain ⟨rfl, -⟩ := rs2 hJ
    exact (Fw.rf h)
  · have hJ := it_neg c32 hJ
    obtain ⟨a33, ea33, -, hJ⟩ := dr_some hJ
    obtain ⟨-, hJ⟩ := ck_some hJ
    by_cases c35 : (h.bi a33 x4.toNatClampNeg) < x2
    · have hJ := it_pos c35 hJ
      exact wb_X10_looks_186 N k136 t0 _ _ _ _ _ m136 hJ
    · have hJ := it_neg c35 hJ
      obtain ⟨a36, ea36, -, hJ⟩ := dr_some hJ
      obtain ⟨-, hJ⟩ := ck_some hJ
      by_cases c38 : x3 < (h.bi a36 x4.toNatClampNeg)
      · have hJ := it_pos c38 hJ
        exact wb_X10_looks_186 N k136 t0 _ _ _ _ _ m136 hJ
      · have hJ := it_neg c38 hJ
        obtain ⟨⟨h39, r40⟩, e41, hJ⟩ := ob_some hJ
        exact (wo_X10_momentOf N t0 h x4 e41).tr (wb_X10_looks_173 N k136 t0 _ _ _ _ _ _ m136 hJ)
theorem wl_X10_looks_136 (N : Nat) (t0 : Nat) : ∀ (n : Nat) (h : Hp) (x1 : Int32) (x2 : Int32) (x3 : Int32) (x4 : Int32), L_X10_looks_136 N t0 n h x1 x2 x3 x4 = some (hz, rz) → Fw h hz := by
  intro n
  induction n with
  | zero => intro h x1 x2 x3 x4 hJ; cases hJ
  | succ n ih => intro h x1 x2 x3 x4 hJ; exact wb_X10_looks_136 N (L_X10_looks_136 N t0 n) t0 h x1 x2 x3 x4 ih hJ
theorem wb_X10_looks_133 (N : Nat) (t0 : Nat) (h : Hp) (x1 : Int32) (x2 : Int32) (x3 : Int32) (hJ : B_X10_looks_133 N t0 h x1 x2 x3 = some (hz, rz)) : Fw h hz := by
  unfold B_X10_looks_133 at hJ
  exact wl_X10_looks_136 N t0 N _ _ _ _ _ hJ
theorem wb_X10_looks_3 (N : Nat) (k3 : Hp → Int32 → Int32 → Int32 → Int32 → Option (Hp × Int32)) (t0 : Nat) (h : Hp) (x1 : Int32) (x2 : Int32) (x3 : Int32) (x4 : Int32) (m3 : ∀ (h : Hp) (x1 : Int32) (x2 : Int32) (x3 : Int32) (x4 : Int32), k3 h x1 x2 x3 x4 = some (hz, rz) → Fw h hz) (hJ : B_X10_looks_3 N k3 t0 h x1 x2 x3 x4 = some (hz, rz)) : Fw h hz := by
  unfold B_X10_looks_3 at hJ
  by_cases c43 : (h.gi 1328 t0) ≤ x4
  · have hJ := it_pos c43 hJ
    obtain ⟨a44, ea44, -, hJ⟩ := dr_some hJ
    obtain ⟨-, hJ⟩ := ck_some hJ
    obtain ⟨a46, ea46, -, hJ⟩ := dr_some hJ
    obtain ⟨-, hJ⟩ := ck_some hJ
    obtain ⟨a48, ea48, -, hJ⟩ := dr_some hJ
    obtain ⟨-, hJ⟩ := ck_some hJ
    exact (Fw.tr (show Fw h ((((h.sbi a44 (h.gi 1323 t0).toNatClampNeg x1).sbi a46 ((h.sbi a44 (h.gi 1323 t0).toNatClampNeg x1).gi 1323 t0).toNatClampNeg x2).sbi a48 (((h.sbi a44 (h.gi 1323 t0).toNatClampNeg x1).sbi a46 ((h.sbi a44 (h.gi 1323 t0).toNatClampNeg x1).gi 1323 t0).toNatClampNeg x2).gi 1323 t0).toNatClampNeg x3).sgi 1323 t0 (((((h.sbi a44 (h.gi 1323 t0).toNatClampNeg x1).sbi a46 ((h.sbi a44 (h.gi 1323 t0).toNatClampNeg x1).gi 1323 t0).toNatClampNeg x2).sbi a48 (((h.sbi a44 (h.gi 1323 t0).toNatClampNeg x1).sbi a46 ((h.sbi a44 (h.gi 1323 t0).toNatClampNeg x1).gi 1323 t0).toNatClampNeg x2).gi 1323 t0).toNatClampNeg x3).gi 1323 t0) + (1 : Int32))) from (Fw.rf h)) (wb_X10_looks_133 N t0 _ _ _ _ hJ))
  · have hJ := it_neg c43 hJ
    obtain ⟨a50, ea50, -, hJ⟩ := dr_some hJ
    obtain ⟨-, hJ⟩ := ck_some hJ
    by_cases c52 : (h.bi a50 x4.toNatClampNeg) < x2
    · have hJ := it_pos c52 hJ
      exact wb_X10_looks_87 N k3 t0 _ _ _ _ _ m3 hJ
    · have hJ := it_neg c52 hJ
      obtain ⟨a53, ea53, -, hJ⟩ := dr_some hJ
      obtain ⟨-, hJ⟩ := ck_some hJ
      by_cases c55 : x3 < (h.bi a53 x4.toNatClampNeg)
      · have hJ := it_pos c55 hJ
        exact wb_X10_looks_87 N k3 t0 _ _ _ _ _ m3 hJ
      · have hJ := it_neg c55 hJ
        obtain ⟨⟨h56, r57⟩, e58, hJ⟩ := ob_some hJ
        exact (wo_X10_momentOf N t0 h x4 e58).tr (wb_X10_looks_40 N k3 t0 _ _ _ _ _ _ m3 hJ)
theorem wl_X10_looks_3 (N : Nat) (t0 : Nat) : ∀ (n : Nat) (h : Hp) (x1 : Int32) (x2 : Int32) (x3 : Int32) (x4 : Int32), L_X10_looks_3 N t0 n h x1 x2 x3 x4 = some (hz, rz) → Fw h hz := by
  intro n
  induction n with
  | zero => intro h x1 x2 x3 x4 hJ; cases hJ
  | succ n ih => intro h x1 x2 x3 x4 hJ; exact wb_X10_looks_3 N (L_X10_looks_3 N t0 n) t0 h x1 x2 x3 x4 ih hJ
theorem wb_X10_looks_0 (N : Nat) (t0 : Nat) (h : Hp) (x1 : Int32) (x2 : Int32) (x3 : Int32) (hJ : B_X10_looks_0 N t0 h x1 x2 x3 = some (hz, rz)) : Fw h hz := by
  unfold B_X10_looks_0 at hJ
  exact wl_X10_looks_3 N t0 N _ _ _ _ _ hJ
theorem wo_X10_looks (N : Nat) (t0 : Nat) (h : Hp) (x1 : Int32) (x2 : Int32) (x3 : Int32) (hJ : J_X10_looks N t0 h x1 x2 x3 = some (hz, rz)) : Fw h hz := wb_X10_looks_0 N t0 h x1 x2 x3 hJ
end V_X10_looks
section V_X10_versionAt
variable {hz : Hp} {rz : Int32}
theorem wb_X10_versionAt_38 (N : Nat) (k5 : Hp → Int32 → Int32 → Int32 → Int32 → Option (Hp × Int32)) (t0 : Nat) (h : Hp) (x1 : Int32) (x2 : Int32) (x3 : Int32) (x4 : Int32) (m5 : ∀ (h : Hp) (x1 : Int32) (x2 : Int32) (x3 : Int32) (x4 : Int32), k5 h x1 x2 x3 x4 = some (hz, rz) → Fw h hz) (hJ : B_X10_versionAt_38 N k5 t0 h x1 x2 x3 x4 = some (hz, rz)) : Fw h hz := by
  unfold B_X10_versionAt_38 at hJ
  exact m5 _ _ _ _ _ hJ
theorem wb_X10_versionAt_31 (N : Nat) (k5 : Hp → Int32 → Int32 → Int32 → Int32 → Option (Hp × Int32)) (t0 : Nat) (h : Hp) (x1 : Int32) (x2 : Int32) (x3 : Int32) (x4 : Int32) (y0 : Int32) (m5 : ∀ (h : Hp) (x1 : Int32) (x2 : Int32) (x3 : Int32) (x4 : Int32), k5 h x1 x2 x3 x4 = some (hz, rz) → Fw h hz) (hJ : B_X10_versionAt_31 N k5 t0 h x1 x2 x3 x4 y0 = some (hz, rz)) : Fw h hz := by
  unfold B_X10_versionAt_31 at hJ
  by_cases c1 : x2 < y0
  · have hJ := it_pos c1 hJ
    exact wb_X10_versionAt_38 N k5 t0 _ _ _ _ _ m5 hJ
  · have hJ := it_neg c1 hJ
    exact wb_X10_versionAt_38 N k5 t0 _ _ _ _ _ m5 hJ
theorem wb_X10_versionAt_5 (N : Nat) (k5 : Hp → Int32 → Int32 → Int32 → Int32 → Option (Hp × Int32)) (t0 : Nat) (h : Hp) (x1 : Int32) (x2 : Int32) (x3 : Int32) (x4 : Int32) (m5 : ∀ (h : Hp) (x1 : Int32) (x2 : Int32) (x3 : Int32) (x4 : Int32), k5 h x1 x2 x3 x4 = some (hz, rz) → Fw h hz) (hJ : B_X10_versionAt_5 N k5 t0 h x1 x2 x3 x4 = some (hz, rz)) : Fw h hz := by
  unfold B_X10_versionAt_5 at hJ
  by_cases c2 : (h.gi 1328 t0) ≤ x4
  · have hJ := it_pos c2 hJ
    obtain ⟨rfl, -⟩ := rs2 hJ
    exact (Fw.rf h)
  · have hJ := it_neg c2 hJ
    obtain ⟨a3, ea3, -, hJ⟩ := dr_some hJ
    obtain ⟨-, hJ⟩ := ck_some hJ
    by_cases c5 : (h.bi a3 x4.toNatClampNeg) = x1
    · have hJ := it_pos c5 hJ
      obtain ⟨⟨h6, r7⟩, e8, hJ⟩ := ob_some hJ
      exact (wo_X10_momentOf N t0 h x4 e8).tr (wb_X10_versionAt_31 N k5 t0 _ _ _ _ _ _ m5 hJ)
    · have hJ := it_neg c5 hJ
      exact wb_X10_versionAt_38 N k5 t0 _ _ _ _ _ m5 hJ
theorem wl_X10_versionAt_5 (N : Nat) (t0 : Nat) : ∀ (n : Nat) (h : Hp) (x1 : Int32) (x2 : Int32) (x3 : Int32) (x4 : Int32), L_X10_versionAt_5 N t0 n h x1 x2 x3 x4 = some (hz, rz) → Fw h hz := by
  intro n
  induction n with
  | zero => intro h x1 x2 x3 x4 hJ; cases hJ
  | succ n ih => intro h x1 x2 x3 x4 hJ; exact wb_X10_versionAt_5 N (L_X10_versionAt_5 N t0 n) t0 h x1 x2 x3 x4 ih hJ
theorem wb_X10_versionAt_0 (N : Nat) (t0 : Nat) (h : Hp) (x1 : Int32) (x2 : Int32) (hJ : B_X10_versionAt_0 N t0 h x1 x2 = some (hz, rz)) : Fw h hz := by
  unfold B_X10_versionAt_0 at hJ
  exact wl_X10_versionAt_5 N t0 N _ _ _ _ _ hJ
theorem wo_X10_versionAt (N : Nat) (t0 : Nat) (h : Hp) (x1 : Int32) (x2 : Int32) (hJ : J_X10_versionAt N t0 h x1 x2 = some (hz, rz)) : Fw h hz := wb_X10_versionAt_0 N t0 h x1 x2 hJ
end V_X10_versionAt
section V_X10_sees
variable {hz : Hp} {rz : Int32}
theorem wb_X10_sees_40 (N : Nat) (t0 : Nat) (h : Hp) (y0 : Int32) (hJ : B_X10_sees_40 N t0 h y0 = some (hz, rz)) : Fw h hz := by
  unfold B_X10_sees_40 at hJ
  by_cases c1 : y0 = (-1 : Int32)
  · have hJ := it_pos c1 hJ
    obtain ⟨rfl, -⟩ := rs2 hJ
    exact (Fw.rf h)
  · have hJ := it_neg c1 hJ
    obtain ⟨a2, ea2, -, hJ⟩ := dr_some hJ
    obtain ⟨-, hJ⟩ := ck_some hJ
    obtain ⟨a4, ea4, -, hJ⟩ := dr_some hJ
    obtain ⟨-, hJ⟩ := ck_some hJ
    obtain ⟨-, hJ⟩ := ck_some hJ
    obtain ⟨rfl, -⟩ := rs2 hJ
    exact (Fw.rf h)
theorem wb_X10_sees_6 (N : Nat) (t0 : Nat) (h : Hp) (x1 : Int32) (x2 : Int32) (y0 : Int32) (hJ : B_X10_sees_6 N t0 h x1 x2 y0 = some (hz, rz)) : Fw h hz := by
  unfold B_X10_sees_6 at hJ
  by_cases c7 : y0 = (-1 : Int32)
  · have hJ := it_pos c7 hJ
    obtain ⟨a8, ea8, -, hJ⟩ := dr_some hJ
    obtain ⟨-, hJ⟩ := ck_some hJ
    obtain ⟨⟨h10, r11⟩, e12, hJ⟩ := ob_some hJ
    exact (wo_X10_versionAt N t0 h x2 (h.bi a8 x1.toNatClampNeg) e12).tr (wb_X10_sees_40 N t0 _ _ hJ)
  · have hJ := it_neg c7 hJ
    obtain ⟨a14, ea14, -, hJ⟩ := dr_some hJ
    obtain ⟨-, hJ⟩ := ck_some hJ
    obtain ⟨a16, ea16, -, hJ⟩ := dr_some hJ
    obtain ⟨-, hJ⟩ := ck_some hJ
    obtain ⟨-, hJ⟩ := ck_some hJ
    obtain ⟨rfl, -⟩ := rs2 hJ
    exact (Fw.rf h)
theorem wb_X10_sees_0 (N : Nat) (t0 : Nat) (h : Hp) (x1 : Int32) (x2 : Int32) (hJ : B_X10_sees_0 N t0 h x1 x2 = some (hz, rz)) : Fw h hz := by
  unfold B_X10_sees_0 at hJ
  obtain ⟨⟨h19, r20⟩, e21, hJ⟩ := ob_some hJ
  exact (wo_X10_ownOf N t0 h x1 x2 e21).tr (wb_X10_sees_6 N t0 _ _ _ _ hJ)
theorem wo_X10_sees (N : Nat) (t0 : Nat) (h : Hp) (x1 : Int32) (x2 : Int32) (hJ : J_X10_sees N t0 h x1 x2 = some (hz, rz)) : Fw h hz := wb_X10_sees_0 N t0 h x1 x2 hJ
end V_X10_sees
section V_X10_read
variable {hz : Hp} {rz : Int32}
theorem wb_X10_read_69 (N : Nat) (t0 : Nat) (h : Hp) (x3 : Int32) (hJ : B_X10_read_69 N t0 h x3 = some (hz, rz)) : Fw h hz := by
  unfold B_X10_read_69 at hJ
  obtain ⟨a1, ea1, -, hJ⟩ := dr_some hJ
  obtain ⟨-, hJ⟩ := ck_some hJ
  obtain ⟨rfl, -⟩ := rs2 hJ
  exact (Fw.rf h)
theorem wb_X10_read_56 (N : Nat) (t0 : Nat) (h : Hp) (x2 : Int32) (x3 : Int32) (y0 : Int32) (hJ : B_X10_read_56 N t0 h x2 x3 y0 = some (hz, rz)) : Fw h hz := by
  unfold B_X10_read_56 at hJ
  by_cases c3 : y0 = 0
  · have hJ := it_pos c3 hJ
    exact wb_X10_read_69 N t0 _ _ hJ
  · have hJ := it_neg c3 hJ
    obtain ⟨⟨h4, r5⟩, e6, hJ⟩ := ob_some hJ
    exact (wo_X10_found N t0 h x3 x2 (h.gl 1351 t0) e6).tr (wb_X10_read_69 N t0 _ _ hJ)
theorem wb_X10_read_49 (N : Nat) (t0 : Nat) (h : Hp) (x1 : Int32) (x2 : Int32) (y0 : Int32) (hJ : B_X10_read_49 N t0 h x1 x2 y0 = some (hz, rz)) : Fw h hz := by
  unfold B_X10_read_49 at hJ
  obtain ⟨⟨h8, r9⟩, e10, hJ⟩ := ob_some hJ
  exact (wo_X10_sees N t0 h x1 x2 e10).tr (wb_X10_read_56 N t0 _ _ _ _ hJ)
theorem wb_X10_read_42 (N : Nat) (t0 : Nat) (h : Hp) (x1 : Int32) (x2 : Int32) (hJ : B_X10_read_42 N t0 h x1 x2 = some (hz, rz)) : Fw h hz := by
  unfold B_X10_read_42 at hJ
  obtain ⟨⟨h12, r13⟩, e14, hJ⟩ := ob_some hJ
  exact (wo_X10_log N t0 h (1 : Int32) x1 x2 e14).tr (wb_X10_read_49 N t0 _ _ _ _ hJ)
theorem wb_X10_read_37 (N : Nat) (t0 : Nat) (h : Hp) (x1 : Int32) (x2 : Int32) (y0 : Int32) (hJ : B_X10_read_37 N t0 h x1 x2 y0 = some (hz, rz)) : Fw h hz := by
  unfold B_X10_read_37 at hJ
  by_cases c16 : y0 = 0
  · have hJ := it_pos c16 hJ
    obtain ⟨rfl, -⟩ := rs2 hJ
    exact (Fw.rf h)
  · have hJ := it_neg c16 hJ
    exact wb_X10_read_42 N t0 _ _ _ hJ
theorem wb_X10_read_26 (N : Nat) (t0 : Nat) (h : Hp) (x1 : Int32) (x2 : Int32) (y0 : Int32) (hJ : B_X10_read_26 N t0 h x1 x2 y0 = some (hz, rz)) : Fw h hz := by
  unfold B_X10_read_26 at hJ
  by_cases c17 : y0 = (-1 : Int32)
  · have hJ := it_pos c17 hJ
    obtain ⟨⟨h18, r19⟩, e20, hJ⟩ := ob_some hJ
    exact (wo_X10_looks N t0 h x1 x2 x2 e20).tr (wb_X10_read_37 N t0 _ _ _ _ hJ)
  · have hJ := it_neg c17 hJ
    exact wb_X10_read_42 N t0 _ _ _ hJ
theorem wb_X10_read_15 (N : Nat) (t0 : Nat) (h : Hp) (x1 : Int32) (x2 : Int32) (y0 : Int32) (hJ : B_X10_read_15 N t0 h x1 x2 y0 = some (hz, rz)) : Fw h hz := by
  unfold B_X10_read_15 at hJ
  by_cases c22 : y0 = 0
  · have hJ := it_pos c22 hJ
    obtain ⟨⟨h23, r24⟩, e25, hJ⟩ := ob_some hJ
    exact (wo_X10_ownOf N t0 h x1 x2 e25).tr (wb_X10_read_26 N t0 _ _ _ _ hJ)
  · have hJ := it_neg c22 hJ
    obtain ⟨rfl, -⟩ := rs2 hJ
    exact (Fw.rf h)
theorem wb_X10_read_0 (N : Nat) (t0 : Nat) (h : Hp) (x1 : Int32) (x2 : Int32) (hJ : B_X10_read_0 N t0 h x1 x2 = some (hz, rz)) : Fw h hz := by
  unfold B_X10_read_0 at hJ
  obtain ⟨⟨h27, r28⟩, e29, hJ⟩ := ob_some hJ
  exact (Fw.tr (show Fw h (h.sgi 1313 t0 ((h.gi 1313 t0) + (1 : Int32))) from (Fw.rf h)) ((wo_X10_isIdle N t0 (h.sgi 1313 t0 ((h.gi 1313 t0) + (1 : Int32))) x1 e29).tr (wb_X10_read_15 N t0 _ _ _ _ hJ)))
theorem wo_X10_read (N : Nat) (t0 : Nat) (h : Hp) (x1 : Int32) (x2 : Int32) (hJ : J_X10_read N t0 h x1 x2 = some (hz, rz)) : Fw h hz := wb_X10_read_0 N t0 h x1 x2 hJ
end V_X10_read
section V_X10_nearest
variable {hz : Hp} {rz : Int32}
theorem wb_X10_nearest_90 (N : Nat) (k10 : Hp → Int32 → Int32 → Int32 → Int32 → Int32 → Option (Hp × Int32)) (t0 : Nat) (h : Hp) (x1 : Int32) (x2 : Int32) (x3 : Int32) (x4 : Int32) (x5 : Int32) (m10 : ∀ (h : Hp) (x1 : Int32) (x2 : Int32) (x3 : Int32) (x4 : Int32) (x5 : Int32), k10 h x1 x2 x3 x4 x5 = some (hz, rz) → Fw h hz) (hJ : B_X10_nearest_90 N k10 t0 h x1 x2 x3 x4 x5 = some (hz, rz)) : Fw h hz := by
  unfold B_X10_nearest_90 at hJ
  exact m10 _ _ _ _ _ _ hJ
theorem wb_X10_nearest_83 (N : Nat) (k10 : Hp → Int32 → Int32 → Int32 → Int32 → Int32 → Option (Hp × Int32)) (t0 : Nat) (h : Hp) (x1 : Int32) (x2 : Int32) (x3 : Int32) (x4 : Int32) (x5 : Int32) (y0 : Int32) (m10 : ∀ (h : Hp) (x1 : Int32) (x2 : Int32) (x3 : Int32) (x4 : Int32) (x5 : Int32), k10 h x1 x2 x3 x4 x5 = some (hz, rz) → Fw h hz) (hJ : B_X10_nearest_83 N k10 t0 h x1 x2 x3 x4 x5 y0 = some (hz, rz)) : Fw h hz := by
  unfold B_X10_nearest_83 at hJ
  by_cases c1 : y0 = 0
  · have hJ := it_pos c1 hJ
    exact wb_X10_nearest_90 N k10 t0 _ _ _ _ _ _ m10 hJ
  · have hJ := it_neg c1 hJ
    exact wb_X10_nearest_90 N k10 t0 _ _ _ _ _ _ m10 hJ
theorem wb_X10_nearest_64 (N : Nat) (k10 : Hp → Int32 → Int32 → Int32 → Int32 → Int32 → Option (Hp × Int32)) (t0 : Nat) (h : Hp) (x1 : Int32) (x2 : Int32) (x3 : Int32) (x4 : Int32) (x5 : Int32) (y0 : Int32) (m10 : ∀ (h : Hp) (x1 : Int32) (x2 : Int32) (x3 : Int32) (x4 : Int32) (x5 : Int32), k10 h x1 x2 x3 x4 x5 = some (hz, rz) → Fw h hz) (hJ : B_X10_nearest_64 N k10 t0 h x1 x2 x3 x4 x5 y0 = some (hz, rz)) : Fw h hz := by
  unfold B_X10_nearest_64 at hJ
  by_cases c2 : y0 = 0
  · have hJ := it_pos c2 hJ
    exact wb_X10_nearest_90 N k10 t0 _ _ _ _ _ _ m10 hJ
  · have hJ := it_neg c2 hJ
    obtain ⟨a3, ea3, -, hJ⟩ := dr_some hJ
    obtain ⟨-, hJ⟩ := ck_some hJ
    obtain ⟨⟨h5, r6⟩, e7, hJ⟩ := ob_some hJ
    exact (wo_X10_sees N t0 h x1 (h.bi a3 x5.toNatClampNeg) e7).tr (wb_X10_nearest_83 N k10 t0 _ _ _ _ _ _ _ m10 hJ)
theorem wb_X10_nearest_44 (N : Nat) (k10 : Hp → Int32 → Int32 → Int32 → Int32 → Int32 → Option (Hp × Int32)) (t0 : Nat) (h : Hp) (x1 : Int32) (x2 : Int32) (x3 : Int32) (x4 : Int32) (x5 : Int32) (m10 : ∀ (h : Hp) (x1 : Int32) (x2 : Int32) (x3 : Int32) (x4 : Int32) (x5 : Int32), k10 h x1 x2 x3 x4 x5 = some (hz, rz) → Fw h hz) (hJ : B_X10_nearest_44 N k10 t0 h x1 x2 x3 x4 x5 = some (hz, rz)) : Fw h hz := by
  unfold B_X10_nearest_44 at hJ
  exact wb_X10_nearest_64 N k10 t0 _ _ _ _ _ _ _ m10 hJ
theorem wb_X10_nearest_10 (N : Nat) (k10 : Hp → Int32 → Int32 → Int32 → Int32 → Int32 → Option (Hp × Int32)) (t0 : Nat) (h : Hp) (x1 : Int32) (x2 : Int32) (x3 : Int32) (x4 : Int32) (x5 : Int32) (m10 : ∀ (h : Hp) (x1 : Int32) (x2 : Int32) (x3 : Int32) (x4 : Int32) (x5 : Int32), k10 h x1 x2 x3 x4 x5 = some (hz, rz) → Fw h hz) (hJ : B_X10_nearest_10 N k10 t0 h x1 x2 x3 x4 x5 = some (hz, rz)) : Fw h hz := by
  unfold B_X10_nearest_10 at hJ
  by_cases c9 : (h.gi 1353 t0) ≤ x5
  · have hJ := it_pos c9 hJ
    obtain ⟨rfl, -⟩ := rs2 hJ
    exact (Fw.rf h)
  · have hJ := it_neg c9 hJ
    by_cases c10 : x3 = 0
    · have hJ := it_pos c10 hJ
      obtain ⟨a11, ea11, -, hJ⟩ := dr_some hJ
      obtain ⟨-, hJ⟩ := ck_some hJ
      by_cases c13 : x2 < (h.bi a11 x5.toNatClampNeg)
      · have hJ := it_pos c13 hJ
        exact wb_X10_nearest_64 N k10 t0 _ _ _ _ _ _ _ m10 hJ
      · have hJ := it_neg c13 hJ
        exact wb_X10_nearest_64 N k10 t0 _ _ _ _ _ _ _ m10 hJ
    · have hJ := it_neg c10 hJ
      obtain ⟨a14, ea14, -, hJ⟩ := dr_some hJ
      obtain ⟨-, hJ⟩ := ck_some hJ
      by_cases c16 : (h.bi a14 x5.toNatClampNeg) < x2
      · have hJ := it_pos c16 hJ
        exact wb_X10_nearest_44 N k10 t0 _ _ _ _ _ _ m10 hJ
      · have hJ := it_neg c16 hJ
        by_cases c17 : x4 = (-1 : Int32)
        · have hJ := it_pos c17 hJ
          exact wb_X10_nearest_64 N k10 t0 _ _ _ _ _ _ _ m10 hJ
        · have hJ := it_neg c17 hJ
          exact wb_X10_nearest_44 N k10 t0 _ _ _ _ _ _ m10 hJ
theorem wl_X10_nearest_10 (N : Nat) (t0 : Nat) : ∀ (n : Nat) (h : Hp) (x1 : Int32) (x2 : Int32) (x3 : Int32) (x4 : Int32) (x5 : Int32), L_X10_nearest_10 N t0 n h x1 x2 x3 x4 x5 = some (hz, rz) → Fw h hz := by
  intro n
  induction n with
  | zero => intro h x1 x2 x3 x4 x5 hJ; cases hJ
  | succ n ih => intro h x1 x2 x3 x4 x5 hJ; exact wb_X10_nearest_10 N (L_X10_nearest_10 N t0 n) t0 h x1 x2 x3 x4 x5 ih hJ
theorem wb_X10_nearest_4 (N : Nat) (t0 : Nat) (h : Hp) (x1 : Int32) (x2 : Int32) (x3 : Int32) (hJ : B_X10_nearest_4 N t0 h x1 x2 x3 = some (hz, rz)) : Fw h hz := by
  unfold B_X10_nearest_4 at hJ
  exact wl_X10_nearest_10 N t0 N _ _ _ _ _ _ hJ
theorem wb_X10_nearest_0 (N : Nat) (t0 : Nat) (h : Hp) (x1 : Int32) (x2 : Int32) (x3 : Int32) (hJ : B_X10_nearest_0 N t0 h x1 x2 x3 = some (hz, rz)) : Fw h hz := by
  unfold B_X10_nearest_0 at hJ
  obtain ⟨⟨h18, r19⟩, e20, hJ⟩ := ob_some hJ
  exact (wo_X10_gatherKeys N t0 h e20).tr (wb_X10_nearest_4 N t0 _ _ _ _ hJ)
theorem wo_X10_nearest (N : Nat) (t0 : Nat) (h : Hp) (x1 : Int32) (x2 : Int32) (x3 : Int32) (hJ : J_X10_nearest N t0 h x1 x2 x3 = some (hz, rz)) : Fw h hz := wb_X10_nearest_0 N t0 h x1 x2 x3 hJ
end V_X10_nearest
section V_X10_near
variable {hz : Hp} {rz : Int32}
theorem wb_X10_near_133 (N : Nat) (t0 : Nat) (h : Hp) (x6 : Int32) (hJ : B_X10_near_133 N t0 h x6 = some (hz, rz)) : Fw h hz := by
  unfold B_X10_near_133 at hJ
  obtain ⟨a1, ea1, -, hJ⟩ := dr_some hJ
  obtain ⟨-, hJ⟩ := ck_some hJ
  obtain ⟨rfl, -⟩ := rs2 hJ
  exact (Fw.rf h)
theorem wb_X10_near_119 (N : Nat) (t0 : Nat) (h : Hp) (x5 : Int32) (x6 : Int32) (y0 : Int32) (hJ : B_X10_near_119 N t0 h x5 x6 y0 = some (hz, rz)) : Fw h hz := by
  unfold B_X10_near_119 at hJ
  obtain ⟨⟨h3, r4⟩, e5, hJ⟩ := ob_some hJ
  exact (wo_X10_found N t0 h x6 x5 (h.gl 1351 t0) e5).tr (wb_X10_near_133 N t0 _ _ hJ)
theorem wb_X10_near_104 (N : Nat) (t0 : Nat) (h : Hp) (x1 : Int32) (x4 : Int32) (x5 : Int32) (y0 : Int32) (hJ : B_X10_near_104 N t0 h x1 x4 x5 y0 = some (hz, rz)) : Fw h hz := by
  unfold B_X10_near_104 at hJ
  by_cases c7 : x4 = (-1 : Int32)
  · have hJ := it_pos c7 hJ
    exact wb_X10_near_133 N t0 _ _ hJ
  · have hJ := it_neg c7 hJ
    obtain ⟨⟨h8, r9⟩, e10, hJ⟩ := ob_some hJ
    exact (wo_X10_sees N t0 h x1 x5 e10).tr (wb_X10_near_119 N t0 _ _ _ _ hJ)
theorem wb_X10_near_99 (N : Nat) (t0 : Nat) (h : Hp) (x1 : Int32) (x2 : Int32) (x4 : Int32) (x5 : Int32) (y0 : Option Nat) (y1 : Int32) (hJ : B_X10_near_99 N t0 h x1 x2 x4 x5 y0 y1 = some (hz, rz)) : Fw h hz := by
  unfold B_X10_near_99 at hJ
  obtain ⟨a12, ea12, -, hJ⟩ := dr_some hJ
  obtain ⟨⟨h13, r14⟩, e15, hJ⟩ := ob_some hJ
  exact (wo_X10_log N a12 h y1 x1 x2 e15).tr (wb_X10_near_104 N t0 _ _ _ _ _ hJ)
theorem wb_X10_near_84 (N : Nat) (t0 : Nat) (h : Hp) (x1 : Int32) (x2 : Int32) (x3 : Int32) (x4 : Int32) (x5 : Int32) (y0 : Int32) (hJ : B_X10_near_84 N t0 h x1 x2 x3 x4 x5 y0 = some (hz, rz)) : Fw h hz := by
  unfold B_X10_near_84 at hJ
  by_cases c17 : y0 = 0
  · have hJ := it_pos c17 hJ
    obtain ⟨rfl, -⟩ := rs2 hJ
    exact (Fw.rf h)
  · have hJ := it_neg c17 hJ
    by_cases c18 : x3 = 0
    · have hJ := it_pos c18 hJ
      exact wb_X10_near_99 N t0 _ _ _ _ _ _ _ hJ
    · have hJ := it_neg c18 hJ
      exact wb_X10_near_99 N t0 _ _ _ _ _ _ _ hJ
theorem wb_X10_near_81 (N : Nat) (t0 : Nat) (h : Hp) (x1 : Int32) (x2 : Int32) (x3 : Int32) (x4 : Int32) (x5 : Int32) (y0 : Option Nat) (y1 : Int32) (y2 : Int32) (y3 : Int32) (hJ : B_X10_near_81 N t0 h x1 x2 x3 x4 x5 y0 y1 y2 y3 = some (hz, rz)) : Fw h hz := by
  unfold B_X10_near_81 at hJ
  obtain ⟨a19, ea19, -, hJ⟩ := dr_some hJ
  obtain ⟨⟨h20, r21⟩, e22, hJ⟩ := ob_some hJ
  exact (wo_X10_looks N a19 h y1 y2 y3 e22).tr (wb_X10_near_84 N t0 _ _ _ _ _ _ _ hJ)
theorem wb_X10_near_71 (N : Nat) (t0 : Nat) (h : Hp) (x1 : Int32) (x2 : Int32) (x3 : Int32) (x4 : Int32) (x5 : Int32) (y0 : Option Nat) (y1 : Int32) (y2 : Int32) (hJ : B_X10_near_71 N t0 h x1 x2 x3 x4 x5 y0 y1 y2 = some (hz, rz)) : Fw h hz := by
  unfold B_X10_near_71 at hJ
  by_cases c24 : x3 = 0
  · have hJ := it_pos c24 hJ
    exact wb_X10_near_81 N t0 _ _ _ _ _ _ _ _ _ _ hJ
  · have hJ := it_neg c24 hJ
    exact wb_X10_near_81 N t0 _ _ _ _ _ _ _ _ _ _ hJ
theorem wb_X10_near_57 (N : Nat) (t0 : Nat) (h : Hp) (x1 : Int32) (x2 : Int32) (x3 : Int32) (x4 : Int32) (y0 : Int32) (hJ : B_X10_near_57 N t0 h x1 x2 x3 x4 y0 = some (hz, rz)) : Fw h hz := by
  unfold B_X10_near_57 at hJ
  by_cases c25 : x3 = 0
  · have hJ := it_pos c25 hJ
    exact wb_X10_near_71 N t0 _ _ _ _ _ _ _ _ _ hJ
  · have hJ := it_neg c25 hJ
    exact wb_X10_near_71 N t0 _ _ _ _ _ _ _ _ _ hJ
theorem wb_X10_near_27 (N : Nat) (t0 : Nat) (h : Hp) (x1 : Int32) (x2 : Int32) (x3 : Int32) (y0 : Int32) (hJ : B_X10_near_27 N t0 h x1 x2 x3 y0 = some (hz, rz)) : Fw h hz := by
  unfold B_X10_near_27 at hJ
  by_cases c26 : y0 = (-1 : Int32)
  · have hJ := it_pos c26 hJ
    by_cases c27 : x3 = 0
    · have hJ := it_pos c27 hJ
      exact wb_X10_near_57 N t0 _ _ _ _ _ _ hJ
    · have hJ := it_neg c27 hJ
      exact wb_X10_near_57 N t0 _ _ _ _ _ _ hJ
  · have hJ := it_neg c26 hJ
    obtain ⟨a28, ea28, -, hJ⟩ := dr_some hJ
    obtain ⟨-, hJ⟩ := ck_some hJ
    exact wb_X10_near_57 N t0 _ _ _ _ _ _ hJ
theorem wb_X10_near_15 (N : Nat) (t0 : Nat) (h : Hp) (x1 : Int32) (x2 : Int32) (x3 : Int32) (y0 : Int32) (hJ : B_X10_near_15 N t0 h x1 x2 x3 y0 = some (hz, rz)) : Fw h hz := by
  unfold B_X10_near_15 at hJ
  by_cases c30 : y0 = 0
  · have hJ := it_pos c30 hJ
    obtain ⟨⟨h31, r32⟩, e33, hJ⟩ := ob_some hJ
    exact (wo_X10_nearest N t0 h x1 x2 x3 e33).tr (wb_X10_near_27 N t0 _ _ _ _ _ hJ)
  · have hJ := it_neg c30 hJ
    obtain ⟨rfl, -⟩ := rs2 hJ
    exact (Fw.rf h)
theorem wb_X10_near_0 (N : Nat) (t0 : Nat) (h : Hp) (x1 : Int32) (x2 : Int32) (x3 : Int32) (hJ : B_X10_near_0 N t0 h x1 x2 x3 = some (hz, rz)) : Fw h hz := by
  unfold B_X10_near_0 at hJ
  obtain ⟨⟨h35, r36⟩, e37, hJ⟩ := ob_some hJ
  exact (Fw.tr (show Fw h (h.sgi 1313 t0 ((h.gi 1313 t0) + (1 : Int32))) from (Fw.rf h)) ((wo_X10_isIdle N t0 (h.sgi 1313 t0 ((h.gi 1313 t0) + (1 : Int32))) x1 e37).tr (wb_X10_near_15 N t0 _ _ _ _ _ hJ)))
theorem wo_X10_near (N : Nat) (t0 : Nat) (h : Hp) (x1 : Int32) (x2 : Int32) (x3 : Int32) (hJ : J_X10_near N t0 h x1 x2 x3 = some (hz, rz)) : Fw h hz := wb_X10_near_0 N t0 h x1 x2 x3 hJ
end V_X10_near
