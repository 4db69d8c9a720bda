section V_X10_isFree
variable {hz : Hp} {rz : Int32}
theorem wb_X10_isFree_33 (N : Nat) (k2 : Hp → Int32 → Int32 → Option (Hp × Int32)) (t0 : Nat) (h : Hp) (x1 : Int32) (x2 : Int32) (m2 : ∀ (h : Hp) (x1 : Int32) (x2 : Int32), k2 h x1 x2 = some (hz, rz) → Fw h hz) (hJ : B_X10_isFree_33 N k2 t0 h x1 x2 = some (hz, rz)) : Fw h hz := by
  unfold B_X10_isFree_33 at hJ
  exact m2 _ _ _ hJ
theorem wb_X10_isFree_28 (N : Nat) (k2 : Hp → Int32 → Int32 → Option (Hp × Int32)) (t0 : Nat) (h : Hp) (x1 : Int32) (x2 : Int32) (y0 : Int32) (m2 : ∀ (h : Hp) (x1 : Int32) (x2 : Int32), k2 h x1 x2 = some (hz, rz) → Fw h hz) (hJ : B_X10_isFree_28 N k2 t0 h x1 x2 y0 = some (hz, rz)) : Fw h hz := by
  unfold B_X10_isFree_28 at hJ
  by_cases c1 : y0 = 0
  · have hJ := it_pos c1 hJ
    exact wb_X10_isFree_33 N k2 t0 _ _ _ m2 hJ
  · have hJ := it_neg c1 hJ
    obtain ⟨rfl, -⟩ := rs2 hJ
    exact (Fw.rf h)
theorem wb_X10_isFree_2 (N : Nat) (k2 : Hp → Int32 → Int32 → Option (Hp × Int32)) (t0 : Nat) (h : Hp) (x1 : Int32) (x2 : Int32) (m2 : ∀ (h : Hp) (x1 : Int32) (x2 : Int32), k2 h x1 x2 = some (hz, rz) → Fw h hz) (hJ : B_X10_isFree_2 N k2 t0 h x1 x2 = some (hz, rz)) : Fw h hz := by
  unfold B_X10_isFree_2 at hJ
  by_cases c2 : (h.gi 1311 t0) < x2
  · have hJ := it_pos c2 hJ
    obtain ⟨rfl, -⟩ := rs2 hJ
    exact (Fw.rf h)
  · have hJ := it_neg c2 hJ
    obtain ⟨a3, ea3, -, hJ⟩ := dr_some hJ
    obtain ⟨-, hJ⟩ := ck_some hJ
    by_cases c5 : (h.bi a3 x2.toNatClampNeg) = 0
    · have hJ := it_pos c5 hJ
      obtain ⟨⟨h6, r7⟩, e8, hJ⟩ := ob_some hJ
      exact (wo_X10_has N h (h.gr 1356 t0) x2 x1 e8).tr (wb_X10_isFree_28 N k2 t0 _ _ _ _ m2 hJ)
    · have hJ := it_neg c5 hJ
      exact wb_X10_isFree_33 N k2 t0 _ _ _ m2 hJ
theorem wl_X10_isFree_2 (N : Nat) (t0 : Nat) : ∀ (n : Nat) (h : Hp) (x1 : Int32) (x2 : Int32), L_X10_isFree_2 N t0 n h x1 x2 = some (hz, rz) → Fw h hz := by
  intro n
  induction n with
  | zero => intro h x1 x2 hJ; cases hJ
  | succ n ih => intro h x1 x2 hJ; exact wb_X10_isFree_2 N (L_X10_isFree_2 N t0 n) t0 h x1 x2 ih hJ
theorem wb_X10_isFree_0 (N : Nat) (t0 : Nat) (h : Hp) (x1 : Int32) (hJ : B_X10_isFree_0 N t0 h x1 = some (hz, rz)) : Fw h hz := by
  unfold B_X10_isFree_0 at hJ
  exact wl_X10_isFree_2 N t0 N _ _ _ hJ
theorem wo_X10_isFree (N : Nat) (t0 : Nat) (h : Hp) (x1 : Int32) (hJ : J_X10_isFree N t0 h x1 = some (hz, rz)) : Fw h hz := wb_X10_isFree_0 N t0 h x1 hJ
end V_X10_isFree
section V_X10_onRings
variable {hz : Hp} {rz : Int32}
theorem wb_X10_onRings_103 (N : Nat) (k31 : Hp → Int32 → Option (Hp × Int32)) (k41 : Hp → Int32 → Int32 → Option (Hp × Int32)) (t0 : Nat) (h : Hp) (x1 : Int32) (x2 : Int32) (m31 : ∀ (h : Hp) (x1 : Int32), k31 h x1 = some (hz, rz) → Fw h hz) (m41 : ∀ (h : Hp) (x1 : Int32) (x2 : Int32), k41 h x1 x2 = some (hz, rz) → Fw h hz) (hJ : B_X10_onRings_103 N k31 k41 t0 h x1 x2 = some (hz, rz)) : Fw h hz := by
  unfold B_X10_onRings_103 at hJ
  exact m41 _ _ _ hJ
theorem wb_X10_onRings_66 (N : Nat) (k31 : Hp → Int32 → Option (Hp × Int32)) (k41 : Hp → Int32 → Int32 → Option (Hp × Int32)) (k66 : Hp → Int32 → Int32 → Int32 → Option (Hp × Int32)) (t0 : Nat) (h : Hp) (x1 : Int32) (x2 : Int32) (x3 : Int32) (m31 : ∀ (h : Hp) (x1 : Int32), k31 h x1 = some (hz, rz) → Fw h hz) (m41 : ∀ (h : Hp) (x1 : Int32) (x2 : Int32), k41 h x1 x2 = some (hz, rz) → Fw h hz) (m66 : ∀ (h : Hp) (x1 : Int32) (x2 : Int32) (x3 : Int32), k66 h x1 x2 x3 = some (hz, rz) → Fw h hz) (hJ : B_X10_onRings_66 N k31 k41 k66 t0 h x1 x2 x3 = some (hz, rz)) : Fw h hz := by
  unfold B_X10_onRings_66 at hJ
  by_cases c1 : (9 : Int32) ≤ x3
  · have hJ := it_pos c1 hJ
    exact wb_X10_onRings_103 N k31 k41 t0 _ _ _ m31 m41 hJ
  · have hJ := it_neg c1 hJ
    obtain ⟨a2, ea2, -, hJ⟩ := dr_some hJ
    obtain ⟨-, hJ⟩ := ck_some hJ
    obtain ⟨a4, ea4, -, hJ⟩ := dr_some hJ
    obtain ⟨-, hJ⟩ := ck_some hJ
    obtain ⟨-, hJ⟩ := ck_some hJ
    exact (Fw.tr (show Fw h (h.sbw a2 (((9 : Int32) * x2) + x3).toNatClampNeg ((h.bw a2 (((9 : Int32) * x2) + x3).toNatClampNeg) ||| (h.bw a4 (((9 : Int32) * x1) + x3).toNatClampNeg))) from (Fw.rf h)) (m66 _ _ _ _ hJ))
theorem wl_X10_onRings_66 (N : Nat) (k31 : Hp → Int32 → Option (Hp × Int32)) (k41 : Hp → Int32 → Int32 → Option (Hp × Int32)) (t0 : Nat) (m31 : ∀ (h : Hp) (x1 : Int32), k31 h x1 = some (hz, rz) → Fw h hz) (m41 : ∀ (h : Hp) (x1 : Int32) (x2 : Int32), k41 h x1 x2 = some (hz, rz) → Fw h hz) : ∀ (n : Nat) (h : Hp) (x1 : Int32) (x2 : Int32) (x3 : Int32), L_X10_onRings_66 N k31 k41 t0 n h x1 x2 x3 = some (hz, rz) → Fw h hz := by
  intro n
  induction n with
  | zero => intro h x1 x2 x3 hJ; cases hJ
  | succ n ih => intro h x1 x2 x3 hJ; exact wb_X10_onRings_66 N k31 k41 (L_X10_onRings_66 N k31 k41 t0 n) t0 h x1 x2 x3 m31 m41 ih hJ
theorem wb_X10_onRings_58 (N : Nat) (k31 : Hp → Int32 → Option (Hp × Int32)) (k41 : Hp → Int32 → Int32 → Option (Hp × Int32)) (t0 : Nat) (h : Hp) (x1 : Int32) (x2 : Int32) (y0 : Int32) (m31 : ∀ (h : Hp) (x1 : Int32), k31 h x1 = some (hz, rz) → Fw h hz) (m41 : ∀ (h : Hp) (x1 : Int32) (x2 : Int32), k41 h x1 x2 = some (hz, rz) → Fw h hz) (hJ : B_X10_onRings_58 N k31 k41 t0 h x1 x2 y0 = some (hz, rz)) : Fw h hz := by
  unfold B_X10_onRings_58 at hJ
  by_cases c7 : y0 = 0
  · have hJ := it_pos c7 hJ
    exact wb_X10_onRings_103 N k31 k41 t0 _ _ _ m31 m41 hJ
  · have hJ := it_neg c7 hJ
    exact wl_X10_onRings_66 N k31 k41 t0 m31 m41 N _ _ _ _ hJ
theorem wb_X10_onRings_41 (N : Nat) (k31 : Hp → Int32 → Option (Hp × Int32)) (k41 : Hp → Int32 → Int32 → Option (Hp × Int32)) (t0 : Nat) (h : Hp) (x1 : Int32) (x2 : Int32) (m31 : ∀ (h : Hp) (x1 : Int32), k31 h x1 = some (hz, rz) → Fw h hz) (m41 : ∀ (h : Hp) (x1 : Int32) (x2 : Int32), k41 h x1 x2 = some (hz, rz) → Fw h hz) (hJ : B_X10_onRings_41 N k31 k41 t0 h x1 x2 = some (hz, rz)) : Fw h hz := by
  unfold B_X10_onRings_41 at hJ
  by_cases c8 : (h.gi 1311 t0) < x2
  · have hJ := it_pos c8 hJ
    exact m31 _ _ hJ
  · have hJ := it_neg c8 hJ
    obtain ⟨⟨h9, r10⟩, e11, hJ⟩ := ob_some hJ
    exact (wo_X10_has N h (h.gr 1357 t0) x2 x1 e11).tr (wb_X10_onRings_58 N k31 k41 t0 _ _ _ _ m31 m41 hJ)
theorem wl_X10_onRings_41 (N : Nat) (k31 : Hp → Int32 → Option (Hp × Int32)) (t0 : Nat) (m31 : ∀ (h : Hp) (x1 : Int32), k31 h x1 = some (hz, rz) → Fw h hz) : ∀ (n : Nat) (h : Hp) (x1 : Int32) (x2 : Int32), L_X10_onRings_41 N k31 t0 n h x1 x2 = some (hz, rz) → Fw h hz := by
  intro n
  induction n with
  | zero => intro h x1 x2 hJ; cases hJ
  | succ n ih => intro h x1 x2 hJ; exact wb_X10_onRings_41 N k31 (L_X10_onRings_41 N k31 t0 n) t0 h x1 x2 m31 ih hJ
theorem wb_X10_onRings_145 (N : Nat) (k119 : Hp → Int32 → Int32 → Option (Hp × Int32)) (t0 : Nat) (h : Hp) (x2 : Int32) (y0 : Int32) (y1 : Int32) (m119 : ∀ (h : Hp) (x1 : Int32) (x2 : Int32), k119 h x1 x2 = some (hz, rz) → Fw h hz) (hJ : B_X10_onRings_145 N k119 t0 h x2 y0 y1 = some (hz, rz)) : Fw h hz := by
  unfold B_X10_onRings_145 at hJ
  exact m119 _ _ _ hJ
theorem wb_X10_onRings_137 (N : Nat) (k119 : Hp → Int32 → Int32 → Option (Hp × Int32)) (t0 : Nat) (h : Hp) (x2 : Int32) (y0 : Int32) (y1 : Int32) (m119 : ∀ (h : Hp) (x1 : Int32) (x2 : Int32), k119 h x1 x2 = some (hz, rz) → Fw h hz) (hJ : B_X10_onRings_137 N k119 t0 h x2 y0 y1 = some (hz, rz)) : Fw h hz := by
  unfold B_X10_onRings_137 at hJ
  by_cases c13 : y1 = 0
  · have hJ := it_pos c13 hJ
    exact wb_X10_onRings_145 N k119 t0 _ _ _ _ m119 hJ
  · have hJ := it_neg c13 hJ
    exact wb_X10_onRings_145 N k119 t0 _ _ _ _ m119 hJ
theorem wb_X10_onRings_119 (N : Nat) (k119 : Hp → Int32 → Int32 → Option (Hp × Int32)) (t0 : Nat) (h : Hp) (x1 : Int32) (x2 : Int32) (m119 : ∀ (h : Hp) (x1 : Int32) (x2 : Int32), k119 h x1 x2 = some (hz, rz) → Fw h hz) (hJ : B_X10_onRings_119 N k119 t0 h x1 x2 = some (hz, rz)) : Fw h hz := by
  unfold B_X10_onRings_119 at hJ
  by_cases c14 : (h.gi 1311 t0) < x2
  · have hJ := it_pos c14 hJ
    obtain ⟨rfl, -⟩ := rs2 hJ
    exact (Fw.rf h)
  · have hJ := it_neg c14 hJ
    obtain ⟨⟨h15, r16⟩, e17, hJ⟩ := ob_some hJ
    exact (wo_X10_has N h (h.gr 1357 t0) x2 x2 e17).tr (wb_X10_onRings_137 N k119 t0 _ _ _ _ m119 hJ)
theorem wl_X10_onRings_119 (N : Nat) (t0 : Nat) : ∀ (n : Nat) (h : Hp) (x1 : Int32) (x2 : Int32), L_X10_onRings_119 N t0 n h x1 x2 = some (hz, rz) → Fw h hz := by
  intro n
  induction n with
  | zero => intro h x1 x2 hJ; cases hJ
  | succ n ih => intro h x1 x2 hJ; exact wb_X10_onRings_119 N (L_X10_onRings_119 N t0 n) t0 h x1 x2 ih hJ
theorem wb_X10_onRings_31 (N : Nat) (k31 : Hp → Int32 → Option (Hp × Int32)) (t0 : Nat) (h : Hp) (x1 : Int32) (m31 : ∀ (h : Hp) (x1 : Int32), k31 h x1 = some (hz, rz) → Fw h hz) (hJ : B_X10_onRings_31 N k31 t0 h x1 = some (hz, rz)) : Fw h hz := by
  unfold B_X10_onRings_31 at hJ
  by_cases c19 : (h.gi 1311 t0) < x1
  · have hJ := it_pos c19 hJ
    exact wl_X10_onRings_119 N t0 N _ _ _ hJ
  · have hJ := it_neg c19 hJ
    exact wl_X10_onRings_41 N k31 t0 m31 N _ _ _ hJ
theorem wl_X10_onRings_31 (N : Nat) (t0 : Nat) : ∀ (n : Nat) (h : Hp) (x1 : Int32), L_X10_onRings_31 N t0 n h x1 = some (hz, rz) → Fw h hz := by
  intro n
  induction n with
  | zero => intro h x1 hJ; cases hJ
  | succ n ih => intro h x1 hJ; exact wb_X10_onRings_31 N (L_X10_onRings_31 N t0 n) t0 h x1 ih hJ
theorem wb_X10_onRings_2 (N : Nat) (k2 : Hp → Int32 → Option (Hp × Int32)) (t0 : Nat) (h : Hp) (x1 : Int32) (m2 : ∀ (h : Hp) (x1 : Int32), k2 h x1 = some (hz, rz) → Fw h hz) (hJ : B_X10_onRings_2 N k2 t0 h x1 = some (hz, rz)) : Fw h hz := by
  unfold B_X10_onRings_2 at hJ
  obtain ⟨a20, ea20, -, hJ⟩ := dr_some hJ
  by_cases c21 : (nI (h.al a20)) ≤ x1
  · have hJ := it_pos c21 hJ
    exact wl_X10_onRings_31 N t0 N _ _ hJ
  · have hJ := it_neg c21 hJ
    obtain ⟨a22, ea22, -, hJ⟩ := dr_some hJ
    obtain ⟨-, hJ⟩ := ck_some hJ
    obtain ⟨a24, ea24, -, hJ⟩ := dr_some hJ
    obtain ⟨-, hJ⟩ := ck_some hJ
    exact (Fw.tr (show Fw h (h.sbw a24 x1.toNatClampNeg (h.bw a22 x1.toNatClampNeg)) from (Fw.rf h)) (m2 _ _ hJ))
theorem wl_X10_onRings_2 (N : Nat) (t0 : Nat) : ∀ (n : Nat) (h : Hp) (x1 : Int32), L_X10_onRings_2 N t0 n h x1 = some (hz, rz) → Fw h hz := by
  intro n
  induction n with
  | zero => intro h x1 hJ; cases hJ
  | succ n ih => intro h x1 hJ; exact wb_X10_onRings_2 N (L_X10_onRings_2 N t0 n) t0 h x1 ih hJ
theorem wb_X10_onRings_0 (N : Nat) (t0 : Nat) (h : Hp) (hJ : B_X10_onRings_0 N t0 h = some (hz, rz)) : Fw h hz := by
  unfold B_X10_onRings_0 at hJ
  exact wl_X10_onRings_2 N t0 N _ _ hJ
theorem wo_X10_onRings (N : Nat) (t0 : Nat) (h : Hp) (hJ : J_X10_onRings N t0 h = some (hz, rz)) : Fw h hz := wb_X10_onRings_0 N t0 h hJ
end V_X10_onRings
section V_X10_astray
variable {hz : Hp} {rz : Int32}
theorem wb_X10_astray_77 (N : Nat) (k49 : Hp → Int32 → Option (Hp × Int32)) (t0 : Nat) (h : Hp) (x2 : Int32) (y0 : Option Nat) (y1 : Int32) (y2 : Int32) (m49 : ∀ (h : Hp) (x2 : Int32), k49 h x2 = some (hz, rz) → Fw h hz) (hJ : B_X10_astray_77 N k49 t0 h x2 y0 y1 y2 = some (hz, rz)) : Fw h hz := by
  unfold B_X10_astray_77 at hJ
  obtain ⟨a1, ea1, -, hJ⟩ := dr_some hJ
  obtain ⟨-, hJ⟩ := ck_some hJ
  obtain ⟨-, hJ⟩ := ck_some hJ
  exact (Fw.tr (show Fw h (h.sbi a1 y1.toNatClampNeg y2) from (Fw.rf h)) (m49 _ _ hJ))
theorem wb_X10_astray_156 (N : Nat) (k88 : Hp → Int32 → Int32 → Option (Hp × Int32)) (k102 : Hp → Int32 → Int32 → Int32 → Int32 → Option (Hp × Int32)) (t0 : Nat) (h : Hp) (x2 : Int32) (x3 : Int32) (x4 : Int32) (x5 : Int32) (m88 : ∀ (h : Hp) (x2 : Int32) (x3 : Int32), k88 h x2 x3 = some (hz, rz) → Fw h hz) (m102 : ∀ (h : Hp) (x2 : Int32) (x3 : Int32) (x4 : Int32) (x5 : Int32), k102 h x2 x3 x4 x5 = some (hz, rz) → Fw h hz) (hJ : B_X10_astray_156 N k88 k102 t0 h x2 x3 x4 x5 = some (hz, rz)) : Fw h hz := by
  unfold B_X10_astray_156 at hJ
  exact m102 _ _ _ _ _ hJ
theorem wb_X10_astray_149 (N : Nat) (k88 : Hp → Int32 → Int32 → Option (Hp × Int32)) (k102 : Hp → Int32 → Int32 → Int32 → Int32 → Option (Hp × Int32)) (t0 : Nat) (h : Hp) (x2 : Int32) (x3 : Int32) (x4 : Int32) (x5 : Int32) (y0 : Int32) (m88 : ∀ (h : Hp) (x2 : Int32) (x3 : Int32), k88 h x2 x3 = some (hz, rz) → Fw h hz) (m102 : ∀ (h : Hp) (x2 : Int32) (x3 : Int32) (x4 : Int32) (x5 : Int32), k102 h x2 x3 x4 x5 = some (hz, rz) → Fw h hz) (hJ : B_X10_astray_149 N k88 k102 t0 h x2 x3 x4 x5 y0 = some (hz, rz)) : Fw h hz := by
  unfold B_X10_astray_149 at hJ
  by_cases c4 : y0 = 0
  · have hJ := it_pos c4 hJ
    exact wb_X10_astray_156 N k88 k102 t0 _ _ _ _ _ m88 m102 hJ
  · have hJ := it_neg c4 hJ
    exact wb_X10_astray_156 N k88 k102 t0 _ _ _ _ _ m88 m102 hJ
theorem wb_X10_astray_143 (N : Nat) (k88 : Hp → Int32 → Int32 → Option (Hp × Int32)) (k102 : Hp → Int32 → Int32 → Int32 → Int32 → Option (Hp × Int32)) (t0 : Nat) (h : Hp) (x2 : Int32) (x3 : Int32) (x4 : Int32) (x5 : Int32) (m88 : ∀ (h : Hp) (x2 : Int32) (x3 : Int32), k88 h x2 x3 = some (hz, rz) → Fw h hz) (m102 : ∀ (h : Hp) (x2 : Int32) (x3 : Int32) (x4 : Int32) (x5 : Int32), k102 h x2 x3 x4 x5 = some (hz, rz) → Fw h hz) (hJ : B_X10_astray_143 N k88 k102 t0 h x2 x3 x4 x5 = some (hz, rz)) : Fw h hz := by
  unfold B_X10_astray_143 at hJ
  obtain ⟨⟨h5, r6⟩, e7, hJ⟩ := ob_some hJ
  exact (wo_X10_isFree N t0 h x5 e7).tr (wb_X10_astray_149 N k88 k102 t0 _ _ _ _ _ _ m88 m102 hJ)
theorem wb_X10_astray_169 (N : Nat) (k88 : Hp → Int32 → Int32 → Option (Hp × Int32)) (t0 : Nat) (h : Hp) (x3 : Int32) (x4 : Int32) (y0 : Int32) (y1 : Int32) (m88 : ∀ (h : Hp) (x2 : Int32) (x3 : Int32), k88 h x2 x3 = some (hz, rz) → Fw h hz) (hJ : B_X10_astray_169 N k88 t0 h x3 x4 y0 y1 = some (hz, rz)) : Fw h hz := by
  unfold B_X10_astray_169 at hJ
  obtain ⟨a9, ea9, -, hJ⟩ := dr_some hJ
  obtain ⟨-, hJ⟩ := ck_some hJ
  exact (Fw.tr (show Fw h (h.sbi a9 x4.toNatClampNeg (1 : Int32)) from (Fw.rf h)) (m88 _ _ _ hJ))
theorem wb_X10_astray_102 (N : Nat) (k88 : Hp → Int32 → Int32 → Option (Hp × Int32)) (k102 : Hp → Int32 → Int32 → Int32 → Int32 → Option (Hp × Int32)) (t0 : Nat) (h : Hp) (x2 : Int32) (x3 : Int32) (x4 : Int32) (x5 : Int32) (m88 : ∀ (h : Hp) (x2 : Int32) (x3 : Int32), k88 h x2 x3 = some (hz, rz) → Fw h hz) (m102 : ∀ (h : Hp) (x2 : Int32) (x3 : Int32) (x4 : Int32) (x5 : Int32), k102 h x2 x3 x4 x5 = some (hz, rz) → Fw h hz) (hJ : B_X10_astray_102 N k88 k102 t0 h x2 x3 x4 x5 = some (hz, rz)) : Fw h hz := by
  unfold B_X10_astray_102 at hJ
  by_cases c11 : (h.gi 1311 t0) < x5
  · have hJ := it_pos c11 hJ
    obtain ⟨⟨h12, r13⟩, e14, hJ⟩ := ob_some hJ
    exact (wo_X10_again N t0 h x4 e14).tr (wb_X10_astray_169 N k88 t0 _ _ _ _ _ m88 hJ)
  · have hJ := it_neg c11 hJ
    obtain ⟨a16, ea16, -, hJ⟩ := dr_some hJ
    obtain ⟨-, hJ⟩ := ck_some hJ
    by_cases c18 : (h.bi a16 x5.toNatClampNeg) = 0
    · have hJ := it_pos c18 hJ
      by_cases c19 : x4 = 0
      · have hJ := it_pos c19 hJ
        exact wb_X10_astray_143 N k88 k102 t0 _ _ _ _ _ m88 m102 hJ
      · have hJ := it_neg c19 hJ
        obtain ⟨a20, ea20, -, hJ⟩ := dr_some hJ
        obtain ⟨-, hJ⟩ := ck_some hJ
        obtain ⟨a22, ea22, -, hJ⟩ := dr_some hJ
        obtain ⟨-, hJ⟩ := ck_some hJ
        by_cases c24 : (h.bi a22 x4.toNatClampNeg) ≤ (h.bi a20 x5.toNatClampNeg)
        · have hJ := it_pos c24 hJ
          exact wb_X10_astray_156 N k88 k102 t0 _ _ _ _ _ m88 m102 hJ
        · have hJ := it_neg c24 hJ
          exact wb_X10_astray_143 N k88 k102 t0 _ _ _ _ _ m88 m102 hJ
    · have hJ := it_neg c18 hJ
      exact wb_X10_astray_156 N k88 k102 t0 _ _ _ _ _ m88 m102 hJ
theorem wl_X10_astray_102 (N : Nat) (k88 : Hp → Int32 → Int32 → Option (Hp × Int32)) (t0 : Nat) (m88 : ∀ (h : Hp) (x2 : Int32) (x3 : Int32), k88 h x2 x3 = some (hz, rz) → Fw h hz) : ∀ (n : Nat) (h : Hp) (x2 : Int32) (x3 : Int32) (x4 : Int32) (x5 : Int32), L_X10_astray_102 N k88 t0 n h x2 x3 x4 x5 = some (hz, rz) → Fw h hz := by
  intro n
  induction n with
  | zero => intro h x2 x3 x4 x5 hJ; cases hJ
  | succ n ih => intro h x2 x3 x4 x5 hJ; exact wb_X10_astray_102 N k88 (L_X10_astray_102 N k88 t0 n) t0 h x2 x3 x4 x5 m88 ih hJ
theorem wb_X10_astray_285 (N : Nat) (k187 : Hp → Int32 → Int32 → Option (Hp × Int32)) (t0 : Nat) (h : Hp) (x3 : Int32) (y0 : Int32) (y1 : Int32) (m187 : ∀ (h : Hp) (x2 : Int32) (x3 : Int32), k187 h x2 x3 = some (hz, rz) → Fw h hz) (hJ : B_X10_astray_285 N k187 t0 h x3 y0 y1 = some (hz, rz)) : Fw h hz := by
  unfold B_X10_astray_285 at hJ
  exact m187 _ _ _ hJ
theorem wb_X10_astray_272 (N : Nat) (k187 : Hp → Int32 → Int32 → Option (Hp × Int32)) (t0 : Nat) (h : Hp) (x2 : Int32) (x3 : Int32) (y0 : Int32) (m187 : ∀ (h : Hp) (x2 : Int32) (x3 : Int32), k187 h x2 x3 = some (hz, rz) → Fw h hz) (hJ : B_X10_astray_272 N k187 t0 h x2 x3 y0 = some (hz, rz)) : Fw h hz := by
  unfold B_X10_astray_272 at hJ
  by_cases c25 : y0 = 0
  · have hJ := it_pos c25 hJ
    exact wb_X10_astray_285 N k187 t0 _ _ _ _ m187 hJ
  · have hJ := it_neg c25 hJ
    exact wb_X10_astray_285 N k187 t0 _ _ _ _ m187 hJ
theorem wb_X10_astray_267 (N : Nat) (k187 : Hp → Int32 → Int32 → Option (Hp × Int32)) (t0 : Nat) (h : Hp) (x2 : Int32) (x3 : Int32) (m187 : ∀ (h : Hp) (x2 : Int32) (x3 : Int32), k187 h x2 x3 = some (hz, rz) → Fw h hz) (hJ : B_X10_astray_267 N k187 t0 h x2 x3 = some (hz, rz)) : Fw h hz := by
  unfold B_X10_astray_267 at hJ
  exact wb_X10_astray_272 N k187 t0 _ _ _ _ m187 hJ
theorem wb_X10_astray_271 (N : Nat) (k187 : Hp → Int32 → Int32 → Option (Hp × Int32)) (t0 : Nat) (h : Hp) (x2 : Int32) (x3 : Int32) (m187 : ∀ (h : Hp) (x2 : Int32) (x3 : Int32), k187 h x2 x3 = some (hz, rz) → Fw h hz) (hJ : B_X10_astray_271 N k187 t0 h x2 x3 = some (hz, rz)) : Fw h hz := by
  unfold B_X10_astray_271 at hJ
  exact wb_X10_astray_272 N k187 t0 _ _ _ _ m187 hJ
theorem wb_X10_astray_232 (N : Nat) (k187 : Hp → Int32 → Int32 → Option (Hp × Int32)) (t0 : Nat) (h : Hp) (x2 : Int32) (x3 : Int32) (x4 : Int32) (y0 : Int32) (m187 : ∀ (h : Hp) (x2 : Int32) (x3 : Int32), k187 h x2 x3 = some (hz, rz) → Fw h hz) (hJ : B_X10_astray_232 N k187 t0 h x2 x3 x4 y0 = some (hz, rz)) : Fw h hz := by
  unfold B_X10_astray_232 at hJ
  obtain ⟨a26, ea26, -, hJ⟩ := dr_some hJ
  obtain ⟨-, hJ⟩ := ck_some hJ
  by_cases c28 : y0 = (h.bi a26 x3.toNatClampNeg)
  · have hJ := it_pos c28 hJ
    by_cases c29 : y0 = 0
    · have hJ := it_pos c29 hJ
      exact wb_X10_astray_267 N k187 t0 _ _ _ m187 hJ
    · have hJ := it_neg c29 hJ
      obtain ⟨a30, ea30, -, hJ⟩ := dr_some hJ
      obtain ⟨-, hJ⟩ := ck_some hJ
      obtain ⟨a32, ea32, -, hJ⟩ := dr_some hJ
      obtain ⟨-, hJ⟩ := ck_some hJ
      by_cases c34 : (lg_cmp (h.bw a30 x4.toNatClampNeg) (h.bw a32 x3.toNatClampNeg)) = 0
      · have hJ := it_pos c34 hJ
        exact wb_X10_astray_267 N k187 t0 _ _ _ m187 hJ
      · have hJ := it_neg c34 hJ
        exact wb_X10_astray_271 N k187 t0 _ _ _ m187 hJ
  · have hJ := it_neg c28 hJ
    exact wb_X10_astray_271 N k187 t0 _ _ _ m187 hJ
theorem wb_X10_astray_231 (N : Nat) (k187 : Hp → Int32 → Int32 → Option (Hp × Int32)) (t0 : Nat) (h : Hp) (x2 : Int32) (x3 : Int32) (x4 : Int32) (m187 : ∀ (h : Hp) (x2 : Int32) (x3 : Int32), k187 h x2 x3 = some (hz, rz) → Fw h hz) (hJ : B_X10_astray_231 N k187 t0 h x2 x3 x4 = some (hz, rz)) : Fw h hz := by
  unfold B_X10_astray_231 at hJ
  exact wb_X10_astray_232 N k187 t0 _ _ _ _ _ m187 hJ
theorem wb_X10_astray_209 (N : Nat) (k187 : Hp → Int32 → Int32 → Option (Hp × Int32)) (t0 : Nat) (h : Hp) (x2 : Int32) (x3 : Int32) (y0 : Int32) (m187 : ∀ (h : Hp) (x2 : Int32) (x3 : Int32), k187 h x2 x3 = some (hz, rz) → Fw h hz) (hJ : B_X10_astray_209 N k187 t0 h x2 x3 y0 = some (hz, rz)) : Fw h hz := by
  unfold B_X10_astray_209 at hJ
  by_cases c35 : y0 = (-1 : Int32)
  · have hJ := it_pos c35 hJ
    exact wb_X10_astray_231 N k187 t0 _ _ _ _ m187 hJ
  · have hJ := it_neg c35 hJ
    obtain ⟨a36, ea36, -, hJ⟩ := dr_some hJ
    obtain ⟨-, hJ⟩ := ck_some hJ
    by_cases c38 : (h.bi a36 y0.toNatClampNeg) = 0
    · have hJ := it_pos c38 hJ
      exact wb_X10_astray_231 N k187 t0 _ _ _ _ m187 hJ
    · have hJ := it_neg c38 hJ
      exact wb_X10_astray_232 N k187 t0 _ _ _ _ _ m187 hJ
theorem wb_X10_astray_187 (N : Nat) (k187 : Hp → Int32 → Int32 → Option (Hp × Int32)) (t0 : Nat) (h : Hp) (x2 : Int32) (x3 : Int32) (m187 : ∀ (h : Hp) (x2 : Int32) (x3 : Int32), k187 h x2 x3 = some (hz, rz) → Fw h hz) (hJ : B_X10_astray_187 N k187 t0 h x2 x3 = some (hz, rz)) : Fw h hz := by
  unfold B_X10_astray_187 at hJ
  by_cases c39 : (h.gi 1353 t0) ≤ x3
  · have hJ := it_pos c39 hJ
    obtain ⟨rfl, -⟩ := rs2 hJ
    exact (Fw.rf h)
  · have hJ := it_neg c39 hJ
    obtain ⟨a40, ea40, -, hJ⟩ := dr_some hJ
    obtain ⟨-, hJ⟩ := ck_some hJ
    obtain ⟨⟨h42, r43⟩, e44, hJ⟩ := ob_some hJ
    exact (wo_X10_versionAt N t0 h (h.bi a40 x3.toNatClampNeg) (h.gi 1312 t0) e44).tr (wb_X10_astray_209 N k187 t0 _ _ _ _ m187 hJ)
theorem wl_X10_astray_187 (N : Nat) (t0 : Nat) : ∀ (n : Nat) (h : Hp) (x2 : Int32) (x3 : Int32), L_X10_astray_187 N t0 n h x2 x3 = some (hz, rz) → Fw h hz := by
  intro n
  induction n with
  | zero => intro h x2 x3 hJ; cases hJ
  | succ n ih => intro h x2 x3 hJ; exact wb_X10_astray_187 N (L_X10_astray_187 N t0 n) t0 h x2 x3 ih hJ
theorem wb_X10_astray_88 (N : Nat) (k88 : Hp → Int32 → Int32 → Option (Hp × Int32)) (t0 : Nat) (h : Hp) (x2 : Int32) (x3 : Int32) (m88 : ∀ (h : Hp) (x2 : Int32) (x3 : Int32), k88 h x2 x3 = some (hz, rz) → Fw h hz) (hJ : B_X10_astray_88 N k88 t0 h x2 x3 = some (hz, rz)) : Fw h hz := by
  unfold B_X10_astray_88 at hJ
  by_cases c46 : (h.gi 1312 t0) ≤ x3
  · have hJ := it_pos c46 hJ
    exact wl_X10_astray_187 N t0 N _ _ _ hJ
  · have hJ := it_neg c46 hJ
    exact wl_X10_astray_102 N k88 t0 m88 N _ _ _ _ _ hJ
theorem wl_X10_astray_88 (N : Nat) (t0 : Nat) : ∀ (n : Nat) (h : Hp) (x2 : Int32) (x3 : Int32), L_X10_astray_88 N t0 n h x2 x3 = some (hz, rz) → Fw h hz := by
  intro n
  induction n with
  | zero => intro h x2 x3 hJ; cases hJ
  | succ n ih => intro h x2 x3 hJ; exact wb_X10_astray_88 N (L_X10_astray_88 N t0 n) t0 h x2 x3 ih hJ
theorem wb_X10_astray_49 (N : Nat) (k49 : Hp → Int32 → Option (Hp × Int32)) (t0 : Nat) (h : Hp) (x2 : Int32) (m49 : ∀ (h : Hp) (x2 : Int32), k49 h x2 = some (hz, rz) → Fw h hz) (hJ : B_X10_astray_49 N k49 t0 h x2 = some (hz, rz)) : Fw h hz := by
  unfold B_X10_astray_49 at hJ
  by_cases c47 : (h.gi 1311 t0) < x2
  · have hJ := it_pos c47 hJ
    exact wl_X10_astray_88 N t0 N _ _ _ hJ
  · have hJ := it_neg c47 hJ
    obtain ⟨a48, ea48, -, hJ⟩ := dr_some hJ
    obtain ⟨-, hJ⟩ := ck_some hJ
    by_cases c50 : (h.bi a48 x2.toNatClampNeg) = (2 : Int32)
    · have hJ := it_pos c50 hJ
      exact wb_X10_astray_77 N k49 t0 _ _ _ _ _ m49 hJ
    · have hJ := it_neg c50 hJ
      exact wb_X10_astray_77 N k49 t0 _ _ _ _ _ m49 hJ
theorem wl_X10_astray_49 (N : Nat) (t0 : Nat) : ∀ (n : Nat) (h : Hp) (x2 : Int32), L_X10_astray_49 N t0 n h x2 = some (hz, rz) → Fw h hz := by
  intro n
  induction n with
  | zero => intro h x2 hJ; cases hJ
  | succ n ih => intro h x2 hJ; exact wb_X10_astray_49 N (L_X10_astray_49 N t0 n) t0 h x2 ih hJ
theorem wb_X10_astray_26 (N : Nat) (k26 : Hp → Int32 → Option (Hp × Int32)) (t0 : Nat) (h : Hp) (x2 : Int32) (m26 : ∀ (h : Hp) (x2 : Int32), k26 h x2 = some (hz, rz) → Fw h hz) (hJ : B_X10_astray_26 N k26 t0 h x2 = some (hz, rz)) : Fw h hz := by
  unfold B_X10_astray_26 at hJ
  by_cases c51 : (h.gi 1353 t0) ≤ x2
  · have hJ := it_pos c51 hJ
    exact wl_X10_astray_49 N t0 N _ _ hJ
  · have hJ := it_neg c51 hJ
    obtain ⟨a52, ea52, -, hJ⟩ := dr_some hJ
    obtain ⟨-, hJ⟩ := ck_some hJ
    exact (Fw.tr (show Fw h (h.sbi a52 x2.toNatClampNeg (0 : Int32)) from (Fw.rf h)) (m26 _ _ hJ))
theorem wl_X10_astray_26 (N : Nat) (t0 : Nat) : ∀ (n : Nat) (h : Hp) (x2 : Int32), L_X10_astray_26 N t0 n h x2 = some (hz, rz) → Fw h hz := by
  intro n
  induction n with
  | zero => intro h x2 hJ; cases hJ
  | succ n ih => intro h x2 hJ; exact wb_X10_astray_26 N (L_X10_astray_26 N t0 n) t0 h x2 ih hJ
theorem wb_X10_astray_24 (N : Nat) (t0 : Nat) (h : Hp) (hJ : B_X10_astray_24 N t0 h = some (hz, rz)) : Fw h hz := by
  unfold B_X10_astray_24 at hJ
  exact wl_X10_astray_26 N t0 N _ _ hJ
theorem wb_X10_astray_13 (N : Nat) (t0 : Nat) (h : Hp) (y0 : Int32) (hJ : B_X10_astray_13 N t0 h y0 = some (hz, rz)) : Fw h hz := by
  unfold B_X10_astray_13 at hJ
  by_cases c54 : y0 ≤ 0
  · have hJ := it_pos c54 hJ
    obtain ⟨⟨h55, r56⟩, e57, hJ⟩ := ob_some hJ
    exact (wo_X10_gatherKeys N t0 h e57).tr (wb_X10_astray_24 N t0 _ hJ)
  · have hJ := it_neg c54 hJ
    obtain ⟨rfl, -⟩ := rs2 hJ
    exact (Fw.rf h)
theorem wb_X10_astray_9 (N : Nat) (t0 : Nat) (h : Hp) (hJ : B_X10_astray_9 N t0 h = some (hz, rz)) : Fw h hz := by
  unfold B_X10_astray_9 at hJ
  obtain ⟨⟨h59, r60⟩, e61, hJ⟩ := ob_some hJ
  exact (wo_X10_onRings N t0 h e61).tr (wb_X10_astray_13 N t0 _ _ hJ)
theorem wb_X10_astray_0 (N : Nat) (t0 : Nat) (h : Hp) (hJ : B_X10_astray_0 N t0 h = some (hz, rz)) : Fw h hz := by
  unfold B_X10_astray_0 at hJ
  obtain ⟨⟨h63, r64⟩, e65, hJ⟩ := ob_some hJ
  exact (Fw.tr (show Fw h (h.sgi 1300 t0 (0 : Int32)) from (Fw.rf h)) ((wo_X10_draw N t0 (h.sgi 1300 t0 (0 : Int32)) e65).tr (wb_X10_astray_9 N t0 _ hJ)))
theorem wo_X10_astray (N : Nat) (t0 : Nat) (h : Hp) (hJ : J_X10_astray N t0 h = some (hz, rz)) : Fw h hz := wb_X10_astray_0 N t0 h hJ
end V_X10_astray
