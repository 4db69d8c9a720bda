section V_X8_init
variable {hz : Hp}
theorem wb_X8_init_38 (N : Nat) (t0 : Nat) (h : Hp) (x2 : Int32) (x3 : Int32) (hJ : B_X8_init_38 N t0 h x2 x3 = some (hz, ())) : Fw h hz := by
  unfold B_X8_init_38 at hJ
  obtain ⟨rfl, -⟩ := rs2 hJ
  exact (Fw.rf h)
theorem wb_X8_init_20 (N : Nat) (t0 : Nat) (h : Hp) (x1 : Option Nat) (x2 : Int32) (x3 : Int32) (y0 : Option Nat) (y1 : Option Nat) (hJ : B_X8_init_20 N t0 h x1 x2 x3 y0 y1 = some (hz, ())) : Fw h hz := by
  unfold B_X8_init_20 at hJ
  obtain ⟨a1, ea1, -, hJ⟩ := dr_some hJ
  exact (Fw.tr (show Fw h ((((h.sfr 1104 a1 y1).sfi 1105 t0 (0 : Int32)).sfi 1106 t0 (0 : Int32)).sfr 1100 t0 x1) from (Fw.rf h)) (wb_X8_init_38 N t0 _ _ _ hJ))
theorem wb_X8_init_12 (N : Nat) (t0 : Nat) (h : Hp) (x1 : Option Nat) (x2 : Int32) (x3 : Int32) (y0 : Option Nat) (y1 : Option Nat) (hJ : B_X8_init_12 N t0 h x1 x2 x3 y0 y1 = some (hz, ())) : Fw h hz := by
  unfold B_X8_init_12 at hJ
  obtain ⟨a2, ea2, -, hJ⟩ := dr_some hJ
  obtain ⟨-, hJ⟩ := ck_some hJ
  exact (Fw.tr (show Fw h (h.sfr 1103 a2 y1) from (Fw.rf h)) ((Fw.new (h.sfr 1103 a2 y1) _ _ _).tr (wb_X8_init_20 N t0 _ _ _ _ _ _ hJ)))
theorem wb_X8_init_8 (N : Nat) (t0 : Nat) (h : Hp) (x1 : Option Nat) (x2 : Int32) (x3 : Int32) (y0 : Option Nat) (y1 : Option Nat) (hJ : B_X8_init_8 N t0 h x1 x2 x3 y0 y1 = some (hz, ())) : Fw h hz := by
  unfold B_X8_init_8 at hJ
  obtain ⟨a5, ea5, -, hJ⟩ := dr_some hJ
  obtain ⟨⟨h6, r7⟩, e8, hJ⟩ := ob_some hJ
  exact (wo_X5_init N a5 h e8).tr (wb_X8_init_12 N t0 _ _ _ _ _ _ hJ)
theorem wb_X8_init_0 (N : Nat) (t0 : Nat) (h : Hp) (x1 : Option Nat) (x2 : Int32) (x3 : Int32) (hJ : B_X8_init_0 N t0 h x1 x2 x3 = some (hz, ())) : Fw h hz := by
  unfold B_X8_init_0 at hJ
  exact (Fw.new h _ _ _).tr (wb_X8_init_8 N t0 _ _ _ _ _ _ hJ)
theorem wo_X8_init (N : Nat) (t0 : Nat) (h : Hp) (x1 : Option Nat) (x2 : Int32) (x3 : Int32) (hJ : J_X8_init N t0 h x1 x2 x3 = some (hz, ())) : Fw h hz := wb_X8_init_0 N t0 h x1 x2 x3 hJ
end V_X8_init
section V_X8_seen
variable {hz : Hp} {rz : Option Nat}
theorem wb_X8_seen_43 (N : Nat) (t0 : Nat) (h : Hp) (y0 : Option Nat) (hJ : B_X8_seen_43 N t0 h y0 = some (hz, rz)) : Fw h hz := by
  unfold B_X8_seen_43 at hJ
  obtain ⟨rfl, -⟩ := rs2 hJ
  exact (Fw.rf h)
theorem wb_X8_seen_26 (N : Nat) (t0 : Nat) (h : Hp) (y0 : Option Nat) (hJ : B_X8_seen_26 N t0 h y0 = some (hz, rz)) : Fw h hz := by
  unfold B_X8_seen_26 at hJ
  cases ea1 : y0 with
  | none =>
    have hJ := nl_none ea1 hJ
    exact wb_X8_seen_43 N t0 _ _ hJ
  | some a1 =>
    have hJ := nl_some ea1 hJ
    obtain ⟨-, hJ⟩ := ck_some hJ
    obtain ⟨⟨h3, r4⟩, e5, hJ⟩ := ob_some hJ
    exact (wo_X3_upTo N a1 h (h.fi 1101 t0) e5).tr (wb_X8_seen_43 N t0 _ _ hJ)
theorem wb_X8_seen_8 (N : Nat) (t0 : Nat) (h : Hp) (x1 : Int32) (y0 : Option Nat) (hJ : B_X8_seen_8 N t0 h x1 y0 = some (hz, rz)) : Fw h hz := by
  unfold B_X8_seen_8 at hJ
  cases ea7 : y0 with
  | none =>
    have hJ := nl_none ea7 hJ
    obtain ⟨a8, ea8, -, hJ⟩ := dr_some hJ
    obtain ⟨⟨h9, r10⟩, e11, hJ⟩ := ob_some hJ
    exact (wo_X5_find N a8 h x1 e11).tr (wb_X8_seen_26 N t0 _ _ hJ)
  | some a7 =>
    have hJ := nl_some ea7 hJ
    obtain ⟨-, hJ⟩ := ck_some hJ
    obtain ⟨rfl, -⟩ := rs2 hJ
    exact (Fw.rf h)
theorem wb_X8_seen_0 (N : Nat) (t0 : Nat) (h : Hp) (x1 : Int32) (hJ : B_X8_seen_0 N t0 h x1 = some (hz, rz)) : Fw h hz := by
  unfold B_X8_seen_0 at hJ
  obtain ⟨a14, ea14, -, hJ⟩ := dr_some hJ
  obtain ⟨⟨h15, r16⟩, e17, hJ⟩ := ob_some hJ
  exact (wo_X5_find N a14 h x1 e17).tr (wb_X8_seen_8 N t0 _ _ _ hJ)
theorem wo_X8_seen (N : Nat) (t0 : Nat) (h : Hp) (x1 : Int32) (hJ : J_X8_seen N t0 h x1 = some (hz, rz)) : Fw h hz := wb_X8_seen_0 N t0 h x1 hJ
end V_X8_seen
section V_X8_answerRead
variable {hz : Hp}
theorem wb_X8_answerRead_43 (N : Nat) (t0 : Nat) (h : Hp) (hJ : B_X8_answerRead_43 N t0 h = some (hz, ())) : Fw h hz := by
  unfold B_X8_answerRead_43 at hJ
  obtain ⟨rfl, -⟩ := rs2 hJ
  exact (Fw.rf h)
theorem wb_X8_answerRead_34 (N : Nat) (t0 : Nat) (h : Hp) (x1 : Int32) (x2 : Option Nat) (y0 : Option Nat) (hJ : B_X8_answerRead_34 N t0 h x1 x2 y0 = some (hz, ())) : Fw h hz := by
  unfold B_X8_answerRead_34 at hJ
  cases ea1 : y0 with
  | none =>
    have hJ := nl_none ea1 hJ
    obtain ⟨a2, ea2, -, hJ⟩ := dr_some hJ
    obtain ⟨⟨h3, r4⟩, e5, hJ⟩ := ob_some hJ
    exact (wo_X0_lookAt N a2 h x1 x1 e5).tr (wb_X8_answerRead_43 N t0 _ hJ)
  | some a1 =>
    have hJ := nl_some ea1 hJ
    exact wb_X8_answerRead_43 N t0 _ hJ
theorem wb_X8_answerRead_26 (N : Nat) (t0 : Nat) (h : Hp) (x1 : Int32) (x2 : Option Nat) (hJ : B_X8_answerRead_26 N t0 h x1 x2 = some (hz, ())) : Fw h hz := by
  unfold B_X8_answerRead_26 at hJ
  obtain ⟨a7, ea7, -, hJ⟩ := dr_some hJ
  obtain ⟨⟨h8, r9⟩, e10, hJ⟩ := ob_some hJ
  exact (wo_X5_find N a7 h x1 e10).tr (wb_X8_answerRead_34 N t0 _ _ _ _ hJ)
theorem wb_X8_answerRead_5 (N : Nat) (t0 : Nat) (h : Hp) (x1 : Int32) (x2 : Option Nat) (y0 : Option Nat) (hJ : B_X8_answerRead_5 N t0 h x1 x2 y0 = some (hz, ())) : Fw h hz := by
  unfold B_X8_answerRead_5 at hJ
  cases ea12 : y0 with
  | none =>
    have hJ := nl_none ea12 hJ
    exact wb_X8_answerRead_26 N t0 _ _ _ hJ
  | some a12 =>
    have hJ := nl_some ea12 hJ
    obtain ⟨-, hJ⟩ := ck_some hJ
    by_cases c14 : (h.fi 702 a12) = 0
    · have hJ := it_pos c14 hJ
      exact wb_X8_answerRead_26 N t0 _ _ _ hJ
    · have hJ := it_neg c14 hJ
      obtain ⟨a15, ea15, -, hJ⟩ := dr_some hJ
      obtain ⟨⟨h16, r17⟩, e18, hJ⟩ := ob_some hJ
      exact (wo_X0_find N a15 h x1 (h.fl 703 a12) e18).tr (wb_X8_answerRead_26 N t0 _ _ _ hJ)
theorem wb_X8_answerRead_0 (N : Nat) (t0 : Nat) (h : Hp) (x1 : Int32) (x2 : Option Nat) (hJ : B_X8_answerRead_0 N t0 h x1 x2 = some (hz, ())) : Fw h hz := by
  unfold B_X8_answerRead_0 at hJ
  obtain ⟨⟨h20, r21⟩, e22, hJ⟩ := ob_some hJ
  exact (wo_X8_seen N t0 h x1 e22).tr (wb_X8_answerRead_5 N t0 _ _ _ _ hJ)
theorem wo_X8_answerRead (N : Nat) (t0 : Nat) (h : Hp) (x1 : Int32) (x2 : Option Nat) (hJ : J_X8_answerRead N t0 h x1 x2 = some (hz, ())) : Fw h hz := wb_X8_answerRead_0 N t0 h x1 x2 hJ
end V_X8_answerRead
section V_X8_nearest
variable {hz : Hp} {rz : Int64}
theorem wb_X8_nearest_170 (N : Nat) (t0 : Nat) (h : Hp) (hJ : B_X8_nearest_170 N t0 h = some (hz, rz)) : Fw h hz := by
  unfold B_X8_nearest_170 at hJ
  obtain ⟨rfl, -⟩ := rs2 hJ
  exact (Fw.rf h)
theorem wb_X8_nearest_242 (N : Nat) (k23 : Hp → Int64 → Int32 → Int64 → Int32 → Int32 → Option (Hp × Int64)) (t0 : Nat) (h : Hp) (x3 : Int64) (x5 : Int32) (x8 : Int32) (x9 : Int32) (y0 : Int64) (m23 : ∀ (h : Hp) (x3 : Int64) (x5 : Int32) (x6 : Int64) (x8 : Int32) (x9 : Int32), k23 h x3 x5 x6 x8 x9 = some (hz, rz) → Fw h hz) (hJ : B_X8_nearest_242 N k23 t0 h x3 x5 x8 x9 y0 = some (hz, rz)) : Fw h hz := by
  unfold B_X8_nearest_242 at hJ
  exact m23 _ _ _ _ _ _ hJ
theorem wb_X8_nearest_218 (N : Nat) (k23 : Hp → Int64 → Int32 → Int64 → Int32 → Int32 → Option (Hp × Int64)) (t0 : Nat) (h : Hp) (x3 : Int64) (x5 : Int32) (x8 : Int32) (x9 : Int32) (x13 : Option Nat) (m23 : ∀ (h : Hp) (x3 : Int64) (x5 : Int32) (x6 : Int64) (x8 : Int32) (x9 : Int32), k23 h x3 x5 x6 x8 x9 = some (hz, rz) → Fw h hz) (hJ : B_X8_nearest_218 N k23 t0 h x3 x5 x8 x9 x13 = some (hz, rz)) : Fw h hz := by
  unfold B_X8_nearest_218 at hJ
  by_cases c1 : x5 = 0
  · have hJ := it_pos c1 hJ
    obtain ⟨a2, ea2, -, hJ⟩ := dr_some hJ
    exact wb_X8_nearest_242 N k23 t0 _ _ _ _ _ _ m23 hJ
  · have hJ := it_neg c1 hJ
    obtain ⟨a3, ea3, -, hJ⟩ := dr_some hJ
    exact wb_X8_nearest_242 N k23 t0 _ _ _ _ _ _ m23 hJ
theorem wb_X8_nearest_196 (N : Nat) (k23 : Hp → Int64 → Int32 → Int64 → Int32 → Int32 → Option (Hp × Int64)) (t0 : Nat) (h : Hp) (x3 : Int64) (x5 : Int32) (x8 : Int32) (x9 : Int32) (x13 : Option Nat) (y0 : Option Nat) (m23 : ∀ (h : Hp) (x3 : Int64) (x5 : Int32) (x6 : Int64) (x8 : Int32) (x9 : Int32), k23 h x3 x5 x6 x8 x9 = some (hz, rz) → Fw h hz) (hJ : B_X8_nearest_196 N k23 t0 h x3 x5 x8 x9 x13 y0 = some (hz, rz)) : Fw h hz := by
  unfold B_X8_nearest_196 at hJ
  cases ea4 : y0 with
  | none =>
    have hJ := nl_none ea4 hJ
    exact wb_X8_nearest_218 N k23 t0 _ _ _ _ _ _ m23 hJ
  | some a4 =>
    have hJ := nl_some ea4 hJ
    obtain ⟨-, hJ⟩ := ck_some hJ
    by_cases c6 : (h.fi 702 a4) = 0
    · have hJ := it_pos c6 hJ
      exact wb_X8_nearest_218 N k23 t0 _ _ _ _ _ _ m23 hJ
    · have hJ := it_neg c6 hJ
      obtain ⟨a7, ea7, -, hJ⟩ := dr_some hJ
      obtain ⟨rfl, -⟩ := rs2 hJ
      exact (Fw.rf h)
theorem wb_X8_nearest_174 (N : Nat) (k23 : Hp → Int64 → Int32 → Int64 → Int32 → Int32 → Option (Hp × Int64)) (t0 : Nat) (h : Hp) (x3 : Int64) (x5 : Int32) (x8 : Int32) (x9 : Int32) (x12 : Int32) (x13 : Option Nat) (m23 : ∀ (h : Hp) (x3 : Int64) (x5 : Int32) (x6 : Int64) (x8 : Int32) (x9 : Int32), k23 h x3 x5 x6 x8 x9 = some (hz, rz) → Fw h hz) (hJ : B_X8_nearest_174 N k23 t0 h x3 x5 x8 x9 x12 x13 = some (hz, rz)) : Fw h hz := by
  unfold B_X8_nearest_174 at hJ
  by_cases c8 : x12 = 0
  · have hJ := it_pos c8 hJ
    obtain ⟨a9, ea9, -, hJ⟩ := dr_some hJ
    obtain ⟨⟨h10, r11⟩, e12, hJ⟩ := ob_some hJ
    exact (wo_X3_upTo N a9 h (h.fi 1101 t0) e12).tr (wb_X8_nearest_196 N k23 t0 _ _ _ _ _ _ _ m23 hJ)
  · have hJ := it_neg c8 hJ
    obtain ⟨a14, ea14, -, hJ⟩ := dr_some hJ
    exact wb_X8_nearest_196 N k23 t0 _ _ _ _ _ _ _ m23 hJ
theorem wb_X8_nearest_133 (N : Nat) (k23 : Hp → Int64 → Int32 → Int64 → Int32 → Int32 → Option (Hp × Int64)) (t0 : Nat) (h : Hp) (x3 : Int64) (x5 : Int32) (x8 : Int32) (x9 : Int32) (x12 : Int32) (y0 : Option Nat) (m23 : ∀ (h : Hp) (x3 : Int64) (x5 : Int32) (x6 : Int64) (x8 : Int32) (x9 : Int32), k23 h x3 x5 x6 x8 x9 = some (hz, rz) → Fw h hz) (hJ : B_X8_nearest_133 N k23 t0 h x3 x5 x8 x9 x12 y0 = some (hz, rz)) : Fw h hz := by
  unfold B_X8_nearest_133 at hJ
  cases ea15 : y0 with
  | none =>
    have hJ := nl_none ea15 hJ
    exact wb_X8_nearest_170 N t0 _ hJ
  | some a15 =>
    have hJ := nl_some ea15 hJ
    by_cases c16 : x5 = 0
    · have hJ := it_pos c16 hJ
      obtain ⟨-, hJ⟩ := ck_some hJ
      by_cases c18 : 0 ≤ (lg_cmp ((h.fi 600 a15).toInt64) x3)
      · have hJ := it_pos c18 hJ
        exact wb_X8_nearest_174 N k23 t0 _ _ _ _ _ _ _ m23 hJ
      · have hJ := it_neg c18 hJ
        exact wb_X8_nearest_170 N t0 _ hJ
    · have hJ := it_neg c16 hJ
      obtain ⟨-, hJ⟩ := ck_some hJ
      by_cases c20 : (lg_cmp ((h.fi 600 a15).toInt64) x3) ≤ 0
      · have hJ := it_pos c20 hJ
        exact wb_X8_nearest_174 N k23 t0 _ _ _ _ _ _ _ m23 hJ
      · have hJ := it_neg c20 hJ
        exact wb_X8_nearest_170 N t0 _ hJ
theorem wb_X8_nearest_119 (N : Nat) (k23 : Hp → Int64 → Int32 → Int64 → Int32 → Int32 → Option (Hp × Int64)) (t0 : Nat) (h : Hp) (x3 : Int64) (x5 : Int32) (x8 : Int32) (x9 : Int32) (x10 : Option Nat) (x11 : Option Nat) (y0 : Int32) (m23 : ∀ (h : Hp) (x3 : Int64) (x5 : Int32) (x6 : Int64) (x8 : Int32) (x9 : Int32), k23 h x3 x5 x6 x8 x9 = some (hz, rz) → Fw h hz) (hJ : B_X8_nearest_119 N k23 t0 h x3 x5 x8 x9 x10 x11 y0 = some (hz, rz)) : Fw h hz := by
  unfold B_X8_nearest_119 at hJ
  by_cases c21 : y0 = 0
  · have hJ := it_pos c21 hJ
    exact wb_X8_nearest_133 N k23 t0 _ _ _ _ _ _ _ m23 hJ
  · have hJ := it_neg c21 hJ
    exact wb_X8_nearest_133 N k23 t0 _ _ _ _ _ _ _ m23 hJ
theorem wb_X8_nearest_114 (N : Nat) (k23 : Hp → Int64 → Int32 → Int64 → Int32 → Int32 → Option (Hp × Int64)) (t0 : Nat) (h : Hp) (x3 : Int64) (x5 : Int32) (x8 : Int32) (x9 : Int32) (x10 : Option Nat) (x11 : Option Nat) (m23 : ∀ (h : Hp) (x3 : Int64) (x5 : Int32) (x6 : Int64) (x8 : Int32) (x9 : Int32), k23 h x3 x5 x6 x8 x9 = some (hz, rz) → Fw h hz) (hJ : B_X8_nearest_114 N k23 t0 h x3 x5 x8 x9 x10 x11 = some (hz, rz)) : Fw h hz := by
  unfold B_X8_nearest_114 at hJ
  exact wb_X8_nearest_119 N k23 t0 _ _ _ _ _ _ _ _ m23 hJ
theorem wb_X8_nearest_118 (N : Nat) (k23 : Hp → Int64 → Int32 → Int64 → Int32 → Int32 → Option (Hp × Int64)) (t0 : Nat) (h : Hp) (x3 : Int64) (x5 : Int32) (x8 : Int32) (x9 : Int32) (x10 : Option Nat) (x11 : Option Nat) (m23 : ∀ (h : Hp) (x3 : Int64) (x5 : Int32) (x6 : Int64) (x8 : Int32) (x9 : Int32), k23 h x3 x5 x6 x8 x9 = some (hz, rz) → Fw h hz) (hJ : B_X8_nearest_118 N k23 t0 h x3 x5 x8 x9 x10 x11 = some (hz, rz)) : Fw h hz := by
  unfold B_X8_nearest_118 at hJ
  exact wb_X8_nearest_119 N k23 t0 _ _ _ _ _ _ _ _ m23 hJ
theorem wb_X8_nearest_70 (N : Nat) (k23 : Hp → Int64 → Int32 → Int64 → Int32 → Int32 → Option (Hp × Int64)) (t0 : Nat) (h : Hp) (x3 : Int64) (x5 : Int32) (x8 : Int32) (x9 : Int32) (x10 : Option Nat) (x11 : Option Nat) (m23 : ∀ (h : Hp) (x3 : Int64) (x5 : Int32) (x6 : Int64) (x8 : Int32) (x9 : Int32), k23 h x3 x5 x6 x8 x9 = some (hz, rz) → Fw h hz) (hJ : B_X8_nearest_70 N k23 t0 h x3 x5 x8 x9 x10 x11 = some (hz, rz)) : Fw h hz := by
  unfold B_X8_nearest_70 at hJ
  cases ea22 : x11 with
  | none =>
    have hJ := nl_none ea22 hJ
    exact wb_X8_nearest_114 N k23 t0 _ _ _ _ _ _ _ m23 hJ
  | some a22 =>
    have hJ := nl_some ea22 hJ
    cases ea23 : x10 with
    | none =>
      have hJ := nl_none ea23 hJ
      exact wb_X8_nearest_118 N k23 t0 _ _ _ _ _ _ _ m23 hJ
    | some a23 =>
      have hJ := nl_some ea23 hJ
      by_cases c24 : x5 = 0
      · have hJ := it_pos c24 hJ
        obtain ⟨-, hJ⟩ := ck_some hJ
        obtain ⟨-, hJ⟩ := ck_some hJ
        by_cases c27 : (h.fi 600 a23) < (h.fi 600 a22)
        · have hJ := it_pos c27 hJ
          exact wb_X8_nearest_118 N k23 t0 _ _ _ _ _ _ _ m23 hJ
        · have hJ := it_neg c27 hJ
          exact wb_X8_nearest_114 N k23 t0 _ _ _ _ _ _ _ m23 hJ
      · have hJ := it_neg c24 hJ
        obtain ⟨-, hJ⟩ := ck_some hJ
        obtain ⟨-, hJ⟩ := ck_some hJ
        by_cases c30 : (h.fi 600 a22) < (h.fi 600 a23)
        · have hJ := it_pos c30 hJ
          exact wb_X8_nearest_118 N k23 t0 _ _ _ _ _ _ _ m23 hJ
        · have hJ := it_neg c30 hJ
          exact wb_X8_nearest_114 N k23 t0 _ _ _ _ _ _ _ m23 hJ
theorem wb_X8_nearest_54 (N : Nat) (k23 : Hp → Int64 → Int32 → Int64 → Int32 → Int32 → Option (Hp × Int64)) (t0 : Nat) (h : Hp) (x3 : Int64) (x5 : Int32) (x8 : Int32) (x9 : Int32) (x10 : Option Nat) (y0 : Option Nat) (m23 : ∀ (h : Hp) (x3 : Int64) (x5 : Int32) (x6 : Int64) (x8 : Int32) (x9 : Int32), k23 h x3 x5 x6 x8 x9 = some (hz, rz) → Fw h hz) (hJ : B_X8_nearest_54 N k23 t0 h x3 x5 x8 x9 x10 y0 = some (hz, rz)) : Fw h hz := by
  unfold B_X8_nearest_54 at hJ
  cases ea31 : x10 with
  | none =>
    have hJ := nl_none ea31 hJ
    cases ea32 : y0 with
    | none =>
      have hJ := nl_none ea32 hJ
      obtain ⟨rfl, -⟩ := rs2 hJ
      exact (Fw.rf h)
    | some a32 =>
      have hJ := nl_some ea32 hJ
      exact wb_X8_nearest_70 N k23 t0 _ _ _ _ _ _ _ m23 hJ
  | some a31 =>
    have hJ := nl_some ea31 hJ
    exact wb_X8_nearest_70 N k23 t0 _ _ _ _ _ _ _ m23 hJ
theorem wb_X8_nearest_41 (N : Nat) (k23 : Hp → Int64 → Int32 → Int64 → Int32 → Int32 → Option (Hp × Int64)) (t0 : Nat) (h : Hp) (x3 : Int64) (x5 : Int32) (x6 : Int64) (x8 : Int32) (x9 : Int32) (y0 : Option Nat) (m23 : ∀ (h : Hp) (x3 : Int64) (x5 : Int32) (x6 : Int64) (x8 : Int32) (x9 : Int32), k23 h x3 x5 x6 x8 x9 = some (hz, rz) → Fw h hz) (hJ : B_X8_nearest_41 N k23 t0 h x3 x5 x6 x8 x9 y0 = some (hz, rz)) : Fw h hz := by
  unfold B_X8_nearest_41 at hJ
  obtain ⟨a33, ea33, -, hJ⟩ := dr_some hJ
  obtain ⟨⟨h34, r35⟩, e36, hJ⟩ := ob_some hJ
  exact (wo_X5_nextChain N a33 h x6 x5 e36).tr (wb_X8_nearest_54 N k23 t0 _ _ _ _ _ _ _ m23 hJ)
theorem wb_X8_nearest_23 (N : Nat) (k23 : Hp → Int64 → Int32 → Int64 → Int32 → Int32 → Option (Hp × Int64)) (t0 : Nat) (h : Hp) (x3 : Int64) (x5 : Int32) (x6 : Int64) (x8 : Int32) (x9 : Int32) (m23 : ∀ (h : Hp) (x3 : Int64) (x5 : Int32) (x6 : Int64) (x8 : Int32) (x9 : Int32), k23 h x3 x5 x6 x8 x9 = some (hz, rz) → Fw h hz) (hJ : B_X8_nearest_23 N k23 t0 h x3 x5 x6 x8 x9 = some (hz, rz)) : Fw h hz := by
  unfold B_X8_nearest_23 at hJ
  by_cases c38 : x8 ≤ x9
  · have hJ := it_pos c38 hJ
    obtain ⟨rfl, -⟩ := rs2 hJ
    exact (Fw.rf h)
  · have hJ := it_neg c38 hJ
    obtain ⟨a39, ea39, -, hJ⟩ := dr_some hJ
    obtain ⟨⟨h40, r41⟩, e42, hJ⟩ := ob_some hJ
    exact (wo_X5_nextChain N a39 h x6 x5 e42).tr (wb_X8_nearest_41 N k23 t0 _ _ _ _ _ _ _ m23 hJ)
theorem wl_X8_nearest_23 (N : Nat) (t0 : Nat) : ∀ (n : Nat) (h : Hp) (x3 : Int64) (x5 : Int32) (x6 : Int64) (x8 : Int32) (x9 : Int32), L_X8_nearest_23 N t0 n h x3 x5 x6 x8 x9 = some (hz, rz) → Fw h hz := by
  intro n
  induction n with
  | zero => intro h x3 x5 x6 x8 x9 hJ; cases hJ
  | succ n ih => intro h x3 x5 x6 x8 x9 hJ; exact wb_X8_nearest_23 N (L_X8_nearest_23 N t0 n) t0 h x3 x5 x6 x8 x9 ih hJ
theorem wb_X8_nearest_17 (N : Nat) (t0 : Nat) (h : Hp) (x3 : Int64) (x5 : Int32) (x6 : Int64) (y0 : Int32) (y1 : Int32) (hJ : B_X8_nearest_17 N t0 h x3 x5 x6 y0 y1 = some (hz, rz)) : Fw h hz := by
  unfold B_X8_nearest_17 at hJ
  exact wl_X8_nearest_23 N t0 N _ _ _ _ _ _ hJ
theorem wb_X8_nearest_10 (N : Nat) (t0 : Nat) (h : Hp) (x3 : Int64) (x5 : Int32) (x6 : Int64) (y0 : Int32) (hJ : B_X8_nearest_10 N t0 h x3 x5 x6 y0 = some (hz, rz)) : Fw h hz := by
  unfold B_X8_nearest_10 at hJ
  obtain ⟨a44, ea44, -, hJ⟩ := dr_some hJ
  obtain ⟨⟨h45, r46⟩, e47, hJ⟩ := ob_some hJ
  exact (wo_X5_size N a44 h e47).tr (wb_X8_nearest_17 N t0 _ _ _ _ _ _ hJ)
theorem wb_X8_nearest_0 (N : Nat) (t0 : Nat) (h : Hp) (x1 : Int64) (x3 : Int64) (x5 : Int32) (hJ : B_X8_nearest_0 N t0 h x1 x3 x5 = some (hz, rz)) : Fw h hz := by
  unfold B_X8_nearest_0 at hJ
  obtain ⟨a49, ea49, -, hJ⟩ := dr_some hJ
  obtain ⟨⟨h50, r51⟩, e52, hJ⟩ := ob_some hJ
  exact (wo_X5_size N a49 h e52).tr (wb_X8_nearest_10 N t0 _ _ _ _ _ hJ)
theorem wo_X8_nearest (N : Nat) (t0 : Nat) (h : Hp) (x1 : Int64) (x3 : Int64) (x5 : Int32) (hJ : J_X8_nearest N t0 h x1 x3 x5 = some (hz, rz)) : Fw h hz := wb_X8_nearest_0 N t0 h x1 x3 x5 hJ
end V_X8_nearest
section V_X8_answerNear
variable {hz : Hp}
theorem wb_X8_answerNear_91 (N : Nat) (t0 : Nat) (h : Hp) (hJ : B_X8_answerNear_91 N t0 h = some (hz, ())) : Fw h hz := by
  unfold B_X8_answerNear_91 at hJ
  obtain ⟨rfl, -⟩ := rs2 hJ
  exact (Fw.rf h)
theorem wb_X8_answerNear_88 (N : Nat) (t0 : Nat) (h : Hp) (y0 : Option Nat) (y1 : Int32) (y2 : Int32) (hJ : B_X8_answerNear_88 N t0 h y0 y1 y2 = some (hz, ())) : Fw h hz := by
  unfold B_X8_answerNear_88 at hJ
  obtain ⟨a1, ea1, -, hJ⟩ := dr_some hJ
  obtain ⟨⟨h2, r3⟩, e4, hJ⟩ := ob_some hJ
  exact (wo_X0_lookAt N a1 h y1 y2 e4).tr (wb_X8_answerNear_91 N t0 _ hJ)
theorem wb_X8_answerNear_78 (N : Nat) (t0 : Nat) (h : Hp) (x1 : Int32) (x2 : Int32) (x4 : Int32) (y0 : Option Nat) (y1 : Int32) (hJ : B_X8_answerNear_78 N t0 h x1 x2 x4 y0 y1 = some (hz, ())) : Fw h hz := by
  unfold B_X8_answerNear_78 at hJ
  by_cases c6 : x2 = 0
  · have hJ := it_pos c6 hJ
    exact wb_X8_answerNear_88 N t0 _ _ _ _ hJ
  · have hJ := it_neg c6 hJ
    exact wb_X8_answerNear_88 N t0 _ _ _ _ hJ
theorem wb_X8_answerNear_67 (N : Nat) (t0 : Nat) (h : Hp) (x1 : Int32) (x2 : Int32) (x3 : Option Nat) (x4 : Int32) (hJ : B_X8_answerNear_67 N t0 h x1 x2 x3 x4 = some (hz, ())) : Fw h hz := by
  unfold B_X8_answerNear_67 at hJ
  by_cases c7 : x2 = 0
  · have hJ := it_pos c7 hJ
    exact wb_X8_answerNear_78 N t0 _ _ _ _ _ _ hJ
  · have hJ := it_neg c7 hJ
    exact wb_X8_answerNear_78 N t0 _ _ _ _ _ _ hJ
theorem wb_X8_answerNear_64 (N : Nat) (t0 : Nat) (h : Hp) (x1 : Int32) (x2 : Int32) (x3 : Option Nat) (x4 : Int32) (y0 : Option Nat) (y1 : Int32) (y2 : Int64) (hJ : B_X8_answerNear_64 N t0 h x1 x2 x3 x4 y0 y1 y2 = some (hz, ())) : Fw h hz := by
  unfold B_X8_answerNear_64 at hJ
  obtain ⟨a8, ea8, -, hJ⟩ := dr_some hJ
  obtain ⟨⟨h9, r10⟩, e11, hJ⟩ := ob_some hJ
  exact (wo_X0_find N a8 h y1 y2 e11).tr (wb_X8_answerNear_67 N t0 _ _ _ _ _ hJ)
theorem wb_X8_answerNear_45 (N : Nat) (t0 : Nat) (h : Hp) (x1 : Int32) (x2 : Int32) (x3 : Option Nat) (x4 : Int32) (y0 : Option Nat) (hJ : B_X8_answerNear_45 N t0 h x1 x2 x3 x4 y0 = some (hz, ())) : Fw h hz := by
  unfold B_X8_answerNear_45 at hJ
  cases ea13 : y0 with
  | none =>
    have hJ := nl_none ea13 hJ
    exact wb_X8_answerNear_64 N t0 _ _ _ _ _ _ _ _ hJ
  | some a13 =>
    have hJ := nl_some ea13 hJ
    obtain ⟨-, hJ⟩ := ck_some hJ
    exact wb_X8_answerNear_64 N t0 _ _ _ _ _ _ _ _ hJ
theorem wb_X8_answerNear_23 (N : Nat) (t0 : Nat) (h : Hp) (x1 : Int32) (x2 : Int32) (x3 : Option Nat) (x4 : Int32) (y0 : Int64) (hJ : B_X8_answerNear_23 N t0 h x1 x2 x3 x4 y0 = some (hz, ())) : Fw h hz := by
  unfold B_X8_answerNear_23 at hJ
  by_cases c15 : (lg_cmp y0 (-9223372036854775808 : Int64)) = 0
  · have hJ := it_pos c15 hJ
    exact wb_X8_answerNear_67 N t0 _ _ _ _ _ hJ
  · have hJ := it_neg c15 hJ
    obtain ⟨⟨h16, r17⟩, e18, hJ⟩ := ob_some hJ
    exact (wo_X8_seen N t0 h y0.toInt32 e18).tr (wb_X8_answerNear_45 N t0 _ _ _ _ _ _ hJ)
theorem wb_X8_answerNear_11 (N : Nat) (t0 : Nat) (h : Hp) (x1 : Int32) (x2 : Int32) (x3 : Option Nat) (y0 : Int32) (hJ : B_X8_answerNear_11 N t0 h x1 x2 x3 y0 = some (hz, ())) : Fw h hz := by
  unfold B_X8_answerNear_11 at hJ
  obtain ⟨⟨h20, r21⟩, e22, hJ⟩ := ob_some hJ
  exact (wo_X8_nearest N t0 h x1.toInt64 y0.toInt64 x2 e22).tr (wb_X8_answerNear_23 N t0 _ _ _ _ _ _ hJ)
theorem wb_X8_answerNear_0 (N : Nat) (t0 : Nat) (h : Hp) (x1 : Int32) (x2 : Int32) (x3 : Option Nat) (hJ : B_X8_answerNear_0 N t0 h x1 x2 x3 = some (hz, ())) : Fw h hz := by
  unfold B_X8_answerNear_0 at hJ
  by_cases c24 : x2 = 0
  · have hJ := it_pos c24 hJ
    exact wb_X8_answerNear_11 N t0 _ _ _ _ _ hJ
  · have hJ := it_neg c24 hJ
    exact wb_X8_answerNear_11 N t0 _ _ _ _ _ hJ
theorem wo_X8_answerNear (N : Nat) (t0 : Nat) (h : Hp) (x1 : Int32) (x2 : Int32) (x3 : Option Nat) (hJ : J_X8_answerNear N t0 h x1 x2 x3 = some (hz, ())) : Fw h hz := wb_X8_answerNear_0 N t0 h x1 x2 x3 hJ
end V_X8_answerNear
section V_X8_answerScan
variable {hz : Hp}
theorem wb_X8_answerScan_113 (N : Nat) (t0 : Nat) (h : Hp) (hJ : B_X8_answerScan_113 N t0 h = some (hz, ())) : Fw h hz := by
  unfold B_X8_answerScan_113 at hJ
  obtain ⟨rfl, -⟩ := rs2 hJ
  exact (Fw.rf h)
theorem wb_X8_answerScan_110 (N : Nat) (t0 : Nat) (h : Hp) (y0 : Option Nat) (y1 : Int32) (y2 : Int32) (hJ : B_X8_answerScan_110 N t0 h y0 y1 y2 = some (hz, ())) : Fw h hz := by
  unfold B_X8_answerScan_110 at hJ
  obtain ⟨a1, ea1, -, hJ⟩ := dr_some hJ
  obtain ⟨⟨h2, r3⟩, e4, hJ⟩ := ob_some hJ
  exact (wo_X0_lookAt N a1 h y1 y2 e4).tr (wb_X8_answerScan_113 N t0 _ hJ)
theorem wb_X8_answerScan_79 (N : Nat) (t0 : Nat) (h : Hp) (x1 : Int32) (x2 : Int32) (x3 : Int32) (x4 : Option Nat) (x5 : Int64) (hJ : B_X8_answerScan_79 N t0 h x1 x2 x3 x4 x5 = some (hz, ())) : Fw h hz := by
  unfold B_X8_answerScan_79 at hJ
  obtain ⟨a6, ea6, -, hJ⟩ := dr_some hJ
  by_cases c7 : ((h.sfi 300 a6 (h.fi 307 a6)).fi 307 a6) = x3
  · have hJ := it_pos c7 hJ
    exact (Fw.tr (show Fw h (h.sfi 300 a6 (h.fi 307 a6)) from (Fw.rf h)) (wb_X8_answerScan_110 N t0 _ _ _ _ hJ))
  · have hJ := it_neg c7 hJ
    exact (Fw.tr (show Fw h (h.sfi 300 a6 (h.fi 307 a6)) from (Fw.rf h)) (wb_X8_answerScan_110 N t0 _ _ _ _ hJ))
theorem wb_X8_answerScan_67 (N : Nat) (k7 : Hp → Int32 → Int32 → Int32 → (Option Nat) → Int64 → Int32 → Option (Hp × Unit)) (t0 : Nat) (h : Hp) (x1 : Int32) (x2 : Int32) (x3 : Int32) (x4 : Option Nat) (x7 : Int32) (x8 : Int64) (m7 : ∀ (h : Hp) (x1 : Int32) (x2 : Int32) (x3 : Int32) (x4 : Option Nat) (x5 : Int64) (x7 : Int32), k7 h x1 x2 x3 x4 x5 x7 = some (hz, ()) → Fw h hz) (hJ : B_X8_answerScan_67 N k7 t0 h x1 x2 x3 x4 x7 x8 = some (hz, ())) : Fw h hz := by
  unfold B_X8_answerScan_67 at hJ
  exact m7 _ _ _ _ _ _ _ hJ
theorem wb_X8_answerScan_64 (N : Nat) (k7 : Hp → Int32 → Int32 → Int32 → (Option Nat) → Int64 → Int32 → Option (Hp × Unit)) (t0 : Nat) (h : Hp) (x1 : Int32) (x2 : Int32) (x3 : Int32) (x4 : Option Nat) (x7 : Int32) (x8 : Int64) (y0 : Option Nat) (y1 : Int32) (y2 : Int64) (m7 : ∀ (h : Hp) (x1 : Int32) (x2 : Int32) (x3 : Int32) (x4 : Option Nat) (x5 : Int64) (x7 : Int32), k7 h x1 x2 x3 x4 x5 x7 = some (hz, ()) → Fw h hz) (hJ : B_X8_answerScan_64 N k7 t0 h x1 x2 x3 x4 x7 x8 y0 y1 y2 = some (hz, ())) : Fw h hz := by
  unfold B_X8_answerScan_64 at hJ
  obtain ⟨a8, ea8, -, hJ⟩ := dr_some hJ
  obtain ⟨⟨h9, r10⟩, e11, hJ⟩ := ob_some hJ
  exact (wo_X0_addRow N a8 h y1 y2 e11).tr (wb_X8_answerScan_67 N k7 t0 _ _ _ _ _ _ _ m7 hJ)
theorem wb_X8_answerScan_43 (N : Nat) (k7 : Hp → Int32 → Int32 → Int32 → (Option Nat) → Int64 → Int32 → Option (Hp × Unit)) (t0 : Nat) (h : Hp) (x1 : Int32) (x2 : Int32) (x3 : Int32) (x4 : Option Nat) (x7 : Int32) (x8 : Int64) (y0 : Option Nat) (m7 : ∀ (h : Hp) (x1 : Int32) (x2 : Int32) (x3 : Int32) (x4 : Option Nat) (x5 : Int64) (x7 : Int32), k7 h x1 x2 x3 x4 x5 x7 = some (hz, ()) → Fw h hz) (hJ : B_X8_answerScan_43 N k7 t0 h x1 x2 x3 x4 x7 x8 y0 = some (hz, ())) : Fw h hz := by
  unfold B_X8_answerScan_43 at hJ
  cases ea13 : y0 with
  | none =>
    have hJ := nl_none ea13 hJ
    exact wb_X8_answerScan_64 N k7 t0 _ _ _ _ _ _ _ _ _ _ m7 hJ
  | some a13 =>
    have hJ := nl_some ea13 hJ
    obtain ⟨-, hJ⟩ := ck_some hJ
    exact wb_X8_answerScan_64 N k7 t0 _ _ _ _ _ _ _ _ _ _ m7 hJ
theorem wb_X8_answerScan_22 (N : Nat) (k7 : Hp → Int32 → Int32 → Int32 → (Option Nat) → Int64 → Int32 → Option (Hp × Unit)) (t0 : Nat) (h : Hp) (x1 : Int32) (x2 : Int32) (x3 : Int32) (x4 : Option Nat) (x5 : Int64) (x7 : Int32) (y0 : Int64) (m7 : ∀ (h : Hp) (x1 : Int32) (x2 : Int32) (x3 : Int32) (x4 : Option Nat) (x5 : Int64) (x7 : Int32), k7 h x1 x2 x3 x4 x5 x7 = some (hz, ()) → Fw h hz) (hJ : B_X8_answerScan_22 N k7 t0 h x1 x2 x3 x4 x5 x7 y0 = some (hz, ())) : Fw h hz := by
  unfold B_X8_answerScan_22 at hJ
  by_cases c15 : (lg_cmp y0 (-9223372036854775808 : Int64)) = 0
  · have hJ := it_pos c15 hJ
    exact wb_X8_answerScan_79 N t0 _ _ _ _ _ _ hJ
  · have hJ := it_neg c15 hJ
    obtain ⟨⟨h16, r17⟩, e18, hJ⟩ := ob_some hJ
    exact (wo_X8_seen N t0 h y0.toInt32 e18).tr (wb_X8_answerScan_43 N k7 t0 _ _ _ _ _ _ _ _ m7 hJ)
theorem wb_X8_answerScan_7 (N : Nat) (k7 : Hp → Int32 → Int32 → Int32 → (Option Nat) → Int64 → Int32 → Option (Hp × Unit)) (t0 : Nat) (h : Hp) (x1 : Int32) (x2 : Int32) (x3 : Int32) (x4 : Option Nat) (x5 : Int64) (x7 : Int32) (m7 : ∀ (h : Hp) (x1 : Int32) (x2 : Int32) (x3 : Int32) (x4 : Option Nat) (x5 : Int64) (x7 : Int32), k7 h x1 x2 x3 x4 x5 x7 = some (hz, ()) → Fw h hz) (hJ : B_X8_answerScan_7 N k7 t0 h x1 x2 x3 x4 x5 x7 = some (hz, ())) : Fw h hz := by
  unfold B_X8_answerScan_7 at hJ
  by_cases c20 : x3 ≤ x7
  · have hJ := it_pos c20 hJ
    exact wb_X8_answerScan_79 N t0 _ _ _ _ _ _ hJ
  · have hJ := it_neg c20 hJ
    obtain ⟨⟨h21, r22⟩, e23, hJ⟩ := ob_some hJ
    exact (wo_X8_nearest N t0 h x5 x2.toInt64 (1 : Int32) e23).tr (wb_X8_answerScan_22 N k7 t0 _ _ _ _ _ _ _ _ m7 hJ)
theorem wl_X8_answerScan_7 (N : Nat) (t0 : Nat) : ∀ (n : Nat) (h : Hp) (x1 : Int32) (x2 : Int32) (x3 : Int32) (x4 : Option Nat) (x5 : Int64) (x7 : Int32), L_X8_answerScan_7 N t0 n h x1 x2 x3 x4 x5 x7 = some (hz, ()) → Fw h hz := by
  intro n
  induction n with
  | zero => intro h x1 x2 x3 x4 x5 x7 hJ; cases hJ
  | succ n ih => intro h x1 x2 x3 x4 x5 x7 hJ; exact wb_X8_answerScan_7 N (L_X8_answerScan_7 N t0 n) t0 h x1 x2 x3 x4 x5 x7 ih hJ
theorem wb_X8_answerScan_0 (N : Nat) (t0 : Nat) (h : Hp) (x1 : Int32) (x2 : Int32) (x3 : Int32) (x4 : Option Nat) (hJ : B_X8_answerScan_0 N t0 h x1 x2 x3 x4 = some (hz, ())) : Fw h hz := by
  unfold B_X8_answerScan_0 at hJ
  exact wl_X8_answerScan_7 N t0 N _ _ _ _ _ _ _ hJ
theorem wo_X8_answerScan (N : Nat) (t0 : Nat) (h : Hp) (x1 : Int32) (x2 : Int32) (x3 : Int32) (x4 : Option Nat) (hJ : J_X8_answerScan N t0 h x1 x2 x3 x4 = some (hz, ())) : Fw h hz := wb_X8_answerScan_0 N t0 h x1 x2 x3 x4 hJ
end V_X8_answerScan
section V_X8_putOwn
variable {hz : Hp} {rz : Int32}
theorem wb_X8_putOwn_35 (N : Nat) (t0 : Nat) (h : Hp) (y0 : Int32) (hJ : B_X8_putOwn_35 N t0 h y0 = some (hz, rz)) : Fw h hz := by
  unfold B_X8_putOwn_35 at hJ
  obtain ⟨rfl, -⟩ := rs2 hJ
  exact (Fw.rf h)
theorem wb_X8_putOwn_28 (N : Nat) (t0 : Nat) (h : Hp) (hJ : B_X8_putOwn_28 N t0 h = some (hz, rz)) : Fw h hz := by
  unfold B_X8_putOwn_28 at hJ
  obtain ⟨a1, ea1, -, hJ⟩ := dr_some hJ
  obtain ⟨⟨h2, r3⟩, e4, hJ⟩ := ob_some hJ
  exact (wo_X5_size N a1 h e4).tr (wb_X8_putOwn_35 N t0 _ _ hJ)
theorem wb_X8_putOwn_0 (N : Nat) (t0 : Nat) (h : Hp) (x1 : Int32) (x2 : Int32) (x3 : Int64) (hJ : B_X8_putOwn_0 N t0 h x1 x2 x3 = some (hz, rz)) : Fw h hz := by
  unfold B_X8_putOwn_0 at hJ
  obtain ⟨a6, ea6, -, hJ⟩ := dr_some hJ
  obtain ⟨⟨h7, r8⟩, e9, hJ⟩ := ob_some hJ
  exact (Fw.tr (show Fw h (h.sfi 1106 t0 ((h.fi 1106 t0) + (1 : Int32))) from (Fw.rf h)) ((wo_X5_put N a6 (h.sfi 1106 t0 ((h.fi 1106 t0) + (1 : Int32))) x1 ((h.sfi 1106 t0 ((h.fi 1106 t0) + (1 : Int32))).fi 1106 t0) ((h.sfi 1106 t0 ((h.fi 1106 t0) + (1 : Int32))).fi 1102 t0) x2 x3 e9).tr (wb_X8_putOwn_28 N t0 _ hJ)))
theorem wo_X8_putOwn (N : Nat) (t0 : Nat) (h : Hp) (x1 : Int32) (x2 : Int32) (x3 : Int64) (hJ : J_X8_putOwn N t0 h x1 x2 x3 = some (hz, rz)) : Fw h hz := wb_X8_putOwn_0 N t0 h x1 x2 x3 hJ
end V_X8_putOwn
section V_X8_addPlace
variable {hz : Hp} {rz : Int32}
theorem wb_X8_addPlace_0 (N : Nat) (t0 : Nat) (h : Hp) (hJ : B_X8_addPlace_0 N t0 h = some (hz, rz)) : Fw h hz := by
  unfold B_X8_addPlace_0 at hJ
  obtain ⟨a1, ea1, -, hJ⟩ := dr_some hJ
  by_cases c2 : (h.fi 1105 t0) < (nI (h.al a1))
  · have hJ := it_pos c2 hJ
    obtain ⟨a3, ea3, -, hJ⟩ := dr_some hJ
    obtain ⟨-, hJ⟩ := ck_some hJ
    obtain ⟨rfl, -⟩ := rs2 hJ
    exact (Fw.rf h)
  · have hJ := it_neg c2 hJ
    obtain ⟨rfl, -⟩ := rs2 hJ
    exact (Fw.rf h)
theorem wo_X8_addPlace (N : Nat) (t0 : Nat) (h : Hp) (hJ : J_X8_addPlace N t0 h = some (hz, rz)) : Fw h hz := wb_X8_addPlace_0 N t0 h hJ
end V_X8_addPlace
section V_X8_hasPlace
variable {hz : Hp} {rz : Int32}
theorem wb_X8_hasPlace_18 (N : Nat) (t0 : Nat) (h : Hp) (y0 : Int32) (hJ : B_X8_hasPlace_18 N t0 h y0 = some (hz, rz)) : Fw h hz := by
  unfold B_X8_hasPlace_18 at hJ
  obtain ⟨-, hJ⟩ := ck_some hJ
  obtain ⟨rfl, -⟩ := rs2 hJ
  exact (Fw.rf h)
theorem wb_X8_hasPlace_17 (N : Nat) (t0 : Nat) (h : Hp) (hJ : B_X8_hasPlace_17 N t0 h = some (hz, rz)) : Fw h hz := by
  unfold B_X8_hasPlace_17 at hJ
  exact wb_X8_hasPlace_18 N t0 _ _ hJ
theorem wb_X8_hasPlace_0 (N : Nat) (t0 : Nat) (h : Hp) (x1 : Int32) (hJ : B_X8_hasPlace_0 N t0 h x1 = some (hz, rz)) : Fw h hz := by
  unfold B_X8_hasPlace_0 at hJ
  by_cases c2 : x1 < (1 : Int32)
  · have hJ := it_pos c2 hJ
    exact wb_X8_hasPlace_17 N t0 _ hJ
  · have hJ := it_neg c2 hJ
    by_cases c3 : (h.fi 1105 t0) < x1
    · have hJ := it_pos c3 hJ
      exact wb_X8_hasPlace_17 N t0 _ hJ
    · have hJ := it_neg c3 hJ
      exact wb_X8_hasPlace_18 N t0 _ _ hJ
theorem wo_X8_hasPlace (N : Nat) (t0 : Nat) (h : Hp) (x1 : Int32) (hJ : J_X8_hasPlace N t0 h x1 = some (hz, rz)) : Fw h hz := wb_X8_hasPlace_0 N t0 h x1 hJ
end V_X8_hasPlace
section V_X8_comeBack
variable {hz : Hp} {rz : Int32}
theorem wb_X8_comeBack_35 (N : Nat) (t0 : Nat) (h : Hp) (y0 : Int32) (hJ : B_X8_comeBack_35 N t0 h y0 = some (hz, rz)) : Fw h hz := by
  unfold B_X8_comeBack_35 at hJ
  obtain ⟨rfl, -⟩ := rs2 hJ
  exact (Fw.rf h)
theorem wb_X8_comeBack_28 (N : Nat) (t0 : Nat) (h : Hp) (hJ : B_X8_comeBack_28 N t0 h = some (hz, rz)) : Fw h hz := by
  unfold B_X8_comeBack_28 at hJ
  obtain ⟨a1, ea1, -, hJ⟩ := dr_some hJ
  obtain ⟨⟨h2, r3⟩, e4, hJ⟩ := ob_some hJ
  exact (wo_X5_size N a1 h e4).tr (wb_X8_comeBack_35 N t0 _ _ hJ)
theorem wb_X8_comeBack_23 (N : Nat) (t0 : Nat) (h : Hp) (x1 : Int32) (hJ : B_X8_comeBack_23 N t0 h x1 = some (hz, rz)) : Fw h hz := by
  unfold B_X8_comeBack_23 at hJ
  exact (Fw.tr (show Fw h (h.sfi 1105 t0 x1) from (Fw.rf h)) (wb_X8_comeBack_28 N t0 _ hJ))
theorem wb_X8_comeBack_5 (N : Nat) (t0 : Nat) (h : Hp) (x1 : Int32) (y0 : Int32) (hJ : B_X8_comeBack_5 N t0 h x1 y0 = some (hz, rz)) : Fw h hz := by
  unfold B_X8_comeBack_5 at hJ
  by_cases c6 : y0 = 0
  · have hJ := it_pos c6 hJ
    exact wb_X8_comeBack_28 N t0 _ hJ
  · have hJ := it_neg c6 hJ
    obtain ⟨a7, ea7, -, hJ⟩ := dr_some hJ
    obtain ⟨-, hJ⟩ := ck_some hJ
    obtain ⟨a9, ea9, -, hJ⟩ := dr_some hJ
    obtain ⟨⟨h10, r11⟩, e12, hJ⟩ := ob_some hJ
    exact (wo_X5_dropAfter N a9 h (h.ai a7 (x1 - (1 : Int32)).toNatClampNeg) e12).tr (wb_X8_comeBack_23 N t0 _ _ hJ)
theorem wb_X8_comeBack_0 (N : Nat) (t0 : Nat) (h : Hp) (x1 : Int32) (hJ : B_X8_comeBack_0 N t0 h x1 = some (hz, rz)) : Fw h hz := by
  unfold B_X8_comeBack_0 at hJ
  obtain ⟨⟨h14, r15⟩, e16, hJ⟩ := ob_some hJ
  exact (wo_X8_hasPlace N t0 h x1 e16).tr (wb_X8_comeBack_5 N t0 _ _ _ hJ)
theorem wo_X8_comeBack (N : Nat) (t0 : Nat) (h : Hp) (x1 : Int32) (hJ : J_X8_comeBack N t0 h x1 = some (hz, rz)) : Fw h hz := wb_X8_comeBack_0 N t0 h x1 hJ
end V_X8_comeBack
section V_X8_install
variable {hz : Hp}
theorem wb_X8_install_63 (N : Nat) (k2 : Hp → Int32 → Int32 → Option (Hp × Unit)) (t0 : Nat) (h : Hp) (x1 : Int32) (x2 : Int32) (m2 : ∀ (h : Hp) (x1 : Int32) (x2 : Int32), k2 h x1 x2 = some (hz, ()) → Fw h hz) (hJ : B_X8_install_63 N k2 t0 h x1 x2 = some (hz, ())) : Fw h hz := by
  unfold B_X8_install_63 at hJ
  exact m2 _ _ _ hJ
theorem wb_X8_install_21 (N : Nat) (k2 : Hp → Int32 → Int32 → Option (Hp × Unit)) (t0 : Nat) (h : Hp) (x1 : Int32) (x2 : Int32) (y0 : Option Nat) (m2 : ∀ (h : Hp) (x1 : Int32) (x2 : Int32), k2 h x1 x2 = some (hz, ()) → Fw h hz) (hJ : B_X8_install_21 N k2 t0 h x1 x2 y0 = some (hz, ())) : Fw h hz := by
  unfold B_X8_install_21 at hJ
  cases ea1 : y0 with
  | none =>
    have hJ := nl_none ea1 hJ
    exact wb_X8_install_63 N k2 t0 _ _ _ m2 hJ
  | some a1 =>
    have hJ := nl_some ea1 hJ
    obtain ⟨-, hJ⟩ := ck_some hJ
    cases ea3 : (h.fr 601 a1) with
    | none =>
      have hJ := nl_none ea3 hJ
      exact wb_X8_install_63 N k2 t0 _ _ _ m2 hJ
    | some a3 =>
      have hJ := nl_some ea3 hJ
      obtain ⟨a4, ea4, -, hJ⟩ := dr_some hJ
      obtain ⟨a5, ea5, -, hJ⟩ := dr_some hJ
      obtain ⟨a6, ea6, -, hJ⟩ := dr_some hJ
      obtain ⟨⟨h7, r8⟩, e9, hJ⟩ := ob_some hJ
      exact (wo_X5_put N a6 h (h.fi 600 a1) x1 (h.fi 1102 t0) (h.fi 702 a4) (h.fl 703 a5) e9).tr (wb_X8_install_63 N k2 t0 _ _ _ m2 hJ)
theorem wb_X8_install_10 (N : Nat) (k2 : Hp → Int32 → Int32 → Option (Hp × Unit)) (t0 : Nat) (h : Hp) (x1 : Int32) (x2 : Int32) (y0 : Int32) (y1 : Int32) (m2 : ∀ (h : Hp) (x1 : Int32) (x2 : Int32), k2 h x1 x2 = some (hz, ()) → Fw h hz) (hJ : B_X8_install_10 N k2 t0 h x1 x2 y0 y1 = some (hz, ())) : Fw h hz := by
  unfold B_X8_install_10 at hJ
  by_cases c11 : y1 ≤ y0
  · have hJ := it_pos c11 hJ
    obtain ⟨rfl, -⟩ := rs2 hJ
    exact (Fw.rf h)
  · have hJ := it_neg c11 hJ
    obtain ⟨a12, ea12, -, hJ⟩ := dr_some hJ
    obtain ⟨⟨h13, r14⟩, e15, hJ⟩ := ob_some hJ
    exact (wo_X5_chainAt N a12 h x2 e15).tr (wb_X8_install_21 N k2 t0 _ _ _ _ m2 hJ)
theorem wb_X8_install_2 (N : Nat) (k2 : Hp → Int32 → Int32 → Option (Hp × Unit)) (t0 : Nat) (h : Hp) (x1 : Int32) (x2 : Int32) (m2 : ∀ (h : Hp) (x1 : Int32) (x2 : Int32), k2 h x1 x2 = some (hz, ()) → Fw h hz) (hJ : B_X8_install_2 N k2 t0 h x1 x2 = some (hz, ())) : Fw h hz := by
  unfold B_X8_install_2 at hJ
  obtain ⟨a17, ea17, -, hJ⟩ := dr_some hJ
  obtain ⟨⟨h18, r19⟩, e20, hJ⟩ := ob_some hJ
  exact (wo_X5_size N a17 h e20).tr (wb_X8_install_10 N k2 t0 _ _ _ _ _ m2 hJ)
theorem wl_X8_install_2 (N : Nat) (t0 : Nat) : ∀ (n : Nat) (h : Hp) (x1 : Int32) (x2 : Int32), L_X8_install_2 N t0 n h x1 x2 = some (hz, ()) → Fw h hz := by
  intro n
  induction n with
  | zero => intro h x1 x2 hJ; cases hJ
  | succ n ih => intro h x1 x2 hJ; exact wb_X8_install_2 N (L_X8_install_2 N t0 n) t0 h x1 x2 ih hJ
theorem wb_X8_install_0 (N : Nat) (t0 : Nat) (h : Hp) (x1 : Int32) (hJ : B_X8_install_0 N t0 h x1 = some (hz, ())) : Fw h hz := by
  unfold B_X8_install_0 at hJ
  exact wl_X8_install_2 N t0 N _ _ _ hJ
theorem wo_X8_install (N : Nat) (t0 : Nat) (h : Hp) (x1 : Int32) (hJ : J_X8_install N t0 h x1 = some (hz, ())) : Fw h hz := wb_X8_install_0 N t0 h x1 hJ
end V_X8_install
