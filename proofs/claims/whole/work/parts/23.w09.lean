section V_X1_init
variable {hz : Hp}
theorem wb_X1_init_58 (N : Nat) (t0 : Nat) (h : Hp) (y0 : Option Nat) (y1 : Option Nat) (hJ : B_X1_init_58 N t0 h y0 y1 = some (hz, ())) : Fw h hz := by
  unfold B_X1_init_58 at hJ
  obtain ⟨a1, ea1, -, hJ⟩ := dr_some hJ
  obtain ⟨rfl, -⟩ := rs2 hJ
  exact (Fw.rf h)
theorem wb_X1_init_48 (N : Nat) (t0 : Nat) (h : Hp) (y0 : Option Nat) (y1 : Option Nat) (hJ : B_X1_init_48 N t0 h y0 y1 = some (hz, ())) : Fw h hz := by
  unfold B_X1_init_48 at hJ
  obtain ⟨a2, ea2, -, hJ⟩ := dr_some hJ
  obtain ⟨-, hJ⟩ := ck_some hJ
  exact (Fw.tr (show Fw h (h.sfr 404 a2 y1) from (Fw.rf h)) ((Fw.new (h.sfr 404 a2 y1) _ _ _).tr (wb_X1_init_58 N t0 _ _ _ hJ)))
theorem wb_X1_init_19 (N : Nat) (t0 : Nat) (h : Hp) (y0 : Option Nat) (y1 : Int32) (hJ : B_X1_init_19 N t0 h y0 y1 = some (hz, ())) : Fw h hz := by
  unfold B_X1_init_19 at hJ
  obtain ⟨a5, ea5, -, hJ⟩ := dr_some hJ
  obtain ⟨-, hJ⟩ := ck_some hJ
  exact (Fw.tr (show Fw h ((h.sfi 402 a5 y1).sfi 403 t0 (((((h.sfi 402 a5 y1).fi 402 t0) + (63 : Int32)).toUInt32 >>> ((6 : Int32).toUInt32 &&& Int32.toUInt32 31)).toInt32)) from (Fw.rf h)) ((Fw.new ((h.sfi 402 a5 y1).sfi 403 t0 (((((h.sfi 402 a5 y1).fi 402 t0) + (63 : Int32)).toUInt32 >>> ((6 : Int32).toUInt32 &&& Int32.toUInt32 31)).toInt32)) _ _ _).tr (wb_X1_init_48 N t0 _ _ _ hJ)))
theorem wb_X1_init_0 (N : Nat) (t0 : Nat) (h : Hp) (x1 : Option Nat) (x2 : Option Nat) (hJ : B_X1_init_0 N t0 h x1 x2 = some (hz, ())) : Fw h hz := by
  unfold B_X1_init_0 at hJ
  obtain ⟨a8, ea8, -, hJ⟩ := dr_some hJ
  obtain ⟨⟨h9, r10⟩, e11, hJ⟩ := ob_some hJ
  exact (Fw.tr (show Fw h ((h.sfr 400 t0 x1).sfr 401 t0 x2) from (Fw.rf h)) ((wo_Jx4a65c_size_8abf5 N a8 ((h.sfr 400 t0 x1).sfr 401 t0 x2) e11).tr (wb_X1_init_19 N t0 _ _ _ hJ)))
theorem wo_X1_init (N : Nat) (t0 : Nat) (h : Hp) (x1 : Option Nat) (x2 : Option Nat) (hJ : J_X1_init N t0 h x1 x2 = some (hz, ())) : Fw h hz := wb_X1_init_0 N t0 h x1 x2 hJ
end V_X1_init
section V_X1_draw
variable {hz : Hp}
theorem wb_X1_draw_67 (N : Nat) (t0 : Nat) (h : Hp) (hJ : B_X1_draw_67 N t0 h = some (hz, ())) : Fw h hz := by
  unfold B_X1_draw_67 at hJ
  obtain ⟨rfl, -⟩ := rs2 hJ
  exact (Fw.rf h)
theorem wb_X1_draw_0 (N : Nat) (t0 : Nat) (h : Hp) (x1 : Int32) (x2 : Int32) (hJ : B_X1_draw_0 N t0 h x1 x2 = some (hz, ())) : Fw h hz := by
  unfold B_X1_draw_0 at hJ
  by_cases c1 : (x1 - (1 : Int32)) = (x2 - (1 : Int32))
  · have hJ := it_pos c1 hJ
    exact wb_X1_draw_67 N t0 _ hJ
  · have hJ := it_neg c1 hJ
    by_cases c2 : (x1 - (1 : Int32)) < 0
    · have hJ := it_pos c2 hJ
      exact wb_X1_draw_67 N t0 _ hJ
    · have hJ := it_neg c2 hJ
      by_cases c3 : (h.fi 402 t0) ≤ (x1 - (1 : Int32))
      · have hJ := it_pos c3 hJ
        exact wb_X1_draw_67 N t0 _ hJ
      · have hJ := it_neg c3 hJ
        by_cases c4 : (x2 - (1 : Int32)) < 0
        · have hJ := it_pos c4 hJ
          exact wb_X1_draw_67 N t0 _ hJ
        · have hJ := it_neg c4 hJ
          by_cases c5 : (h.fi 402 t0) ≤ (x2 - (1 : Int32))
          · have hJ := it_pos c5 hJ
            exact wb_X1_draw_67 N t0 _ hJ
          · have hJ := it_neg c5 hJ
            obtain ⟨a6, ea6, -, hJ⟩ := dr_some hJ
            obtain ⟨-, hJ⟩ := ck_some hJ
            obtain ⟨-, hJ⟩ := ck_some hJ
            exact (Fw.tr (show Fw h (h.saw a6 (((x2 - (1 : Int32)) * (h.fi 403 t0)) + (((x1 - (1 : Int32)).toUInt32 >>> ((6 : Int32).toUInt32 &&& Int32.toUInt32 31)).toInt32)).toNatClampNeg ((h.aw a6 (((x2 - (1 : Int32)) * (h.fi 403 t0)) + (((x1 - (1 : Int32)).toUInt32 >>> ((6 : Int32).toUInt32 &&& Int32.toUInt32 31)).toInt32)).toNatClampNeg) ||| ((1 : Int64) <<< (((x1 - (1 : Int32)) &&& (63 : Int32)).toInt64 &&& 63)))) from (Fw.rf h)) (wb_X1_draw_67 N t0 _ hJ))
theorem wo_X1_draw (N : Nat) (t0 : Nat) (h : Hp) (x1 : Int32) (x2 : Int32) (hJ : J_X1_draw N t0 h x1 x2 = some (hz, ())) : Fw h hz := wb_X1_draw_0 N t0 h x1 x2 hJ
end V_X1_draw
section V_X1_drawVersions
variable {hz : Hp}
theorem wb_X1_drawVersions_61 (N : Nat) (k2 : Hp → Int32 → Option (Hp × Unit)) (k35 : Hp → Int32 → (Option Nat) → Option (Hp × Unit)) (t0 : Nat) (h : Hp) (x1 : Int32) (x3 : Option Nat) (m2 : ∀ (h : Hp) (x1 : Int32), k2 h x1 = some (hz, ()) → Fw h hz) (m35 : ∀ (h : Hp) (x1 : Int32) (x3 : Option Nat), k35 h x1 x3 = some (hz, ()) → Fw h hz) (hJ : B_X1_drawVersions_61 N k2 k35 t0 h x1 x3 = some (hz, ())) : Fw h hz := by
  unfold B_X1_drawVersions_61 at hJ
  obtain ⟨a1, ea1, -, hJ⟩ := dr_some hJ
  exact m35 _ _ _ hJ
theorem wb_X1_drawVersions_69 (N : Nat) (k2 : Hp → Int32 → Option (Hp × Unit)) (t0 : Nat) (h : Hp) (x1 : Int32) (m2 : ∀ (h : Hp) (x1 : Int32), k2 h x1 = some (hz, ()) → Fw h hz) (hJ : B_X1_drawVersions_69 N k2 t0 h x1 = some (hz, ())) : Fw h hz := by
  unfold B_X1_drawVersions_69 at hJ
  exact m2 _ _ hJ
theorem wb_X1_drawVersions_35 (N : Nat) (k2 : Hp → Int32 → Option (Hp × Unit)) (k35 : Hp → Int32 → (Option Nat) → Option (Hp × Unit)) (t0 : Nat) (h : Hp) (x1 : Int32) (x3 : Option Nat) (m2 : ∀ (h : Hp) (x1 : Int32), k2 h x1 = some (hz, ()) → Fw h hz) (m35 : ∀ (h : Hp) (x1 : Int32) (x3 : Option Nat), k35 h x1 x3 = some (hz, ()) → Fw h hz) (hJ : B_X1_drawVersions_35 N k2 k35 t0 h x1 x3 = some (hz, ())) : Fw h hz := by
  unfold B_X1_drawVersions_35 at hJ
  cases ea2 : x3 with
  | none =>
    have hJ := nl_none ea2 hJ
    exact wb_X1_drawVersions_69 N k2 t0 _ _ m2 hJ
  | some a2 =>
    have hJ := nl_some ea2 hJ
    obtain ⟨-, hJ⟩ := ck_some hJ
    cases ea4 : (h.fr 704 a2) with
    | none =>
      have hJ := nl_none ea4 hJ
      exact wb_X1_drawVersions_69 N k2 t0 _ _ m2 hJ
    | some a4 =>
      have hJ := nl_some ea4 hJ
      obtain ⟨a5, ea5, -, hJ⟩ := dr_some hJ
      obtain ⟨⟨h6, r7⟩, e8, hJ⟩ := ob_some hJ
      exact (wo_X1_draw N t0 h (h.fi 700 a5) (h.fi 700 a2) e8).tr (wb_X1_drawVersions_61 N k2 k35 t0 _ _ _ m2 m35 hJ)
theorem wl_X1_drawVersions_35 (N : Nat) (k2 : Hp → Int32 → Option (Hp × Unit)) (t0 : Nat) (m2 : ∀ (h : Hp) (x1 : Int32), k2 h x1 = some (hz, ()) → Fw h hz) : ∀ (n : Nat) (h : Hp) (x1 : Int32) (x3 : Option Nat), L_X1_drawVersions_35 N k2 t0 n h x1 x3 = some (hz, ()) → Fw h hz := by
  intro n
  induction n with
  | zero => intro h x1 x3 hJ; cases hJ
  | succ n ih => intro h x1 x3 hJ; exact wb_X1_drawVersions_35 N k2 (L_X1_drawVersions_35 N k2 t0 n) t0 h x1 x3 m2 ih hJ
theorem wb_X1_drawVersions_34 (N : Nat) (k2 : Hp → Int32 → Option (Hp × Unit)) (t0 : Nat) (h : Hp) (x1 : Int32) (y0 : Option Nat) (m2 : ∀ (h : Hp) (x1 : Int32), k2 h x1 = some (hz, ()) → Fw h hz) (hJ : B_X1_drawVersions_34 N k2 t0 h x1 y0 = some (hz, ())) : Fw h hz := by
  unfold B_X1_drawVersions_34 at hJ
  exact wl_X1_drawVersions_35 N k2 t0 m2 N _ _ _ hJ
theorem wb_X1_drawVersions_21 (N : Nat) (k2 : Hp → Int32 → Option (Hp × Unit)) (t0 : Nat) (h : Hp) (x1 : Int32) (y0 : Option Nat) (m2 : ∀ (h : Hp) (x1 : Int32), k2 h x1 = some (hz, ()) → Fw h hz) (hJ : B_X1_drawVersions_21 N k2 t0 h x1 y0 = some (hz, ())) : Fw h hz := by
  unfold B_X1_drawVersions_21 at hJ
  cases ea10 : y0 with
  | none =>
    have hJ := nl_none ea10 hJ
    exact wb_X1_drawVersions_34 N k2 t0 _ _ _ m2 hJ
  | some a10 =>
    have hJ := nl_some ea10 hJ
    obtain ⟨-, hJ⟩ := ck_some hJ
    exact wb_X1_drawVersions_34 N k2 t0 _ _ _ m2 hJ
theorem wb_X1_drawVersions_10 (N : Nat) (k2 : Hp → Int32 → Option (Hp × Unit)) (t0 : Nat) (h : Hp) (x1 : Int32) (y0 : Int32) (y1 : Int32) (m2 : ∀ (h : Hp) (x1 : Int32), k2 h x1 = some (hz, ()) → Fw h hz) (hJ : B_X1_drawVersions_10 N k2 t0 h x1 y0 y1 = some (hz, ())) : Fw h hz := by
  unfold B_X1_drawVersions_10 at hJ
  by_cases c12 : y1 ≤ y0
  · have hJ := it_pos c12 hJ
    obtain ⟨rfl, -⟩ := rs2 hJ
    exact (Fw.rf h)
  · have hJ := it_neg c12 hJ
    obtain ⟨a13, ea13, -, hJ⟩ := dr_some hJ
    obtain ⟨⟨h14, r15⟩, e16, hJ⟩ := ob_some hJ
    exact (wo_X5_chainAt N a13 h x1 e16).tr (wb_X1_drawVersions_21 N k2 t0 _ _ _ m2 hJ)
theorem wb_X1_drawVersions_2 (N : Nat) (k2 : Hp → Int32 → Option (Hp × Unit)) (t0 : Nat) (h : Hp) (x1 : Int32) (m2 : ∀ (h : Hp) (x1 : Int32), k2 h x1 = some (hz, ()) → Fw h hz) (hJ : B_X1_drawVersions_2 N k2 t0 h x1 = some (hz, ())) : Fw h hz := by
  unfold B_X1_drawVersions_2 at hJ
  obtain ⟨a18, ea18, -, hJ⟩ := dr_some hJ
  obtain ⟨⟨h19, r20⟩, e21, hJ⟩ := ob_some hJ
  exact (wo_X5_size N a18 h e21).tr (wb_X1_drawVersions_10 N k2 t0 _ _ _ _ m2 hJ)
theorem wl_X1_drawVersions_2 (N : Nat) (t0 : Nat) : ∀ (n : Nat) (h : Hp) (x1 : Int32), L_X1_drawVersions_2 N t0 n h x1 = some (hz, ()) → Fw h hz := by
  intro n
  induction n with
  | zero => intro h x1 hJ; cases hJ
  | succ n ih => intro h x1 hJ; exact wb_X1_drawVersions_2 N (L_X1_drawVersions_2 N t0 n) t0 h x1 ih hJ
theorem wb_X1_drawVersions_0 (N : Nat) (t0 : Nat) (h : Hp) (hJ : B_X1_drawVersions_0 N t0 h = some (hz, ())) : Fw h hz := by
  unfold B_X1_drawVersions_0 at hJ
  exact wl_X1_drawVersions_2 N t0 N _ _ hJ
theorem wo_X1_drawVersions (N : Nat) (t0 : Nat) (h : Hp) (hJ : J_X1_drawVersions N t0 h = some (hz, ())) : Fw h hz := wb_X1_drawVersions_0 N t0 h hJ
end V_X1_drawVersions
section V_X1_drawLooking
variable {hz : Hp}
theorem wb_X1_drawLooking_115 (N : Nat) (t0 : Nat) (h : Hp) (hJ : B_X1_drawLooking_115 N t0 h = some (hz, ())) : Fw h hz := by
  unfold B_X1_drawLooking_115 at hJ
  obtain ⟨rfl, -⟩ := rs2 hJ
  exact (Fw.rf h)
theorem wb_X1_drawLooking_109 (N : Nat) (k11 : Hp → (Option Nat) → Int32 → Int32 → Option (Hp × Unit)) (t0 : Nat) (h : Hp) (x1 : Option Nat) (x3 : Int32) (x4 : Int32) (m11 : ∀ (h : Hp) (x1 : Option Nat) (x3 : Int32) (x4 : Int32), k11 h x1 x3 x4 = some (hz, ()) → Fw h hz) (hJ : B_X1_drawLooking_109 N k11 t0 h x1 x3 x4 = some (hz, ())) : Fw h hz := by
  unfold B_X1_drawLooking_109 at hJ
  exact m11 _ _ _ _ hJ
theorem wb_X1_drawLooking_89 (N : Nat) (k11 : Hp → (Option Nat) → Int32 → Int32 → Option (Hp × Unit)) (t0 : Nat) (h : Hp) (x1 : Option Nat) (x3 : Int32) (x4 : Int32) (y0 : Option Nat) (m11 : ∀ (h : Hp) (x1 : Option Nat) (x3 : Int32) (x4 : Int32), k11 h x1 x3 x4 = some (hz, ()) → Fw h hz) (hJ : B_X1_drawLooking_89 N k11 t0 h x1 x3 x4 y0 = some (hz, ())) : Fw h hz := by
  unfold B_X1_drawLooking_89 at hJ
  cases ea1 : y0 with
  | none =>
    have hJ := nl_none ea1 hJ
    exact wb_X1_drawLooking_109 N k11 t0 _ _ _ _ m11 hJ
  | some a1 =>
    have hJ := nl_some ea1 hJ
    obtain ⟨a2, ea2, -, hJ⟩ := dr_some hJ
    obtain ⟨-, hJ⟩ := ck_some hJ
    obtain ⟨⟨h4, r5⟩, e6, hJ⟩ := ob_some hJ
    exact (wo_X1_draw N t0 h (h.fi 1007 a2) (h.fi 700 a1) e6).tr (wb_X1_drawLooking_109 N k11 t0 _ _ _ _ m11 hJ)
theorem wb_X1_drawLooking_80 (N : Nat) (k11 : Hp → (Option Nat) → Int32 → Int32 → Option (Hp × Unit)) (t0 : Nat) (h : Hp) (x1 : Option Nat) (x3 : Int32) (x4 : Int32) (x5 : Option Nat) (m11 : ∀ (h : Hp) (x1 : Option Nat) (x3 : Int32) (x4 : Int32), k11 h x1 x3 x4 = some (hz, ()) → Fw h hz) (hJ : B_X1_drawLooking_80 N k11 t0 h x1 x3 x4 x5 = some (hz, ())) : Fw h hz := by
  unfold B_X1_drawLooking_80 at hJ
  obtain ⟨a8, ea8, -, hJ⟩ := dr_some hJ
  obtain ⟨a9, ea9, -, hJ⟩ := dr_some hJ
  obtain ⟨⟨h10, r11⟩, e12, hJ⟩ := ob_some hJ
  exact (wo_X3_firstAfter N a9 h (h.fi 1001 a8) e12).tr (wb_X1_drawLooking_89 N k11 t0 _ _ _ _ _ m11 hJ)
theorem wb_X1_drawLooking_60 (N : Nat) (k11 : Hp → (Option Nat) → Int32 → Int32 → Option (Hp × Unit)) (t0 : Nat) (h : Hp) (x1 : Option Nat) (x3 : Int32) (x4 : Int32) (x5 : Option Nat) (y0 : Option Nat) (m11 : ∀ (h : Hp) (x1 : Option Nat) (x3 : Int32) (x4 : Int32), k11 h x1 x3 x4 = some (hz, ()) → Fw h hz) (hJ : B_X1_drawLooking_60 N k11 t0 h x1 x3 x4 x5 y0 = some (hz, ())) : Fw h hz := by
  unfold B_X1_drawLooking_60 at hJ
  cases ea14 : y0 with
  | none =>
    have hJ := nl_none ea14 hJ
    exact wb_X1_drawLooking_80 N k11 t0 _ _ _ _ _ m11 hJ
  | some a14 =>
    have hJ := nl_some ea14 hJ
    obtain ⟨-, hJ⟩ := ck_some hJ
    obtain ⟨a16, ea16, -, hJ⟩ := dr_some hJ
    obtain ⟨⟨h17, r18⟩, e19, hJ⟩ := ob_some hJ
    exact (wo_X1_draw N t0 h (h.fi 700 a14) (h.fi 1007 a16) e19).tr (wb_X1_drawLooking_80 N k11 t0 _ _ _ _ _ m11 hJ)
theorem wb_X1_drawLooking_32 (N : Nat) (k11 : Hp → (Option Nat) → Int32 → Int32 → Option (Hp × Unit)) (t0 : Nat) (h : Hp) (x1 : Option Nat) (x3 : Int32) (x4 : Int32) (y0 : Option Nat) (m11 : ∀ (h : Hp) (x1 : Option Nat) (x3 : Int32) (x4 : Int32), k11 h x1 x3 x4 = some (hz, ()) → Fw h hz) (hJ : B_X1_drawLooking_32 N k11 t0 h x1 x3 x4 y0 = some (hz, ())) : Fw h hz := by
  unfold B_X1_drawLooking_32 at hJ
  cases ea21 : y0 with
  | none =>
    have hJ := nl_none ea21 hJ
    exact wb_X1_drawLooking_115 N t0 _ hJ
  | some a21 =>
    have hJ := nl_some ea21 hJ
    obtain ⟨-, hJ⟩ := ck_some hJ
    by_cases c23 : (h.fi 600 a21) ≤ x3
    · have hJ := it_pos c23 hJ
      obtain ⟨a24, ea24, -, hJ⟩ := dr_some hJ
      obtain ⟨⟨h25, r26⟩, e27, hJ⟩ := ob_some hJ
      exact (wo_X3_upTo N a21 h (h.fi 1001 a24) e27).tr (wb_X1_drawLooking_60 N k11 t0 _ _ _ _ _ _ m11 hJ)
    · have hJ := it_neg c23 hJ
      exact wb_X1_drawLooking_115 N t0 _ hJ
theorem wb_X1_drawLooking_20 (N : Nat) (k11 : Hp → (Option Nat) → Int32 → Int32 → Option (Hp × Unit)) (t0 : Nat) (h : Hp) (x1 : Option Nat) (x3 : Int32) (x4 : Int32) (y0 : Int32) (y1 : Int32) (m11 : ∀ (h : Hp) (x1 : Option Nat) (x3 : Int32) (x4 : Int32), k11 h x1 x3 x4 = some (hz, ()) → Fw h hz) (hJ : B_X1_drawLooking_20 N k11 t0 h x1 x3 x4 y0 y1 = some (hz, ())) : Fw h hz := by
  unfold B_X1_drawLooking_20 at hJ
  by_cases c29 : y1 ≤ y0
  · have hJ := it_pos c29 hJ
    exact wb_X1_drawLooking_115 N t0 _ hJ
  · have hJ := it_neg c29 hJ
    obtain ⟨a30, ea30, -, hJ⟩ := dr_some hJ
    obtain ⟨⟨h31, r32⟩, e33, hJ⟩ := ob_some hJ
    exact (wo_X5_chainAt N a30 h x4 e33).tr (wb_X1_drawLooking_32 N k11 t0 _ _ _ _ _ m11 hJ)
theorem wb_X1_drawLooking_11 (N : Nat) (k11 : Hp → (Option Nat) → Int32 → Int32 → Option (Hp × Unit)) (t0 : Nat) (h : Hp) (x1 : Option Nat) (x3 : Int32) (x4 : Int32) (m11 : ∀ (h : Hp) (x1 : Option Nat) (x3 : Int32) (x4 : Int32), k11 h x1 x3 x4 = some (hz, ()) → Fw h hz) (hJ : B_X1_drawLooking_11 N k11 t0 h x1 x3 x4 = some (hz, ())) : Fw h hz := by
  unfold B_X1_drawLooking_11 at hJ
  obtain ⟨a35, ea35, -, hJ⟩ := dr_some hJ
  obtain ⟨⟨h36, r37⟩, e38, hJ⟩ := ob_some hJ
  exact (wo_X5_size N a35 h e38).tr (wb_X1_drawLooking_20 N k11 t0 _ _ _ _ _ _ m11 hJ)
theorem wl_X1_drawLooking_11 (N : Nat) (t0 : Nat) : ∀ (n : Nat) (h : Hp) (x1 : Option Nat) (x3 : Int32) (x4 : Int32), L_X1_drawLooking_11 N t0 n h x1 x3 x4 = some (hz, ()) → Fw h hz := by
  intro n
  induction n with
  | zero => intro h x1 x3 x4 hJ; cases hJ
  | succ n ih => intro h x1 x3 x4 hJ; exact wb_X1_drawLooking_11 N (L_X1_drawLooking_11 N t0 n) t0 h x1 x3 x4 ih hJ
theorem wb_X1_drawLooking_9 (N : Nat) (t0 : Nat) (h : Hp) (x1 : Option Nat) (x3 : Int32) (y0 : Int32) (hJ : B_X1_drawLooking_9 N t0 h x1 x3 y0 = some (hz, ())) : Fw h hz := by
  unfold B_X1_drawLooking_9 at hJ
  exact wl_X1_drawLooking_11 N t0 N _ _ _ _ hJ
theorem wb_X1_drawLooking_0 (N : Nat) (t0 : Nat) (h : Hp) (x1 : Option Nat) (x2 : Int32) (x3 : Int32) (hJ : B_X1_drawLooking_0 N t0 h x1 x2 x3 = some (hz, ())) : Fw h hz := by
  unfold B_X1_drawLooking_0 at hJ
  obtain ⟨a40, ea40, -, hJ⟩ := dr_some hJ
  obtain ⟨⟨h41, r42⟩, e43, hJ⟩ := ob_some hJ
  exact (wo_X5_indexFrom N a40 h x2.toInt64 e43).tr (wb_X1_drawLooking_9 N t0 _ _ _ _ hJ)
theorem wo_X1_drawLooking (N : Nat) (t0 : Nat) (h : Hp) (x1 : Option Nat) (x2 : Int32) (x3 : Int32) (hJ : J_X1_drawLooking N t0 h x1 x2 x3 = some (hz, ())) : Fw h hz := wb_X1_drawLooking_0 N t0 h x1 x2 x3 hJ
end V_X1_drawLooking
section V_X1_drawLookings
variable {hz : Hp}
theorem wb_X1_drawLookings_58 (N : Nat) (k2 : Hp → Int32 → Option (Hp × Unit)) (k24 : Hp → Int32 → (Option Nat) → Int32 → Option (Hp × Unit)) (t0 : Nat) (h : Hp) (x1 : Int32) (x2 : Option Nat) (x3 : Int32) (m2 : ∀ (h : Hp) (x1 : Int32), k2 h x1 = some (hz, ()) → Fw h hz) (m24 : ∀ (h : Hp) (x1 : Int32) (x2 : Option Nat) (x3 : Int32), k24 h x1 x2 x3 = some (hz, ()) → Fw h hz) (hJ : B_X1_drawLookings_58 N k2 k24 t0 h x1 x2 x3 = some (hz, ())) : Fw h hz := by
  unfold B_X1_drawLookings_58 at hJ
  exact m24 _ _ _ _ hJ
theorem wb_X1_drawLookings_24 (N : Nat) (k2 : Hp → Int32 → Option (Hp × Unit)) (k24 : Hp → Int32 → (Option Nat) → Int32 → Option (Hp × Unit)) (t0 : Nat) (h : Hp) (x1 : Int32) (x2 : Option Nat) (x3 : Int32) (m2 : ∀ (h : Hp) (x1 : Int32), k2 h x1 = some (hz, ()) → Fw h hz) (m24 : ∀ (h : Hp) (x1 : Int32) (x2 : Option Nat) (x3 : Int32), k24 h x1 x2 x3 = some (hz, ()) → Fw h hz) (hJ : B_X1_drawLookings_24 N k2 k24 t0 h x1 x2 x3 = some (hz, ())) : Fw h hz := by
  unfold B_X1_drawLookings_24 at hJ
  obtain ⟨a1, ea1, -, hJ⟩ := dr_some hJ
  obtain ⟨a2, ea2, -, hJ⟩ := dr_some hJ
  by_cases c3 : (h.fi 902 a2) ≤ x3
  · have hJ := it_pos c3 hJ
    exact m2 _ _ hJ
  · have hJ := it_neg c3 hJ
    obtain ⟨a4, ea4, -, hJ⟩ := dr_some hJ
    obtain ⟨a5, ea5, -, hJ⟩ := dr_some hJ
    obtain ⟨-, hJ⟩ := ck_some hJ
    obtain ⟨a7, ea7, -, hJ⟩ := dr_some hJ
    obtain ⟨a8, ea8, -, hJ⟩ := dr_some hJ
    obtain ⟨-, hJ⟩ := ck_some hJ
    obtain ⟨⟨h10, r11⟩, e12, hJ⟩ := ob_some hJ
    exact (wo_X1_drawLooking N t0 h (some a1) (h.ai a5 x3.toNatClampNeg) (h.ai a8 x3.toNatClampNeg) e12).tr (wb_X1_drawLookings_58 N k2 k24 t0 _ _ _ _ m2 m24 hJ)
theorem wl_X1_drawLookings_24 (N : Nat) (k2 : Hp → Int32 → Option (Hp × Unit)) (t0 : Nat) (m2 : ∀ (h : Hp) (x1 : Int32), k2 h x1 = some (hz, ()) → Fw h hz) : ∀ (n : Nat) (h : Hp) (x1 : Int32) (x2 : Option Nat) (x3 : Int32), L_X1_drawLookings_24 N k2 t0 n h x1 x2 x3 = some (hz, ()) → Fw h hz := by
  intro n
  induction n with
  | zero => intro h x1 x2 x3 hJ; cases hJ
  | succ n ih => intro h x1 x2 x3 hJ; exact wb_X1_drawLookings_24 N k2 (L_X1_drawLookings_24 N k2 t0 n) t0 h x1 x2 x3 m2 ih hJ
theorem wb_X1_drawLookings_18 (N : Nat) (k2 : Hp → Int32 → Option (Hp × Unit)) (t0 : Nat) (h : Hp) (x1 : Int32) (y0 : Option Nat) (m2 : ∀ (h : Hp) (x1 : Int32), k2 h x1 = some (hz, ()) → Fw h hz) (hJ : B_X1_drawLookings_18 N k2 t0 h x1 y0 = some (hz, ())) : Fw h hz := by
  unfold B_X1_drawLookings_18 at hJ
  obtain ⟨a14, ea14, -, hJ⟩ := dr_some hJ
  exact wl_X1_drawLookings_24 N k2 t0 m2 N _ _ _ _ hJ
theorem wb_X1_drawLookings_2 (N : Nat) (k2 : Hp → Int32 → Option (Hp × Unit)) (t0 : Nat) (h : Hp) (x1 : Int32) (m2 : ∀ (h : Hp) (x1 : Int32), k2 h x1 = some (hz, ()) → Fw h hz) (hJ : B_X1_drawLookings_2 N k2 t0 h x1 = some (hz, ())) : Fw h hz := by
  unfold B_X1_drawLookings_2 at hJ
  by_cases c15 : (h.fi 402 t0) ≤ x1
  · have hJ := it_pos c15 hJ
    obtain ⟨rfl, -⟩ := rs2 hJ
    exact (Fw.rf h)
  · have hJ := it_neg c15 hJ
    obtain ⟨a16, ea16, -, hJ⟩ := dr_some hJ
    obtain ⟨⟨h17, r18⟩, e19, hJ⟩ := ob_some hJ
    exact (wo_Jx4a65c_get_915e3 N a16 h x1 e19).tr (wb_X1_drawLookings_18 N k2 t0 _ _ _ m2 hJ)
theorem wl_X1_drawLookings_2 (N : Nat) (t0 : Nat) : ∀ (n : Nat) (h : Hp) (x1 : Int32), L_X1_drawLookings_2 N t0 n h x1 = some (hz, ()) → Fw h hz := by
  intro n
  induction n with
  | zero => intro h x1 hJ; cases hJ
  | succ n ih => intro h x1 hJ; exact wb_X1_drawLookings_2 N (L_X1_drawLookings_2 N t0 n) t0 h x1 ih hJ
theorem wb_X1_drawLookings_0 (N : Nat) (t0 : Nat) (h : Hp) (hJ : B_X1_drawLookings_0 N t0 h = some (hz, ())) : Fw h hz := by
  unfold B_X1_drawLookings_0 at hJ
  exact wl_X1_drawLookings_2 N t0 N _ _ hJ
theorem wo_X1_drawLookings (N : Nat) (t0 : Nat) (h : Hp) (hJ : J_X1_drawLookings N t0 h = some (hz, ())) : Fw h hz := wb_X1_drawLookings_0 N t0 h hJ
end V_X1_drawLookings
section V_X1_isDone
variable {hz : Hp} {rz : Int32}
theorem wb_X1_isDone_23 (N : Nat) (t0 : Nat) (h : Hp) (y0 : Int32) (hJ : B_X1_isDone_23 N t0 h y0 = some (hz, rz)) : Fw h hz := by
  unfold B_X1_isDone_23 at hJ
  obtain ⟨-, hJ⟩ := ck_some hJ
  obtain ⟨rfl, -⟩ := rs2 hJ
  exact (Fw.rf h)
theorem wb_X1_isDone_0 (N : Nat) (t0 : Nat) (h : Hp) (x1 : Int32) (x2 : Option Nat) (hJ : B_X1_isDone_0 N t0 h x1 x2 = some (hz, rz)) : Fw h hz := by
  unfold B_X1_isDone_0 at hJ
  obtain ⟨a2, ea2, -, hJ⟩ := dr_some hJ
  obtain ⟨-, hJ⟩ := ck_some hJ
  by_cases c4 : (lg_cmp ((((h.aw a2 ((x1.toUInt32 >>> ((6 : Int32).toUInt32 &&& Int32.toUInt32 31)).toInt32).toNatClampNeg).toUInt64 >>> ((x1 &&& (63 : Int32)).toInt64.toUInt64 &&& Int64.toUInt64 63)).toInt64) &&& (1 : Int64)) (0 : Int64)) = 0
  · have hJ := it_pos c4 hJ
    exact wb_X1_isDone_23 N t0 _ _ hJ
  · have hJ := it_neg c4 hJ
    exact wb_X1_isDone_23 N t0 _ _ hJ
theorem wo_X1_isDone (N : Nat) (t0 : Nat) (h : Hp) (x1 : Int32) (x2 : Option Nat) (hJ : J_X1_isDone N t0 h x1 x2 = some (hz, rz)) : Fw h hz := wb_X1_isDone_0 N t0 h x1 x2 hJ
end V_X1_isDone
section V_X1_isReady
variable {hz : Hp} {rz : Int32}
theorem wb_X1_isReady_2 (N : Nat) (k2 : Hp → Int32 → (Option Nat) → Int32 → Option (Hp × Int32)) (t0 : Nat) (h : Hp) (x1 : Int32) (x2 : Option Nat) (x3 : Int32) (m2 : ∀ (h : Hp) (x1 : Int32) (x2 : Option Nat) (x3 : Int32), k2 h x1 x2 x3 = some (hz, rz) → Fw h hz) (hJ : B_X1_isReady_2 N k2 t0 h x1 x2 x3 = some (hz, rz)) : Fw h hz := by
  unfold B_X1_isReady_2 at hJ
  by_cases c1 : (h.fi 403 t0) ≤ x3
  · have hJ := it_pos c1 hJ
    obtain ⟨rfl, -⟩ := rs2 hJ
    exact (Fw.rf h)
  · have hJ := it_neg c1 hJ
    obtain ⟨a2, ea2, -, hJ⟩ := dr_some hJ
    obtain ⟨-, hJ⟩ := ck_some hJ
    obtain ⟨a4, ea4, -, hJ⟩ := dr_some hJ
    obtain ⟨-, hJ⟩ := ck_some hJ
    by_cases c6 : (lg_cmp ((h.aw a2 ((x1 * (h.fi 403 t0)) + x3).toNatClampNeg) &&& ((h.aw a4 x3.toNatClampNeg) ^^^ (-1 : Int64))) (0 : Int64)) = 0
    · have hJ := it_pos c6 hJ
      exact m2 _ _ _ _ hJ
    · have hJ := it_neg c6 hJ
      obtain ⟨rfl, -⟩ := rs2 hJ
      exact (Fw.rf h)
theorem wl_X1_isReady_2 (N : Nat) (t0 : Nat) : ∀ (n : Nat) (h : Hp) (x1 : Int32) (x2 : Option Nat) (x3 : Int32), L_X1_isReady_2 N t0 n h x1 x2 x3 = some (hz, rz) → Fw h hz := by
  intro n
  induction n with
  | zero => intro h x1 x2 x3 hJ; cases hJ
  | succ n ih => intro h x1 x2 x3 hJ; exact wb_X1_isReady_2 N (L_X1_isReady_2 N t0 n) t0 h x1 x2 x3 ih hJ
theorem wb_X1_isReady_0 (N : Nat) (t0 : Nat) (h : Hp) (x1 : Int32) (x2 : Option Nat) (hJ : B_X1_isReady_0 N t0 h x1 x2 = some (hz, rz)) : Fw h hz := by
  unfold B_X1_isReady_0 at hJ
  exact wl_X1_isReady_2 N t0 N _ _ _ _ hJ
theorem wo_X1_isReady (N : Nat) (t0 : Nat) (h : Hp) (x1 : Int32) (x2 : Option Nat) (hJ : J_X1_isReady N t0 h x1 x2 = some (hz, rz)) : Fw h hz := wb_X1_isReady_0 N t0 h x1 x2 hJ
end V_X1_isReady
section V_X1_lineUp
variable {hz : Hp} {rz : Int32}
theorem wb_X1_lineUp_74 (N : Nat) (k11 : Hp → (Option Nat) → Int32 → Int32 → Option (Hp × Int32)) (k45 : Hp → (Option Nat) → Int32 → Int32 → Int32 → Option (Hp × Int32)) (t0 : Nat) (h : Hp) (x1 : Option Nat) (x2 : Int32) (x3 : Int32) (x4 : Int32) (m11 : ∀ (h : Hp) (x1 : Option Nat) (x2 : Int32) (x3 : Int32), k11 h x1 x2 x3 = some (hz, rz) → Fw h hz) (m45 : ∀ (h : Hp) (x1 : Option Nat) (x2 : Int32) (x3 : Int32) (x4 : Int32), k45 h x1 x2 x3 x4 = some (hz, rz) → Fw h hz) (hJ : B_X1_lineUp_74 N k11 k45 t0 h x1 x2 x3 x4 = some (hz, rz)) : Fw h hz := by
  unfold B_X1_lineUp_74 at hJ
  exact m45 _ _ _ _ _ hJ
theorem wb_X1_lineUp_80 (N : Nat) (k11 : Hp → (Option Nat) → Int32 → Int32 → Option (Hp × Int32)) (t0 : Nat) (h : Hp) (x1 : Option Nat) (x2 : Int32) (x3 : Int32) (x4 : Int32) (m11 : ∀ (h : Hp) (x1 : Option Nat) (x2 : Int32) (x3 : Int32), k11 h x1 x2 x3 = some (hz, rz) → Fw h hz) (hJ : B_X1_lineUp_80 N k11 t0 h x1 x2 x3 x4 = some (hz, rz)) : Fw h hz := by
  unfold B_X1_lineUp_80 at hJ
  by_cases c1 : x4 < (h.fi 402 t0)
  · have hJ := it_pos c1 hJ
    obtain ⟨a2, ea2, -, hJ⟩ := dr_some hJ
    obtain ⟨-, hJ⟩ := ck_some hJ
    obtain ⟨-, hJ⟩ := ck_some hJ
    obtain ⟨a5, ea5, -, hJ⟩ := dr_some hJ
    obtain ⟨-, hJ⟩ := ck_some hJ
    exact (Fw.tr (show Fw h ((h.saw a2 ((x4.toUInt32 >>> ((6 : Int32).toUInt32 &&& Int32.toUInt32 31)).toInt32).toNatClampNeg ((h.aw a2 ((x4.toUInt32 >>> ((6 : Int32).toUInt32 &&& Int32.toUInt32 31)).toInt32).toNatClampNeg) ||| ((1 : Int64) <<< ((x4 &&& (63 : Int32)).toInt64 &&& 63)))).sai a5 x3.toNatClampNeg x4) from (Fw.rf h)) (m11 _ _ _ _ hJ))
  · have hJ := it_neg c1 hJ
    obtain ⟨rfl, -⟩ := rs2 hJ
    exact (Fw.rf h)
theorem wb_X1_lineUp_71 (N : Nat) (k11 : Hp → (Option Nat) → Int32 → Int32 → Option (Hp × Int32)) (k45 : Hp → (Option Nat) → Int32 → Int32 → Int32 → Option (Hp × Int32)) (t0 : Nat) (h : Hp) (x1 : Option Nat) (x2 : Int32) (x3 : Int32) (x4 : Int32) (y0 : Int32) (m11 : ∀ (h : Hp) (x1 : Option Nat) (x2 : Int32) (x3 : Int32), k11 h x1 x2 x3 = some (hz, rz) → Fw h hz) (m45 : ∀ (h : Hp) (x1 : Option Nat) (x2 : Int32) (x3 : Int32) (x4 : Int32), k45 h x1 x2 x3 x4 = some (hz, rz) → Fw h hz) (hJ : B_X1_lineUp_71 N k11 k45 t0 h x1 x2 x3 x4 y0 = some (hz, rz)) : Fw h hz := by
  unfold B_X1_lineUp_71 at hJ
  by_cases c7 : y0 = 0
  · have hJ := it_pos c7 hJ
    exact wb_X1_lineUp_74 N k11 k45 t0 _ _ _ _ _ m11 m45 hJ
  · have hJ := it_neg c7 hJ
    exact wb_X1_lineUp_80 N k11 t0 _ _ _ _ _ m11 hJ
theorem wb_X1_lineUp_61 (N : Nat) (k11 : Hp → (Option Nat) → Int32 → Int32 → Option (Hp × Int32)) (k45 : Hp → (Option Nat) → Int32 → Int32 → Int32 → Option (Hp × Int32)) (t0 : Nat) (h : Hp) (x1 : Option Nat) (x2 : Int32) (x3 : Int32) (x4 : Int32) (y0 : Int32) (m11 : ∀ (h : Hp) (x1 : Option Nat) (x2 : Int32) (x3 : Int32), k11 h x1 x2 x3 = some (hz, rz) → Fw h hz) (m45 : ∀ (h : Hp) (x1 : Option Nat) (x2 : Int32) (x3 : Int32) (x4 : Int32), k45 h x1 x2 x3 x4 = some (hz, rz) → Fw h hz) (hJ : B_X1_lineUp_61 N k11 k45 t0 h x1 x2 x3 x4 y0 = some (hz, rz)) : Fw h hz := by
  unfold B_X1_lineUp_61 at hJ
  by_cases c8 : y0 = 0
  · have hJ := it_pos c8 hJ
    obtain ⟨⟨h9, r10⟩, e11, hJ⟩ := ob_some hJ
    exact (wo_X1_isReady N t0 h x4 x1 e11).tr (wb_X1_lineUp_71 N k11 k45 t0 _ _ _ _ _ _ m11 m45 hJ)
  · have hJ := it_neg c8 hJ
    exact wb_X1_lineUp_74 N k11 k45 t0 _ _ _ _ _ m11 m45 hJ
theorem wb_X1_lineUp_45 (N : Nat) (k11 : Hp → (Option Nat) → Int32 → Int32 → Option (Hp × Int32)) (k45 : Hp → (Option Nat) → Int32 → Int32 → Int32 → Option (Hp × Int32)) (t0 : Nat) (h : Hp) (x1 : Option Nat) (x2 : Int32) (x3 : Int32) (x4 : Int32) (m11 : ∀ (h : Hp) (x1 : Option Nat) (x2 : Int32) (x3 : Int32), k11 h x1 x2 x3 = some (hz, rz) → Fw h hz) (m45 : ∀ (h : Hp) (x1 : Option Nat) (x2 : Int32) (x3 : Int32) (x4 : Int32), k45 h x1 x2 x3 x4 = some (hz, rz) → Fw h hz) (hJ : B_X1_lineUp_45 N k11 k45 t0 h x1 x2 x3 x4 = some (hz, rz)) : Fw h hz := by
  unfold B_X1_lineUp_45 at hJ
  by_cases c13 : (h.fi 402 t0) ≤ x4
  · have hJ := it_pos c13 hJ
    exact wb_X1_lineUp_80 N k11 t0 _ _ _ _ _ m11 hJ
  · have hJ := it_neg c13 hJ
    obtain ⟨⟨h14, r15⟩, e16, hJ⟩ := ob_some hJ
    exact (wo_X1_isDone N t0 h x4 x1 e16).tr (wb_X1_lineUp_61 N k11 k45 t0 _ _ _ _ _ _ m11 m45 hJ)
theorem wl_X1_lineUp_45 (N : Nat) (k11 : Hp → (Option Nat) → Int32 → Int32 → Option (Hp × Int32)) (t0 : Nat) (m11 : ∀ (h : Hp) (x1 : Option Nat) (x2 : Int32) (x3 : Int32), k11 h x1 x2 x3 = some (hz, rz) → Fw h hz) : ∀ (n : Nat) (h : Hp) (x1 : Option Nat) (x2 : Int32) (x3 : Int32) (x4 : Int32), L_X1_lineUp_45 N k11 t0 n h x1 x2 x3 x4 = some (hz, rz) → Fw h hz := by
  intro n
  induction n with
  | zero => intro h x1 x2 x3 x4 hJ; cases hJ
  | succ n ih => intro h x1 x2 x3 x4 hJ; exact wb_X1_lineUp_45 N k11 (L_X1_lineUp_45 N k11 t0 n) t0 h x1 x2 x3 x4 m11 ih hJ
theorem wb_X1_lineUp_42 (N : Nat) (k11 : Hp → (Option Nat) → Int32 → Int32 → Option (Hp × Int32)) (t0 : Nat) (h : Hp) (x1 : Option Nat) (x2 : Int32) (x3 : Int32) (m11 : ∀ (h : Hp) (x1 : Option Nat) (x2 : Int32) (x3 : Int32), k11 h x1 x2 x3 = some (hz, rz) → Fw h hz) (hJ : B_X1_lineUp_42 N k11 t0 h x1 x2 x3 = some (hz, rz)) : Fw h hz := by
  unfold B_X1_lineUp_42 at hJ
  exact wl_X1_lineUp_45 N k11 t0 m11 N _ _ _ _ _ hJ
theorem wb_X1_lineUp_33 (N : Nat) (k11 : Hp → (Option Nat) → Int32 → Int32 → Option (Hp × Int32)) (k19 : Hp → (Option Nat) → Int32 → Int32 → Option (Hp × Int32)) (t0 : Nat) (h : Hp) (x1 : Option Nat) (x2 : Int32) (x3 : Int32) (y0 : Int32) (m11 : ∀ (h : Hp) (x1 : Option Nat) (x2 : Int32) (x3 : Int32), k11 h x1 x2 x3 = some (hz, rz) → Fw h hz) (m19 : ∀ (h : Hp) (x1 : Option Nat) (x2 : Int32) (x3 : Int32), k19 h x1 x2 x3 = some (hz, rz) → Fw h hz) (hJ : B_X1_lineUp_33 N k11 k19 t0 h x1 x2 x3 y0 = some (hz, rz)) : Fw h hz := by
  unfold B_X1_lineUp_33 at hJ
  by_cases c18 : y0 = 0
  · have hJ := it_pos c18 hJ
    exact wb_X1_lineUp_42 N k11 t0 _ _ _ _ m11 hJ
  · have hJ := it_neg c18 hJ
    exact m19 _ _ _ _ hJ
theorem wb_X1_lineUp_19 (N : Nat) (k11 : Hp → (Option Nat) → Int32 → Int32 → Option (Hp × Int32)) (k19 : Hp → (Option Nat) → Int32 → Int32 → Option (Hp × Int32)) (t0 : Nat) (h : Hp) (x1 : Option Nat) (x2 : Int32) (x3 : Int32) (m11 : ∀ (h : Hp) (x1 : Option Nat) (x2 : Int32) (x3 : Int32), k11 h x1 x2 x3 = some (hz, rz) → Fw h hz) (m19 : ∀ (h : Hp) (x1 : Option Nat) (x2 : Int32) (x3 : Int32), k19 h x1 x2 x3 = some (hz, rz) → Fw h hz) (hJ : B_X1_lineUp_19 N k11 k19 t0 h x1 x2 x3 = some (hz, rz)) : Fw h hz := by
  unfold B_X1_lineUp_19 at hJ
  by_cases c19 : (h.fi 402 t0) ≤ x2
  · have hJ := it_pos c19 hJ
    exact wb_X1_lineUp_42 N k11 t0 _ _ _ _ m11 hJ
  · have hJ := it_neg c19 hJ
    obtain ⟨⟨h20, r21⟩, e22, hJ⟩ := ob_some hJ
    exact (wo_X1_isDone N t0 h x2 x1 e22).tr (wb_X1_lineUp_33 N k11 k19 t0 _ _ _ _ _ m11 m19 hJ)
theorem wl_X1_lineUp_19 (N : Nat) (k11 : Hp → (Option Nat) → Int32 → Int32 → Option (Hp × Int32)) (t0 : Nat) (m11 : ∀ (h : Hp) (x1 : Option Nat) (x2 : Int32) (x3 : Int32), k11 h x1 x2 x3 = some (hz, rz) → Fw h hz) : ∀ (n : Nat) (h : Hp) (x1 : Option Nat) (x2 : Int32) (x3 : Int32), L_X1_lineUp_19 N k11 t0 n h x1 x2 x3 = some (hz, rz) → Fw h hz := by
  intro n
  induction n with
  | zero => intro h x1 x2 x3 hJ; cases hJ
  | succ n ih => intro h x1 x2 x3 hJ; exact wb_X1_lineUp_19 N k11 (L_X1_lineUp_19 N k11 t0 n) t0 h x1 x2 x3 m11 ih hJ
theorem wb_X1_lineUp_11 (N : Nat) (k11 : Hp → (Option Nat) → Int32 → Int32 → Option (Hp × Int32)) (t0 : Nat) (h : Hp) (x1 : Option Nat) (x2 : Int32) (x3 : Int32) (m11 : ∀ (h : Hp) (x1 : Option Nat) (x2 : Int32) (x3 : Int32), k11 h x1 x2 x3 = some (hz, rz) → Fw h hz) (hJ : B_X1_lineUp_11 N k11 t0 h x1 x2 x3 = some (hz, rz)) : Fw h hz := by
  unfold B_X1_lineUp_11 at hJ
  by_cases c24 : (h.fi 402 t0) ≤ x3
  · have hJ := it_pos c24 hJ
    obtain ⟨rfl, -⟩ := rs2 hJ
    exact (Fw.rf h)
  · have hJ := it_neg c24 hJ
    exact wl_X1_lineUp_19 N k11 t0 m11 N _ _ _ _ hJ
theorem wl_X1_lineUp_11 (N : Nat) (t0 : Nat) : ∀ (n : Nat) (h : Hp) (x1 : Option Nat) (x2 : Int32) (x3 : Int32), L_X1_lineUp_11 N t0 n h x1 x2 x3 = some (hz, rz) → Fw h hz := by
  intro n
  induction n with
  | zero => intro h x1 x2 x3 hJ; cases hJ
  | succ n ih => intro h x1 x2 x3 hJ; exact wb_X1_lineUp_11 N (L_X1_lineUp_11 N t0 n) t0 h x1 x2 x3 ih hJ
theorem wb_X1_lineUp_6 (N : Nat) (t0 : Nat) (h : Hp) (y0 : Option Nat) (hJ : B_X1_lineUp_6 N t0 h y0 = some (hz, rz)) : Fw h hz := by
  unfold B_X1_lineUp_6 at hJ
  exact wl_X1_lineUp_11 N t0 N _ _ _ _ hJ
theorem wb_X1_lineUp_0 (N : Nat) (t0 : Nat) (h : Hp) (hJ : B_X1_lineUp_0 N t0 h = some (hz, rz)) : Fw h hz := by
  unfold B_X1_lineUp_0 at hJ
  obtain ⟨-, hJ⟩ := ck_some hJ
  exact (Fw.new h _ _ _).tr (wb_X1_lineUp_6 N t0 _ _ hJ)
theorem wo_X1_lineUp (N : Nat) (t0 : Nat) (h : Hp) (hJ : J_X1_lineUp N t0 h = some (hz, rz)) : Fw h hz := wb_X1_lineUp_0 N t0 h hJ
end V_X1_lineUp
section V_X1_otherKeys
variable {hz : Hp} {rz : Int32}
theorem wb_X1_otherKeys_151 (N : Nat) (k4 : Hp → (Option Nat) → Int32 → Int32 → Option (Hp × Int32)) (t0 : Nat) (h : Hp) (x1 : Option Nat) (x2 : Int32) (x3 : Int32) (m4 : ∀ (h : Hp) (x1 : Option Nat) (x2 : Int32) (x3 : Int32), k4 h x1 x2 x3 = some (hz, rz) → Fw h hz) (hJ : B_X1_otherKeys_151 N k4 t0 h x1 x2 x3 = some (hz, rz)) : Fw h hz := by
  unfold B_X1_otherKeys_151 at hJ
  exact m4 _ _ _ _ hJ
theorem wb_X1_otherKeys_148 (N : Nat) (k4 : Hp → (Option Nat) → Int32 → Int32 → Option (Hp × Int32)) (t0 : Nat) (h : Hp) (x1 : Option Nat) (x2 : Int32) (x3 : Int32) (m4 : ∀ (h : Hp) (x1 : Option Nat) (x2 : Int32) (x3 : Int32), k4 h x1 x2 x3 = some (hz, rz) → Fw h hz) (hJ : B_X1_otherKeys_148 N k4 t0 h x1 x2 x3 = some (hz, rz)) : Fw h hz := by
  unfold B_X1_otherKeys_148 at hJ
  exact wb_X1_otherKeys_151 N k4 t0 _ _ _ _ m4 hJ
theorem wb_X1_otherKeys_115 (N : Nat) (k4 : Hp → (Option Nat) → Int32 → Int32 → Option (Hp × Int32)) (t0 : Nat) (h : Hp) (x1 : Option Nat) (x2 : Int32) (x3 : Int32) (x6 : Option Nat) (x7 : Option Nat) (x8 : Int32) (y0 : Int32) (m4 : ∀ (h : Hp) (x1 : Option Nat) (x2 : Int32) (x3 : Int32), k4 h x1 x2 x3 = some (hz, rz) → Fw h hz) (hJ : B_X1_otherKeys_115 N k4 t0 h x1 x2 x3 x6 x7 x8 y0 = some (hz, rz)) : Fw h hz := by
  unfold B_X1_otherKeys_115 at hJ
  by_cases c1 : x8 = y0
  · have hJ := it_pos c1 hJ
    by_cases c2 : x8 = 0
    · have hJ := it_pos c2 hJ
      exact wb_X1_otherKeys_151 N k4 t0 _ _ _ _ m4 hJ
    · have hJ := it_neg c2 hJ
      by_cases c3 : y0 = 0
      · have hJ := it_pos c3 hJ
        exact wb_X1_otherKeys_151 N k4 t0 _ _ _ _ m4 hJ
      · have hJ := it_neg c3 hJ
        obtain ⟨a4, ea4, -, hJ⟩ := dr_some hJ
        obtain ⟨a5, ea5, -, hJ⟩ := dr_some hJ
        by_cases c6 : (lg_cmp (h.fl 703 a4) (h.fl 703 a5)) = 0
        · have hJ := it_pos c6 hJ
          exact wb_X1_otherKeys_151 N k4 t0 _ _ _ _ m4 hJ
        · have hJ := it_neg c6 hJ
          exact wb_X1_otherKeys_148 N k4 t0 _ _ _ _ m4 hJ
  · have hJ := it_neg c1 hJ
    exact wb_X1_otherKeys_148 N k4 t0 _ _ _ _ m4 hJ
theorem wb_X1_otherKeys_114 (N : Nat) (k4 : Hp → (Option Nat) → Int32 → Int32 → Option (Hp × Int32)) (t0 : Nat) (h : Hp) (x1 : Option Nat) (x2 : Int32) (x3 : Int32) (x6 : Option Nat) (x7 : Option Nat) (x8 : Int32) (m4 : ∀ (h : Hp) (x1 : Option Nat) (x2 : Int32) (x3 : Int32), k4 h x1 x2 x3 = some (hz, rz) → Fw h hz) (hJ : B_X1_otherKeys_114 N k4 t0 h x1 x2 x3 x6 x7 x8 = some (hz, rz)) : Fw h hz := by
  unfold B_X1_otherKeys_114 at hJ
  exact wb_X1_otherKeys_115 N k4 t0 _ _ _ _ _ _ _ _ m4 hJ
theorem wb_X1_otherKeys_95 (N : Nat) (k4 : Hp → (Option Nat) → Int32 → Int32 → Option (Hp × Int32)) (t0 : Nat) (h : Hp) (x1 : Option Nat) (x2 : Int32) (x3 : Int32) (x6 : Option Nat) (x7 : Option Nat) (y0 : Int32) (m4 : ∀ (h : Hp) (x1 : Option Nat) (x2 : Int32) (x3 : Int32), k4 h x1 x2 x3 = some (hz, rz) → Fw h hz) (hJ : B_X1_otherKeys_95 N k4 t0 h x1 x2 x3 x6 x7 y0 = some (hz, rz)) : Fw h hz := by
  unfold B_X1_otherKeys_95 at hJ
  cases ea7 : x7 with
  | none =>
    have hJ := nl_none ea7 hJ
    exact wb_X1_otherKeys_114 N k4 t0 _ _ _ _ _ _ _ m4 hJ
  | some a7 =>
    have hJ := nl_some ea7 hJ
    obtain ⟨-, hJ⟩ := ck_some hJ
    by_cases c9 : (h.fi 702 a7) = 0
    · have hJ := it_pos c9 hJ
      exact wb_X1_otherKeys_114 N k4 t0 _ _ _ _ _ _ _ m4 hJ
    · have hJ := it_neg c9 hJ
      exact wb_X1_otherKeys_115 N k4 t0 _ _ _ _ _ _ _ _ m4 hJ
theorem wb_X1_otherKeys_94 (N : Nat) (k4 : Hp → (Option Nat) → Int32 → Int32 → Option (Hp × Int32)) (t0 : Nat) (h : Hp) (x1 : Option Nat) (x2 : Int32) (x3 : Int32) (x6 : Option Nat) (x7 : Option Nat) (m4 : ∀ (h : Hp) (x1 : Option Nat) (x2 : Int32) (x3 : Int32), k4 h x1 x2 x3 = some (hz, rz) → Fw h hz) (hJ : B_X1_otherKeys_94 N k4 t0 h x1 x2 x3 x6 x7 = some (hz, rz)) : Fw h hz := by
  unfold B_X1_otherKeys_94 at hJ
  exact wb_X1_otherKeys_95 N k4 t0 _ _ _ _ _ _ _ m4 hJ
theorem wb_X1_otherKeys_75 (N : Nat) (k4 : Hp → (Option Nat) → Int32 → Int32 → Option (Hp × Int32)) (t0 : Nat) (h : Hp) (x1 : Option Nat) (x2 : Int32) (x3 : Int32) (x6 : Option Nat) (y0 : Option Nat) (m4 : ∀ (h : Hp) (x1 : Option Nat) (x2 : Int32) (x3 : Int32), k4 h x1 x2 x3 = some (hz, rz) → Fw h hz) (hJ : B_X1_otherKeys_75 N k4 t0 h x1 x2 x3 x6 y0 = some (hz, rz)) : Fw h hz := by
  unfold B_X1_otherKeys_75 at hJ
  cases ea10 : x6 with
  | none =>
    have hJ := nl_none ea10 hJ
    exact wb_X1_otherKeys_94 N k4 t0 _ _ _ _ _ _ m4 hJ
  | some a10 =>
    have hJ := nl_some ea10 hJ
    obtain ⟨-, hJ⟩ := ck_some hJ
    by_cases c12 : (h.fi 702 a10) = 0
    · have hJ := it_pos c12 hJ
      exact wb_X1_otherKeys_94 N k4 t0 _ _ _ _ _ _ m4 hJ
    · have hJ := it_neg c12 hJ
      exact wb_X1_otherKeys_95 N k4 t0 _ _ _ _ _ _ _ m4 hJ
theorem wb_X1_otherKeys_59 (N : Nat) (k4 : Hp → (Option Nat) → Int32 → Int32 → Option (Hp × Int32)) (t0 : Nat) (h : Hp) (x1 : Option Nat) (x2 : Int32) (x3 : Int32) (x5 : Option Nat) (y0 : Option Nat) (m4 : ∀ (h : Hp) (x1 : Option Nat) (x2 : Int32) (x3 : Int32), k4 h x1 x2 x3 = some (hz, rz) → Fw h hz) (hJ : B_X1_otherKeys_59 N k4 t0 h x1 x2 x3 x5 y0 = some (hz, rz)) : Fw h hz := by
  unfold B_X1_otherKeys_59 at hJ
  cases ea13 : x5 with
  | none =>
    have hJ := nl_none ea13 hJ
    exact wb_X1_otherKeys_75 N k4 t0 _ _ _ _ _ _ m4 hJ
  | some a13 =>
    have hJ := nl_some ea13 hJ
    obtain ⟨-, hJ⟩ := ck_some hJ
    exact wb_X1_otherKeys_75 N k4 t0 _ _ _ _ _ _ m4 hJ
theorem wb_X1_otherKeys_43 (N : Nat) (k4 : Hp → (Option Nat) → Int32 → Int32 → Option (Hp × Int32)) (t0 : Nat) (h : Hp) (x1 : Option Nat) (x2 : Int32) (x3 : Int32) (x4 : Option Nat) (y0 : Option Nat) (m4 : ∀ (h : Hp) (x1 : Option Nat) (x2 : Int32) (x3 : Int32), k4 h x1 x2 x3 = some (hz, rz) → Fw h hz) (hJ : B_X1_otherKeys_43 N k4 t0 h x1 x2 x3 x4 y0 = some (hz, rz)) : Fw h hz := by
  unfold B_X1_otherKeys_43 at hJ
  cases ea15 : x4 with
  | none =>
    have hJ := nl_none ea15 hJ
    exact wb_X1_otherKeys_59 N k4 t0 _ _ _ _ _ _ m4 hJ
  | some a15 =>
    have hJ := nl_some ea15 hJ
    obtain ⟨-, hJ⟩ := ck_some hJ
    exact wb_X1_otherKeys_59 N k4 t0 _ _ _ _ _ _ m4 hJ
theorem wb_X1_otherKeys_23 (N : Nat) (k4 : Hp → (Option Nat) → Int32 → Int32 → Option (Hp × Int32)) (t0 : Nat) (h : Hp) (x1 : Option Nat) (x2 : Int32) (x3 : Int32) (y0 : Option Nat) (m4 : ∀ (h : Hp) (x1 : Option Nat) (x2 : Int32) (x3 : Int32), k4 h x1 x2 x3 = some (hz, rz) → Fw h hz) (hJ : B_X1_otherKeys_23 N k4 t0 h x1 x2 x3 y0 = some (hz, rz)) : Fw h hz := by
  unfold B_X1_otherKeys_23 at hJ
  cases ea17 : y0 with
  | none =>
    have hJ := nl_none ea17 hJ
    exact wb_X1_otherKeys_43 N k4 t0 _ _ _ _ _ _ m4 hJ
  | some a17 =>
    have hJ := nl_some ea17 hJ
    obtain ⟨-, hJ⟩ := ck_some hJ
    obtain ⟨a19, ea19, -, hJ⟩ := dr_some hJ
    obtain ⟨⟨h20, r21⟩, e22, hJ⟩ := ob_some hJ
    exact (wo_X5_find N a19 h (h.fi 600 a17) e22).tr (wb_X1_otherKeys_43 N k4 t0 _ _ _ _ _ _ m4 hJ)
theorem wb_X1_otherKeys_12 (N : Nat) (k4 : Hp → (Option Nat) → Int32 → Int32 → Option (Hp × Int32)) (t0 : Nat) (h : Hp) (x1 : Option Nat) (x2 : Int32) (x3 : Int32) (y0 : Int32) (y1 : Int32) (m4 : ∀ (h : Hp) (x1 : Option Nat) (x2 : Int32) (x3 : Int32), k4 h x1 x2 x3 = some (hz, rz) → Fw h hz) (hJ : B_X1_otherKeys_12 N k4 t0 h x1 x2 x3 y0 y1 = some (hz, rz)) : Fw h hz := by
  unfold B_X1_otherKeys_12 at hJ
  by_cases c24 : y1 ≤ y0
  · have hJ := it_pos c24 hJ
    obtain ⟨rfl, -⟩ := rs2 hJ
    exact (Fw.rf h)
  · have hJ := it_neg c24 hJ
    obtain ⟨a25, ea25, -, hJ⟩ := dr_some hJ
    obtain ⟨⟨h26, r27⟩, e28, hJ⟩ := ob_some hJ
    exact (wo_X5_chainAt N a25 h x3 e28).tr (wb_X1_otherKeys_23 N k4 t0 _ _ _ _ _ m4 hJ)
theorem wb_X1_otherKeys_4 (N : Nat) (k4 : Hp → (Option Nat) → Int32 → Int32 → Option (Hp × Int32)) (t0 : Nat) (h : Hp) (x1 : Option Nat) (x2 : Int32) (x3 : Int32) (m4 : ∀ (h : Hp) (x1 : Option Nat) (x2 : Int32) (x3 : Int32), k4 h x1 x2 x3 = some (hz, rz) → Fw h hz) (hJ : B_X1_otherKeys_4 N k4 t0 h x1 x2 x3 = some (hz, rz)) : Fw h hz := by
  unfold B_X1_otherKeys_4 at hJ
  obtain ⟨a30, ea30, -, hJ⟩ := dr_some hJ
  obtain ⟨⟨h31, r32⟩, e33, hJ⟩ := ob_some hJ
  exact (wo_X5_size N a30 h e33).tr (wb_X1_otherKeys_12 N k4 t0 _ _ _ _ _ _ m4 hJ)
theorem wl_X1_otherKeys_4 (N : Nat) (t0 : Nat) : ∀ (n : Nat) (h : Hp) (x1 : Option Nat) (x2 : Int32) (x3 : Int32), L_X1_otherKeys_4 N t0 n h x1 x2 x3 = some (hz, rz) → Fw h hz := by
  intro n
  induction n with
  | zero => intro h x1 x2 x3 hJ; cases hJ
  | succ n ih => intro h x1 x2 x3 hJ; exact wb_X1_otherKeys_4 N (L_X1_otherKeys_4 N t0 n) t0 h x1 x2 x3 ih hJ
theorem wb_X1_otherKeys_0 (N : Nat) (t0 : Nat) (h : Hp) (x1 : Option Nat) (hJ : B_X1_otherKeys_0 N t0 h x1 = some (hz, rz)) : Fw h hz := by
  unfold B_X1_otherKeys_0 at hJ
  exact wl_X1_otherKeys_4 N t0 N _ _ _ _ hJ
theorem wo_X1_otherKeys (N : Nat) (t0 : Nat) (h : Hp) (x1 : Option Nat) (hJ : J_X1_otherKeys N t0 h x1 = some (hz, rz)) : Fw h hz := wb_X1_otherKeys_0 N t0 h x1 hJ
end V_X1_otherKeys
section V_X1_differences
variable {hz : Hp} {rz : Int32}
theorem wb_X1_differences_120 (N : Nat) (k13 : Hp → (Option Nat) → (Option Nat) → Int32 → Int32 → Option (Hp × Int32)) (k61 : Hp → (Option Nat) → (Option Nat) → Int32 → Int32 → (Option Nat) → (Option Nat) → Int32 → Option (Hp × Int32)) (t0 : Nat) (h : Hp) (x1 : Option Nat) (x2 : Option Nat) (x3 : Int32) (x4 : Int32) (x5 : Option Nat) (x6 : Option Nat) (x7 : Int32) (m13 : ∀ (h : Hp) (x1 : Option Nat) (x2 : Option Nat) (x3 : Int32) (x4 : Int32), k13 h x1 x2 x3 x4 = some (hz, rz) → Fw h hz) (m61 : ∀ (h : Hp) (x1 : Option Nat) (x2 : Option Nat) (x3 : Int32) (x4 : Int32) (x5 : Option Nat) (x6 : Option Nat) (x7 : Int32), k61 h x1 x2 x3 x4 x5 x6 x7 = some (hz, rz) → Fw h hz) (hJ : B_X1_differences_120 N k13 k61 t0 h x1 x2 x3 x4 x5 x6 x7 = some (hz, rz)) : Fw h hz := by
  unfold B_X1_differences_120 at hJ
  exact m61 _ _ _ _ _ _ _ _ hJ
theorem wb_X1_differences_114 (N : Nat) (k13 : Hp → (Option Nat) → (Option Nat) → Int32 → Int32 → Option (Hp × Int32)) (k61 : Hp → (Option Nat) → (Option Nat) → Int32 → Int32 → (Option Nat) → (Option Nat) → Int32 → Option (Hp × Int32)) (t0 : Nat) (h : Hp) (x1 : Option Nat) (x2 : Option Nat) (x3 : Int32) (x4 : Int32) (x5 : Option Nat) (x6 : Option Nat) (x7 : Int32) (y0 : Int32) (m13 : ∀ (h : Hp) (x1 : Option Nat) (x2 : Option Nat) (x3 : Int32) (x4 : Int32), k13 h x1 x2 x3 x4 = some (hz, rz) → Fw h hz) (m61 : ∀ (h : Hp) (x1 : Option Nat) (x2 : Option Nat) (x3 : Int32) (x4 : Int32) (x5 : Option Nat) (x6 : Option Nat) (x7 : Int32), k61 h x1 x2 x3 x4 x5 x6 x7 = some (hz, rz) → Fw h hz) (hJ : B_X1_differences_114 N k13 k61 t0 h x1 x2 x3 x4 x5 x6 x7 y0 = some (hz, rz)) : Fw h hz := by
  unfold B_X1_differences_114 at hJ
  by_cases c1 : y0 = 0
  · have hJ := it_pos c1 hJ
    exact wb_X1_differences_120 N k13 k61 t0 _ _ _ _ _ _ _ _ m13 m61 hJ
  · have hJ := it_neg c1 hJ
    exact wb_X1_differences_120 N k13 k61 t0 _ _ _ _ _ _ _ _ m13 m61 hJ
theorem wb_X1_differences_97 (N : Nat) (k13 : Hp → (Option Nat) → (Option Nat) → Int32 → Int32 → Option (Hp × Int32)) (k61 : Hp → (Option Nat) → (Option Nat) → Int32 → Int32 → (Option Nat) → (Option Nat) → Int32 → Option (Hp × Int32)) (t0 : Nat) (h : Hp) (x1 : Option Nat) (x2 : Option Nat) (x3 : Int32) (x4 : Int32) (x5 : Option Nat) (x6 : Option Nat) (x7 : Int32) (x8 : Option Nat) (m13 : ∀ (h : Hp) (x1 : Option Nat) (x2 : Option Nat) (x3 : Int32) (x4 : Int32), k13 h x1 x2 x3 x4 = some (hz, rz) → Fw h hz) (m61 : ∀ (h : Hp) (x1 : Option Nat) (x2 : Option Nat) (x3 : Int32) (x4 : Int32) (x5 : Option Nat) (x6 : Option Nat) (x7 : Int32), k61 h x1 x2 x3 x4 x5 x6 x7 = some (hz, rz) → Fw h hz) (hJ : B_X1_differences_97 N k13 k61 t0 h x1 x2 x3 x4 x5 x6 x7 x8 = some (hz, rz)) : Fw h hz := by
  unfold B_X1_differences_97 at hJ
  obtain ⟨a2, ea2, -, hJ⟩ := dr_some hJ
  cases ea3 : (h.fr 506 a2) with
  | none =>
    have hJ := nl_none ea3 hJ
    exact wb_X1_differences_120 N k13 k61 t0 _ _ _ _ _ _ _ _ m13 m61 hJ
  | some a3 =>
    have hJ := nl_some ea3 hJ
    obtain ⟨a4, ea4, -, hJ⟩ := dr_some hJ
    obtain ⟨⟨h5, r6⟩, e7, hJ⟩ := ob_some hJ
    exact (wo_X0_tellsAs N a4 h (h.fr 506 a2) e7).tr (wb_X1_differences_114 N k13 k61 t0 _ _ _ _ _ _ _ _ _ m13 m61 hJ)
theorem wb_X1_differences_84 (N : Nat) (k13 : Hp → (Option Nat) → (Option Nat) → Int32 → Int32 → Option (Hp × Int32)) (k61 : Hp → (Option Nat) → (Option Nat) → Int32 → Int32 → (Option Nat) → (Option Nat) → Int32 → Option (Hp × Int32)) (t0 : Nat) (h : Hp) (x1 : Option Nat) (x2 : Option Nat) (x3 : Int32) (x4 : Int32) (x5 : Option Nat) (x6 : Option Nat) (x7 : Int32) (y0 : Option Nat) (m13 : ∀ (h : Hp) (x1 : Option Nat) (x2 : Option Nat) (x3 : Int32) (x4 : Int32), k13 h x1 x2 x3 x4 = some (hz, rz) → Fw h hz) (m61 : ∀ (h : Hp) (x1 : Option Nat) (x2 : Option Nat) (x3 : Int32) (x4 : Int32) (x5 : Option Nat) (x6 : Option Nat) (x7 : Int32), k61 h x1 x2 x3 x4 x5 x6 x7 = some (hz, rz) → Fw h hz) (hJ : B_X1_differences_84 N k13 k61 t0 h x1 x2 x3 x4 x5 x6 x7 y0 = some (hz, rz)) : Fw h hz := by
  unfold B_X1_differences_84 at hJ
  obtain ⟨a9, ea9, -, hJ⟩ := dr_some hJ
  obtain ⟨⟨h10, r11⟩, e12, hJ⟩ := ob_some hJ
  exact (wo_X2_carryOut N a9 h x6 x1 e12).tr (wb_X1_differences_97 N k13 k61 t0 _ _ _ _ _ _ _ _ _ m13 m61 hJ)
theorem wb_X1_differences_135 (N : Nat) (k13 : Hp → (Option Nat) → (Option Nat) → Int32 → Int32 → Option (Hp × Int32)) (t0 : Nat) (h : Hp) (x1 : Option Nat) (x2 : Option Nat) (x3 : Int32) (x4 : Int32) (m13 : ∀ (h : Hp) (x1 : Option Nat) (x2 : Option Nat) (x3 : Int32) (x4 : Int32), k13 h x1 x2 x3 x4 = some (hz, rz) → Fw h hz) (hJ : B_X1_differences_135 N k13 t0 h x1 x2 x3 x4 = some (hz, rz)) : Fw h hz := by
  unfold B_X1_differences_135 at hJ
  exact m13 _ _ _ _ _ hJ
theorem wb_X1_differences_71 (N : Nat) (k13 : Hp → (Option Nat) → (Option Nat) → Int32 → Int32 → Option (Hp × Int32)) (k61 : Hp → (Option Nat) → (Option Nat) → Int32 → Int32 → (Option Nat) → (Option Nat) → Int32 → Option (Hp × Int32)) (t0 : Nat) (h : Hp) (x1 : Option Nat) (x2 : Option Nat) (x3 : Int32) (x4 : Int32) (x5 : Option Nat) (x6 : Option Nat) (x7 : Int32) (y0 : Int32) (y1 : Int32) (m13 : ∀ (h : Hp) (x1 : Option Nat) (x2 : Option Nat) (x3 : Int32) (x4 : Int32), k13 h x1 x2 x3 x4 = some (hz, rz) → Fw h hz) (m61 : ∀ (h : Hp) (x1 : Option Nat) (x2 : Option Nat) (x3 : Int32) (x4 : Int32) (x5 : Option Nat) (x6 : Option Nat) (x7 : Int32), k61 h x1 x2 x3 x4 x5 x6 x7 = some (hz, rz) → Fw h hz) (hJ : B_X1_differences_71 N k13 k61 t0 h x1 x2 x3 x4 x5 x6 x7 y0 y1 = some (hz, rz)) : Fw h hz := by
  unfold B_X1_differences_71 at hJ
  by_cases c14 : y1 ≤ y0
  · have hJ := it_pos c14 hJ
    obtain ⟨a15, ea15, -, hJ⟩ := dr_some hJ
    obtain ⟨⟨h16, r17⟩, e18, hJ⟩ := ob_some hJ
    exact (wo_X8_install N a15 h (x4 + (1 : Int32)) e18).tr (wb_X1_differences_135 N k13 t0 _ _ _ _ _ m13 hJ)
  · have hJ := it_neg c14 hJ
    obtain ⟨a20, ea20, -, hJ⟩ := dr_some hJ
    obtain ⟨a21, ea21, -, hJ⟩ := dr_some hJ
    obtain ⟨⟨h22, r23⟩, e24, hJ⟩ := ob_some hJ
    exact (wo_Jx4a65c_get_915e3 N a21 h x7 e24).tr (wb_X1_differences_84 N k13 k61 t0 _ _ _ _ _ _ _ _ _ m13 m61 hJ)
theorem wb_X1_differences_61 (N : Nat) (k13 : Hp → (Option Nat) → (Option Nat) → Int32 → Int32 → Option (Hp × Int32)) (k61 : Hp → (Option Nat) → (Option Nat) → Int32 → Int32 → (Option Nat) → (Option Nat) → Int32 → Option (Hp × Int32)) (t0 : Nat) (h : Hp) (x1 : Option Nat) (x2 : Option Nat) (x3 : Int32) (x4 : Int32) (x5 : Option Nat) (x6 : Option Nat) (x7 : Int32) (m13 : ∀ (h : Hp) (x1 : Option Nat) (x2 : Option Nat) (x3 : Int32) (x4 : Int32), k13 h x1 x2 x3 x4 = some (hz, rz) → Fw h hz) (m61 : ∀ (h : Hp) (x1 : Option Nat) (x2 : Option Nat) (x3 : Int32) (x4 : Int32) (x5 : Option Nat) (x6 : Option Nat) (x7 : Int32), k61 h x1 x2 x3 x4 x5 x6 x7 = some (hz, rz) → Fw h hz) (hJ : B_X1_differences_61 N k13 k61 t0 h x1 x2 x3 x4 x5 x6 x7 = some (hz, rz)) : Fw h hz := by
  unfold B_X1_differences_61 at hJ
  obtain ⟨a26, ea26, -, hJ⟩ := dr_some hJ
  obtain ⟨a27, ea27, -, hJ⟩ := dr_some hJ
  obtain ⟨⟨h28, r29⟩, e30, hJ⟩ := ob_some hJ
  exact (wo_Jx4a65c_size_8abf5 N a27 h e30).tr (wb_X1_differences_71 N k13 k61 t0 _ _ _ _ _ _ _ _ _ _ m13 m61 hJ)
theorem wl_X1_differences_61 (N : Nat) (k13 : Hp → (Option Nat) → (Option Nat) → Int32 → Int32 → Option (Hp × Int32)) (t0 : Nat) (m13 : ∀ (h : Hp) (x1 : Option Nat) (x2 : Option Nat) (x3 : Int32) (x4 : Int32), k13 h x1 x2 x3 x4 = some (hz, rz) → Fw h hz) : ∀ (n : Nat) (h : Hp) (x1 : Option Nat) (x2 : Option Nat) (x3 : Int32) (x4 : Int32) (x5 : Option Nat) (x6 : Option Nat) (x7 : Int32), L_X1_differences_61 N k13 t0 n h x1 x2 x3 x4 x5 x6 x7 = some (hz, rz) → Fw h hz := by
  intro n
  induction n with
  | zero => intro h x1 x2 x3 x4 x5 x6 x7 hJ; cases hJ
  | succ n ih => intro h x1 x2 x3 x4 x5 x6 x7 hJ; exact wb_X1_differences_61 N k13 (L_X1_differences_61 N k13 t0 n) t0 h x1 x2 x3 x4 x5 x6 x7 m13 ih hJ
theorem wb_X1_differences_56 (N : Nat) (k13 : Hp → (Option Nat) → (Option Nat) → Int32 → Int32 → Option (Hp × Int32)) (t0 : Nat) (h : Hp) (x1 : Option Nat) (x2 : Option Nat) (x3 : Int32) (x4 : Int32) (x5 : Option Nat) (y0 : Option Nat) (m13 : ∀ (h : Hp) (x1 : Option Nat) (x2 : Option Nat) (x3 : Int32) (x4 : Int32), k13 h x1 x2 x3 x4 = some (hz, rz) → Fw h hz) (hJ : B_X1_differences_56 N k13 t0 h x1 x2 x3 x4 x5 y0 = some (hz, rz)) : Fw h hz := by
  unfold B_X1_differences_56 at hJ
  exact wl_X1_differences_61 N k13 t0 m13 N _ _ _ _ _ _ _ _ hJ
theorem wb_X1_differences_44 (N : Nat) (k13 : Hp → (Option Nat) → (Option Nat) → Int32 → Int32 → Option (Hp × Int32)) (t0 : Nat) (h : Hp) (x1 : Option Nat) (x2 : Option Nat) (x3 : Int32) (x4 : Int32) (x5 : Option Nat) (y0 : Option Nat) (m13 : ∀ (h : Hp) (x1 : Option Nat) (x2 : Option Nat) (x3 : Int32) (x4 : Int32), k13 h x1 x2 x3 x4 = some (hz, rz) → Fw h hz) (hJ : B_X1_differences_44 N k13 t0 h x1 x2 x3 x4 x5 y0 = some (hz, rz)) : Fw h hz := by
  unfold B_X1_differences_44 at hJ
  obtain ⟨a32, ea32, -, hJ⟩ := dr_some hJ
  obtain ⟨a33, ea33, -, hJ⟩ := dr_some hJ
  obtain ⟨⟨h34, r35⟩, e36, hJ⟩ := ob_some hJ
  exact (wo_X8_init N a33 h x2 x4 (h.fi 1000 a32) e36).tr (wb_X1_differences_56 N k13 t0 _ _ _ _ _ _ _ m13 hJ)
theorem wb_X1_differences_36 (N : Nat) (k13 : Hp → (Option Nat) → (Option Nat) → Int32 → Int32 → Option (Hp × Int32)) (t0 : Nat) (h : Hp) (x1 : Option Nat) (x2 : Option Nat) (x3 : Int32) (x4 : Int32) (y0 : Option Nat) (m13 : ∀ (h : Hp) (x1 : Option Nat) (x2 : Option Nat) (x3 : Int32) (x4 : Int32), k13 h x1 x2 x3 x4 = some (hz, rz) → Fw h hz) (hJ : B_X1_differences_36 N k13 t0 h x1 x2 x3 x4 y0 = some (hz, rz)) : Fw h hz := by
  unfold B_X1_differences_36 at hJ
  obtain ⟨a38, ea38, -, hJ⟩ := dr_some hJ
  exact (Fw.new h _ _ _).tr (wb_X1_differences_44 N k13 t0 _ _ _ _ _ _ _ m13 hJ)
theorem wb_X1_differences_147 (N : Nat) (t0 : Nat) (h : Hp) (y0 : Int32) (y1 : Int32) (hJ : B_X1_differences_147 N t0 h y0 y1 = some (hz, rz)) : Fw h hz := by
  unfold B_X1_differences_147 at hJ
  obtain ⟨rfl, -⟩ := rs2 hJ
  exact (Fw.rf h)
theorem wb_X1_differences_13 (N : Nat) (k13 : Hp → (Option Nat) → (Option Nat) → Int32 → Int32 → Option (Hp × Int32)) (t0 : Nat) (h : Hp) (x1 : Option Nat) (x2 : Option Nat) (x3 : Int32) (x4 : Int32) (m13 : ∀ (h : Hp) (x1 : Option Nat) (x2 : Option Nat) (x3 : Int32) (x4 : Int32), k13 h x1 x2 x3 x4 = some (hz, rz) → Fw h hz) (hJ : B_X1_differences_13 N k13 t0 h x1 x2 x3 x4 = some (hz, rz)) : Fw h hz := by
  unfold B_X1_differences_13 at hJ
  by_cases c40 : (h.fi 402 t0) ≤ x4
  · have hJ := it_pos c40 hJ
    obtain ⟨⟨h41, r42⟩, e43, hJ⟩ := ob_some hJ
    exact (wo_X1_otherKeys N t0 h x2 e43).tr (wb_X1_differences_147 N t0 _ _ _ hJ)
  · have hJ := it_neg c40 hJ
    obtain ⟨a45, ea45, -, hJ⟩ := dr_some hJ
    obtain ⟨-, hJ⟩ := ck_some hJ
    obtain ⟨a47, ea47, -, hJ⟩ := dr_some hJ
    obtain ⟨⟨h48, r49⟩, e50, hJ⟩ := ob_some hJ
    exact (wo_Jx4a65c_get_915e3 N a47 h (h.ai a45 x4.toNatClampNeg) e50).tr (wb_X1_differences_36 N k13 t0 _ _ _ _ _ _ m13 hJ)
theorem wl_X1_differences_13 (N : Nat) (t0 : Nat) : ∀ (n : Nat) (h : Hp) (x1 : Option Nat) (x2 : Option Nat) (x3 : Int32) (x4 : Int32), L_X1_differences_13 N t0 n h x1 x2 x3 x4 = some (hz, rz) → Fw h hz := by
  intro n
  induction n with
  | zero => intro h x1 x2 x3 x4 hJ; cases hJ
  | succ n ih => intro h x1 x2 x3 x4 hJ; exact wb_X1_differences_13 N (L_X1_differences_13 N t0 n) t0 h x1 x2 x3 x4 ih hJ
theorem wb_X1_differences_7 (N : Nat) (t0 : Nat) (h : Hp) (x1 : Option Nat) (y0 : Option Nat) (hJ : B_X1_differences_7 N t0 h x1 y0 = some (hz, rz)) : Fw h hz := by
  unfold B_X1_differences_7 at hJ
  exact wl_X1_differences_13 N t0 N _ _ _ _ _ hJ
theorem wb_X1_differences_3 (N : Nat) (t0 : Nat) (h : Hp) (x1 : Option Nat) (y0 : Option Nat) (hJ : B_X1_differences_3 N t0 h x1 y0 = some (hz, rz)) : Fw h hz := by
  unfold B_X1_differences_3 at hJ
  obtain ⟨a52, ea52, -, hJ⟩ := dr_some hJ
  obtain ⟨⟨h53, r54⟩, e55, hJ⟩ := ob_some hJ
  exact (wo_X5_init N a52 h e55).tr (wb_X1_differences_7 N t0 _ _ _ hJ)
theorem wb_X1_differences_0 (N : Nat) (t0 : Nat) (h : Hp) (x1 : Option Nat) (hJ : B_X1_differences_0 N t0 h x1 = some (hz, rz)) : Fw h hz := by
  unfold B_X1_differences_0 at hJ
  exact (Fw.new h _ _ _).tr (wb_X1_differences_3 N t0 _ _ _ hJ)
theorem wo_X1_differences (N : Nat) (t0 : Nat) (h : Hp) (x1 : Option Nat) (hJ : J_X1_differences N t0 h x1 = some (hz, rz)) : Fw h hz := wb_X1_differences_0 N t0 h x1 hJ
end V_X1_differences
