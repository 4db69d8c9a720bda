section V_X9_init
variable {hz : Hp}
theorem wb_X9_init_102 (N : Nat) (t0 : Nat) (h : Hp) (hJ : B_X9_init_102 N t0 h = some (hz, ())) : Fw h hz := by
  unfold B_X9_init_102 at hJ
  obtain ⟨rfl, -⟩ := rs2 hJ
  exact (Fw.rf h)
theorem wb_X9_init_84 (N : Nat) (t0 : Nat) (h : Hp) (y0 : Option Nat) (y1 : Option Nat) (hJ : B_X9_init_84 N t0 h y0 y1 = some (hz, ())) : Fw h hz := by
  unfold B_X9_init_84 at hJ
  obtain ⟨a1, ea1, -, hJ⟩ := dr_some hJ
  exact (Fw.tr (show Fw h ((((h.sfr 1207 a1 y1).sfi 1208 t0 (0 : Int32)).sfi 1209 t0 (0 : Int32)).sfl 1210 t0 (0 : Int64)) from (Fw.rf h)) (wb_X9_init_102 N t0 _ hJ))
theorem wb_X9_init_80 (N : Nat) (t0 : Nat) (h : Hp) (y0 : Option Nat) (y1 : Option Nat) (hJ : B_X9_init_80 N t0 h y0 y1 = some (hz, ())) : Fw h hz := by
  unfold B_X9_init_80 at hJ
  obtain ⟨a2, ea2, -, hJ⟩ := dr_some hJ
  obtain ⟨⟨h3, r4⟩, e5, hJ⟩ := ob_some hJ
  exact (wo_Jx4a65c_init_da8c8 N a2 h e5).tr (wb_X9_init_84 N t0 _ _ _ hJ)
theorem wb_X9_init_73 (N : Nat) (t0 : Nat) (h : Hp) (y0 : Option Nat) (y1 : Option Nat) (hJ : B_X9_init_73 N t0 h y0 y1 = some (hz, ())) : Fw h hz := by
  unfold B_X9_init_73 at hJ
  obtain ⟨a7, ea7, -, hJ⟩ := dr_some hJ
  exact (Fw.tr (show Fw h (h.sfr 1206 a7 y1) from (Fw.rf h)) ((Fw.new (h.sfr 1206 a7 y1) _ _ _).tr (wb_X9_init_80 N t0 _ _ _ hJ)))
theorem wb_X9_init_67 (N : Nat) (t0 : Nat) (h : Hp) (y0 : Option Nat) (y1 : Option Nat) (hJ : B_X9_init_67 N t0 h y0 y1 = some (hz, ())) : Fw h hz := by
  unfold B_X9_init_67 at hJ
  obtain ⟨a9, ea9, -, hJ⟩ := dr_some hJ
  obtain ⟨⟨h10, r11⟩, e12, hJ⟩ := ob_some hJ
  exact (wo_X0_init N a9 h (100 : Int32) e12).tr (wb_X9_init_73 N t0 _ _ _ hJ)
theorem wb_X9_init_60 (N : Nat) (t0 : Nat) (h : Hp) (y0 : Option Nat) (y1 : Option Nat) (hJ : B_X9_init_60 N t0 h y0 y1 = some (hz, ())) : Fw h hz := by
  unfold B_X9_init_60 at hJ
  obtain ⟨a14, ea14, -, hJ⟩ := dr_some hJ
  exact (Fw.tr (show Fw h (h.sfr 1205 a14 y1) from (Fw.rf h)) ((Fw.new (h.sfr 1205 a14 y1) _ _ _).tr (wb_X9_init_67 N t0 _ _ _ hJ)))
theorem wb_X9_init_53 (N : Nat) (t0 : Nat) (h : Hp) (y0 : Option Nat) (y1 : Option Nat) (hJ : B_X9_init_53 N t0 h y0 y1 = some (hz, ())) : Fw h hz := by
  unfold B_X9_init_53 at hJ
  obtain ⟨a16, ea16, -, hJ⟩ := dr_some hJ
  obtain ⟨-, hJ⟩ := ck_some hJ
  exact (Fw.tr (show Fw h (h.sfr 1204 a16 y1) from (Fw.rf h)) ((Fw.new (h.sfr 1204 a16 y1) _ _ _).tr (wb_X9_init_60 N t0 _ _ _ hJ)))
theorem wb_X9_init_45 (N : Nat) (t0 : Nat) (h : Hp) (y0 : Option Nat) (y1 : Option Nat) (hJ : B_X9_init_45 N t0 h y0 y1 = some (hz, ())) : Fw h hz := by
  unfold B_X9_init_45 at hJ
  obtain ⟨a19, ea19, -, hJ⟩ := dr_some hJ
  obtain ⟨-, hJ⟩ := ck_some hJ
  exact (Fw.tr (show Fw h (h.sfr 1203 a19 y1) from (Fw.rf h)) ((Fw.new (h.sfr 1203 a19 y1) _ _ _).tr (wb_X9_init_53 N t0 _ _ _ hJ)))
theorem wb_X9_init_41 (N : Nat) (t0 : Nat) (h : Hp) (y0 : Option Nat) (y1 : Option Nat) (hJ : B_X9_init_41 N t0 h y0 y1 = some (hz, ())) : Fw h hz := by
  unfold B_X9_init_41 at hJ
  obtain ⟨a22, ea22, -, hJ⟩ := dr_some hJ
  obtain ⟨⟨h23, r24⟩, e25, hJ⟩ := ob_some hJ
  exact (wo_Jx4a65c_init_da8c8 N a22 h e25).tr (wb_X9_init_45 N t0 _ _ _ hJ)
theorem wb_X9_init_34 (N : Nat) (t0 : Nat) (h : Hp) (y0 : Option Nat) (y1 : Option Nat) (hJ : B_X9_init_34 N t0 h y0 y1 = some (hz, ())) : Fw h hz := by
  unfold B_X9_init_34 at hJ
  obtain ⟨a27, ea27, -, hJ⟩ := dr_some hJ
  exact (Fw.tr (show Fw h (h.sfr 1202 a27 y1) from (Fw.rf h)) ((Fw.new (h.sfr 1202 a27 y1) _ _ _).tr (wb_X9_init_41 N t0 _ _ _ hJ)))
theorem wb_X9_init_30 (N : Nat) (t0 : Nat) (h : Hp) (y0 : Option Nat) (y1 : Option Nat) (hJ : B_X9_init_30 N t0 h y0 y1 = some (hz, ())) : Fw h hz := by
  unfold B_X9_init_30 at hJ
  obtain ⟨a29, ea29, -, hJ⟩ := dr_some hJ
  obtain ⟨⟨h30, r31⟩, e32, hJ⟩ := ob_some hJ
  exact (wo_Jx4a65c_init_da8c8 N a29 h e32).tr (wb_X9_init_34 N t0 _ _ _ hJ)
theorem wb_X9_init_23 (N : Nat) (t0 : Nat) (h : Hp) (y0 : Option Nat) (y1 : Option Nat) (hJ : B_X9_init_23 N t0 h y0 y1 = some (hz, ())) : Fw h hz := by
  unfold B_X9_init_23 at hJ
  obtain ⟨a34, ea34, -, hJ⟩ := dr_some hJ
  exact (Fw.tr (show Fw h (h.sfr 1201 a34 y1) from (Fw.rf h)) ((Fw.new (h.sfr 1201 a34 y1) _ _ _).tr (wb_X9_init_30 N t0 _ _ _ hJ)))
theorem wb_X9_init_19 (N : Nat) (t0 : Nat) (h : Hp) (y0 : Option Nat) (y1 : Option Nat) (hJ : B_X9_init_19 N t0 h y0 y1 = some (hz, ())) : Fw h hz := by
  unfold B_X9_init_19 at hJ
  obtain ⟨a36, ea36, -, hJ⟩ := dr_some hJ
  obtain ⟨⟨h37, r38⟩, e39, hJ⟩ := ob_some hJ
  exact (wo_Jx4a65c_init_da8c8 N a36 h e39).tr (wb_X9_init_23 N t0 _ _ _ hJ)
theorem wb_X9_init_12 (N : Nat) (t0 : Nat) (h : Hp) (y0 : Option Nat) (y1 : Option Nat) (hJ : B_X9_init_12 N t0 h y0 y1 = some (hz, ())) : Fw h hz := by
  unfold B_X9_init_12 at hJ
  obtain ⟨a41, ea41, -, hJ⟩ := dr_some hJ
  exact (Fw.tr (show Fw h (h.sfr 1200 a41 y1) from (Fw.rf h)) ((Fw.new (h.sfr 1200 a41 y1) _ _ _).tr (wb_X9_init_19 N t0 _ _ _ hJ)))
theorem wb_X9_init_8 (N : Nat) (t0 : Nat) (h : Hp) (y0 : Option Nat) (y1 : Option Nat) (hJ : B_X9_init_8 N t0 h y0 y1 = some (hz, ())) : Fw h hz := by
  unfold B_X9_init_8 at hJ
  obtain ⟨a43, ea43, -, hJ⟩ := dr_some hJ
  obtain ⟨⟨h44, r45⟩, e46, hJ⟩ := ob_some hJ
  exact (wo_X5_init N a43 h e46).tr (wb_X9_init_12 N t0 _ _ _ hJ)
theorem wb_X9_init_0 (N : Nat) (t0 : Nat) (h : Hp) (hJ : B_X9_init_0 N t0 h = some (hz, ())) : Fw h hz := by
  unfold B_X9_init_0 at hJ
  exact (Fw.new h _ _ _).tr (wb_X9_init_8 N t0 _ _ _ hJ)
theorem wo_X9_init (N : Nat) (t0 : Nat) (h : Hp) (hJ : J_X9_init N t0 h = some (hz, ())) : Fw h hz := wb_X9_init_0 N t0 h hJ
end V_X9_init
section V_X9_activeReadWrite
variable {hz : Hp} {rz : Int32}
theorem wb_X9_activeReadWrite_35 (N : Nat) (k4 : Hp → Int32 → Int32 → Option (Hp × Int32)) (t0 : Nat) (h : Hp) (x1 : Int32) (x2 : Int32) (m4 : ∀ (h : Hp) (x1 : Int32) (x2 : Int32), k4 h x1 x2 = some (hz, rz) → Fw h hz) (hJ : B_X9_activeReadWrite_35 N k4 t0 h x1 x2 = some (hz, rz)) : Fw h hz := by
  unfold B_X9_activeReadWrite_35 at hJ
  exact m4 _ _ _ hJ
theorem wb_X9_activeReadWrite_23 (N : Nat) (k4 : Hp → Int32 → Int32 → Option (Hp × Int32)) (t0 : Nat) (h : Hp) (x1 : Int32) (x2 : Int32) (y0 : Option Nat) (m4 : ∀ (h : Hp) (x1 : Int32) (x2 : Int32), k4 h x1 x2 = some (hz, rz) → Fw h hz) (hJ : B_X9_activeReadWrite_23 N k4 t0 h x1 x2 y0 = some (hz, rz)) : Fw h hz := by
  unfold B_X9_activeReadWrite_23 at hJ
  obtain ⟨a1, ea1, -, hJ⟩ := dr_some hJ
  by_cases c2 : (h.fi 1005 a1) = 0
  · have hJ := it_pos c2 hJ
    exact wb_X9_activeReadWrite_35 N k4 t0 _ _ _ m4 hJ
  · have hJ := it_neg c2 hJ
    exact wb_X9_activeReadWrite_35 N k4 t0 _ _ _ m4 hJ
theorem wb_X9_activeReadWrite_12 (N : Nat) (k4 : Hp → Int32 → Int32 → Option (Hp × Int32)) (t0 : Nat) (h : Hp) (x1 : Int32) (x2 : Int32) (y0 : Int32) (y1 : Int32) (m4 : ∀ (h : Hp) (x1 : Int32) (x2 : Int32), k4 h x1 x2 = some (hz, rz) → Fw h hz) (hJ : B_X9_activeReadWrite_12 N k4 t0 h x1 x2 y0 y1 = some (hz, rz)) : Fw h hz := by
  unfold B_X9_activeReadWrite_12 at hJ
  by_cases c3 : y1 ≤ y0
  · have hJ := it_pos c3 hJ
    obtain ⟨rfl, -⟩ := rs2 hJ
    exact (Fw.rf h)
  · have hJ := it_neg c3 hJ
    obtain ⟨a4, ea4, -, hJ⟩ := dr_some hJ
    obtain ⟨⟨h5, r6⟩, e7, hJ⟩ := ob_some hJ
    exact (wo_Jx4a65c_get_915e3 N a4 h x2 e7).tr (wb_X9_activeReadWrite_23 N k4 t0 _ _ _ _ m4 hJ)
theorem wb_X9_activeReadWrite_4 (N : Nat) (k4 : Hp → Int32 → Int32 → Option (Hp × Int32)) (t0 : Nat) (h : Hp) (x1 : Int32) (x2 : Int32) (m4 : ∀ (h : Hp) (x1 : Int32) (x2 : Int32), k4 h x1 x2 = some (hz, rz) → Fw h hz) (hJ : B_X9_activeReadWrite_4 N k4 t0 h x1 x2 = some (hz, rz)) : Fw h hz := by
  unfold B_X9_activeReadWrite_4 at hJ
  obtain ⟨a9, ea9, -, hJ⟩ := dr_some hJ
  obtain ⟨⟨h10, r11⟩, e12, hJ⟩ := ob_some hJ
  exact (wo_Jx4a65c_size_8abf5 N a9 h e12).tr (wb_X9_activeReadWrite_12 N k4 t0 _ _ _ _ _ m4 hJ)
theorem wl_X9_activeReadWrite_4 (N : Nat) (t0 : Nat) : ∀ (n : Nat) (h : Hp) (x1 : Int32) (x2 : Int32), L_X9_activeReadWrite_4 N t0 n h x1 x2 = some (hz, rz) → Fw h hz := by
  intro n
  induction n with
  | zero => intro h x1 x2 hJ; cases hJ
  | succ n ih => intro h x1 x2 hJ; exact wb_X9_activeReadWrite_4 N (L_X9_activeReadWrite_4 N t0 n) t0 h x1 x2 ih hJ
theorem wb_X9_activeReadWrite_0 (N : Nat) (t0 : Nat) (h : Hp) (hJ : B_X9_activeReadWrite_0 N t0 h = some (hz, rz)) : Fw h hz := by
  unfold B_X9_activeReadWrite_0 at hJ
  exact wl_X9_activeReadWrite_4 N t0 N _ _ _ hJ
theorem wo_X9_activeReadWrite (N : Nat) (t0 : Nat) (h : Hp) (hJ : J_X9_activeReadWrite N t0 h = some (hz, rz)) : Fw h hz := wb_X9_activeReadWrite_0 N t0 h hJ
end V_X9_activeReadWrite
section V_X9_takeRecord
variable {hz : Hp} {rz : Int32}
theorem wb_X9_takeRecord_0 (N : Nat) (t0 : Nat) (h : Hp) (hJ : B_X9_takeRecord_0 N t0 h = some (hz, rz)) : Fw h hz := by
  unfold B_X9_takeRecord_0 at hJ
  by_cases c1 : (h.fi 1208 t0) < (512 : Int32)
  · have hJ := it_pos c1 hJ
    obtain ⟨rfl, -⟩ := rs2 hJ
    exact (Fw.rf h)
  · have hJ := it_neg c1 hJ
    obtain ⟨rfl, -⟩ := rs2 hJ
    exact (Fw.rf h)
theorem wo_X9_takeRecord (N : Nat) (t0 : Nat) (h : Hp) (hJ : J_X9_takeRecord N t0 h = some (hz, rz)) : Fw h hz := wb_X9_takeRecord_0 N t0 h hJ
end V_X9_takeRecord
section V_X9_begin
variable {hz : Hp} {rz : Int32}
theorem wb_X9_begin_19 (N : Nat) (t0 : Nat) (h : Hp) (hJ : B_X9_begin_19 N t0 h = some (hz, rz)) : Fw h hz := by
  unfold B_X9_begin_19 at hJ
  obtain ⟨rfl, -⟩ := rs2 hJ
  exact (Fw.rf h)
theorem wb_X9_begin_88 (N : Nat) (t0 : Nat) (h : Hp) (x3 : Option Nat) (y0 : Int32) (hJ : B_X9_begin_88 N t0 h x3 y0 = some (hz, rz)) : Fw h hz := by
  unfold B_X9_begin_88 at hJ
  obtain ⟨a1, ea1, -, hJ⟩ := dr_some hJ
  obtain ⟨-, hJ⟩ := ck_some hJ
  obtain ⟨-, hJ⟩ := ck_some hJ
  obtain ⟨a4, ea4, -, hJ⟩ := dr_some hJ
  obtain ⟨rfl, -⟩ := rs2 hJ
  exact (Fw.rf h)
theorem wb_X9_begin_79 (N : Nat) (t0 : Nat) (h : Hp) (x3 : Option Nat) (y0 : Int32) (hJ : B_X9_begin_79 N t0 h x3 y0 = some (hz, rz)) : Fw h hz := by
  unfold B_X9_begin_79 at hJ
  obtain ⟨a5, ea5, -, hJ⟩ := dr_some hJ
  obtain ⟨⟨h6, r7⟩, e8, hJ⟩ := ob_some hJ
  exact (wo_Jx4a65c_add_9ea2d N a5 h x3 e8).tr (wb_X9_begin_88 N t0 _ _ _ hJ)
theorem wb_X9_begin_71 (N : Nat) (t0 : Nat) (h : Hp) (x3 : Option Nat) (hJ : B_X9_begin_71 N t0 h x3 = some (hz, rz)) : Fw h hz := by
  unfold B_X9_begin_71 at hJ
  obtain ⟨a10, ea10, -, hJ⟩ := dr_some hJ
  obtain ⟨⟨h11, r12⟩, e13, hJ⟩ := ob_some hJ
  exact (wo_Jx4a65c_add_9ea2d N a10 h x3 e13).tr (wb_X9_begin_79 N t0 _ _ _ hJ)
theorem wb_X9_begin_68 (N : Nat) (t0 : Nat) (h : Hp) (x3 : Option Nat) (y0 : Option Nat) (y1 : Int32) (hJ : B_X9_begin_68 N t0 h x3 y0 y1 = some (hz, rz)) : Fw h hz := by
  unfold B_X9_begin_68 at hJ
  obtain ⟨a15, ea15, -, hJ⟩ := dr_some hJ
  obtain ⟨⟨h16, r17⟩, e18, hJ⟩ := ob_some hJ
  exact (wo_X7_waitFor N a15 h y1 e18).tr (wb_X9_begin_71 N t0 _ _ hJ)
theorem wb_X9_begin_58 (N : Nat) (t0 : Nat) (h : Hp) (x1 : Int32) (y0 : Option Nat) (hJ : B_X9_begin_58 N t0 h x1 y0 = some (hz, rz)) : Fw h hz := by
  unfold B_X9_begin_58 at hJ
  by_cases c20 : x1 = 0
  · have hJ := it_pos c20 hJ
    exact wb_X9_begin_71 N t0 _ _ hJ
  · have hJ := it_neg c20 hJ
    obtain ⟨⟨h21, r22⟩, e23, hJ⟩ := ob_some hJ
    exact (wo_X9_activeReadWrite N t0 h e23).tr (wb_X9_begin_68 N t0 _ _ _ _ hJ)
theorem wb_X9_begin_52 (N : Nat) (t0 : Nat) (h : Hp) (x1 : Int32) (x2 : Option Nat) (y0 : Option Nat) (hJ : B_X9_begin_52 N t0 h x1 x2 y0 = some (hz, rz)) : Fw h hz := by
  unfold B_X9_begin_52 at hJ
  obtain ⟨a25, ea25, -, hJ⟩ := dr_some hJ
  obtain ⟨⟨h26, r27⟩, e28, hJ⟩ := ob_some hJ
  exact (wo_X7_init N a25 h x2 x1 e28).tr (wb_X9_begin_58 N t0 _ _ _ hJ)
theorem wb_X9_begin_48 (N : Nat) (t0 : Nat) (h : Hp) (x1 : Int32) (y0 : Option Nat) (hJ : B_X9_begin_48 N t0 h x1 y0 = some (hz, rz)) : Fw h hz := by
  unfold B_X9_begin_48 at hJ
  exact (Fw.new h _ _ _).tr (wb_X9_begin_52 N t0 _ _ _ _ hJ)
theorem wb_X9_begin_43 (N : Nat) (t0 : Nat) (h : Hp) (x1 : Int32) (y0 : Option Nat) (y1 : Option Nat) (y2 : Option Nat) (y3 : Int32) (y4 : Int32) (hJ : B_X9_begin_43 N t0 h x1 y0 y1 y2 y3 y4 = some (hz, rz)) : Fw h hz := by
  unfold B_X9_begin_43 at hJ
  obtain ⟨a31, ea31, -, hJ⟩ := dr_some hJ
  obtain ⟨⟨h32, r33⟩, e34, hJ⟩ := ob_some hJ
  exact (wo_X8_init N a31 h y2 y3 (y4 + (1 : Int32)) e34).tr (wb_X9_begin_48 N t0 _ _ _ hJ)
theorem wb_X9_begin_36 (N : Nat) (t0 : Nat) (h : Hp) (x1 : Int32) (y0 : Option Nat) (y1 : Option Nat) (y2 : Option Nat) (y3 : Int32) (hJ : B_X9_begin_36 N t0 h x1 y0 y1 y2 y3 = some (hz, rz)) : Fw h hz := by
  unfold B_X9_begin_36 at hJ
  obtain ⟨a36, ea36, -, hJ⟩ := dr_some hJ
  obtain ⟨⟨h37, r38⟩, e39, hJ⟩ := ob_some hJ
  exact (wo_Jx4a65c_size_8abf5 N a36 h e39).tr (wb_X9_begin_43 N t0 _ _ _ _ _ _ _ hJ)
theorem wb_X9_begin_24 (N : Nat) (t0 : Nat) (h : Hp) (x1 : Int32) (y0 : Option Nat) (hJ : B_X9_begin_24 N t0 h x1 y0 = some (hz, rz)) : Fw h hz := by
  unfold B_X9_begin_24 at hJ
  obtain ⟨a41, ea41, -, hJ⟩ := dr_some hJ
  obtain ⟨⟨h42, r43⟩, e44, hJ⟩ := ob_some hJ
  exact (wo_Jx4a65c_size_8abf5 N a41 h e44).tr (wb_X9_begin_36 N t0 _ _ _ _ _ _ hJ)
theorem wb_X9_begin_16 (N : Nat) (t0 : Nat) (h : Hp) (x1 : Int32) (y0 : Int32) (hJ : B_X9_begin_16 N t0 h x1 y0 = some (hz, rz)) : Fw h hz := by
  unfold B_X9_begin_16 at hJ
  by_cases c46 : y0 = 0
  · have hJ := it_pos c46 hJ
    exact wb_X9_begin_19 N t0 _ hJ
  · have hJ := it_neg c46 hJ
    exact (Fw.new h _ _ _).tr (wb_X9_begin_24 N t0 _ _ _ hJ)
theorem wb_X9_begin_7 (N : Nat) (t0 : Nat) (h : Hp) (x1 : Int32) (y0 : Int32) (hJ : B_X9_begin_7 N t0 h x1 y0 = some (hz, rz)) : Fw h hz := by
  unfold B_X9_begin_7 at hJ
  by_cases c48 : (24 : Int32) ≤ y0
  · have hJ := it_pos c48 hJ
    exact wb_X9_begin_19 N t0 _ hJ
  · have hJ := it_neg c48 hJ
    obtain ⟨⟨h49, r50⟩, e51, hJ⟩ := ob_some hJ
    exact (wo_X9_takeRecord N t0 h e51).tr (wb_X9_begin_16 N t0 _ _ _ hJ)
theorem wb_X9_begin_0 (N : Nat) (t0 : Nat) (h : Hp) (x1 : Int32) (hJ : B_X9_begin_0 N t0 h x1 = some (hz, rz)) : Fw h hz := by
  unfold B_X9_begin_0 at hJ
  obtain ⟨a53, ea53, -, hJ⟩ := dr_some hJ
  obtain ⟨⟨h54, r55⟩, e56, hJ⟩ := ob_some hJ
  exact (wo_Jx4a65c_size_8abf5 N a53 h e56).tr (wb_X9_begin_7 N t0 _ _ _ hJ)
theorem wo_X9_begin (N : Nat) (t0 : Nat) (h : Hp) (x1 : Int32) (hJ : J_X9_begin N t0 h x1 = some (hz, rz)) : Fw h hz := wb_X9_begin_0 N t0 h x1 hJ
end V_X9_begin
section V_X9_value
variable {hz : Hp} {rz : Int64}
theorem wb_X9_value_0 (N : Nat) (t0 : Nat) (h : Hp) (hJ : B_X9_value_0 N t0 h = some (hz, rz)) : Fw h hz := by
  unfold B_X9_value_0 at hJ
  obtain ⟨rfl, -⟩ := rs2 hJ
  exact (Fw.rf h)
theorem wo_X9_value (N : Nat) (t0 : Nat) (h : Hp) (hJ : J_X9_value N t0 h = some (hz, rz)) : Fw h hz := wb_X9_value_0 N t0 h hJ
end V_X9_value
section V_X9_key
variable {hz : Hp} {rz : Int32}
theorem wb_X9_key_0 (N : Nat) (t0 : Nat) (h : Hp) (hJ : B_X9_key_0 N t0 h = some (hz, rz)) : Fw h hz := by
  unfold B_X9_key_0 at hJ
  obtain ⟨rfl, -⟩ := rs2 hJ
  exact (Fw.rf h)
theorem wo_X9_key (N : Nat) (t0 : Nat) (h : Hp) (hJ : J_X9_key N t0 h = some (hz, rz)) : Fw h hz := wb_X9_key_0 N t0 h hJ
end V_X9_key
section V_X9_horizon
variable {hz : Hp} {rz : Int32}
theorem wb_X9_horizon_34 (N : Nat) (t0 : Nat) (h : Hp) (y0 : Int32) (hJ : B_X9_horizon_34 N t0 h y0 = some (hz, rz)) : Fw h hz := by
  unfold B_X9_horizon_34 at hJ
  obtain ⟨rfl, -⟩ := rs2 hJ
  exact (Fw.rf h)
theorem wb_X9_horizon_17 (N : Nat) (t0 : Nat) (h : Hp) (y0 : Int32) (hJ : B_X9_horizon_17 N t0 h y0 = some (hz, rz)) : Fw h hz := by
  unfold B_X9_horizon_17 at hJ
  exact wb_X9_horizon_34 N t0 _ _ hJ
theorem wb_X9_horizon_28 (N : Nat) (t0 : Nat) (h : Hp) (y0 : Option Nat) (hJ : B_X9_horizon_28 N t0 h y0 = some (hz, rz)) : Fw h hz := by
  unfold B_X9_horizon_28 at hJ
  obtain ⟨a1, ea1, -, hJ⟩ := dr_some hJ
  exact wb_X9_horizon_34 N t0 _ _ hJ
theorem wb_X9_horizon_7 (N : Nat) (t0 : Nat) (h : Hp) (y0 : Int32) (hJ : B_X9_horizon_7 N t0 h y0 = some (hz, rz)) : Fw h hz := by
  unfold B_X9_horizon_7 at hJ
  by_cases c2 : y0 = 0
  · have hJ := it_pos c2 hJ
    obtain ⟨a3, ea3, -, hJ⟩ := dr_some hJ
    obtain ⟨⟨h4, r5⟩, e6, hJ⟩ := ob_some hJ
    exact (wo_Jx4a65c_get_915e3 N a3 h (0 : Int32) e6).tr (wb_X9_horizon_28 N t0 _ _ hJ)
  · have hJ := it_neg c2 hJ
    obtain ⟨a8, ea8, -, hJ⟩ := dr_some hJ
    obtain ⟨⟨h9, r10⟩, e11, hJ⟩ := ob_some hJ
    exact (wo_Jx4a65c_size_8abf5 N a8 h e11).tr (wb_X9_horizon_17 N t0 _ _ hJ)
theorem wb_X9_horizon_0 (N : Nat) (t0 : Nat) (h : Hp) (hJ : B_X9_horizon_0 N t0 h = some (hz, rz)) : Fw h hz := by
  unfold B_X9_horizon_0 at hJ
  obtain ⟨a13, ea13, -, hJ⟩ := dr_some hJ
  obtain ⟨⟨h14, r15⟩, e16, hJ⟩ := ob_some hJ
  exact (wo_Jx4a65c_isEmpty_aae02 N a13 h e16).tr (wb_X9_horizon_7 N t0 _ _ hJ)
theorem wo_X9_horizon (N : Nat) (t0 : Nat) (h : Hp) (hJ : J_X9_horizon N t0 h = some (hz, rz)) : Fw h hz := wb_X9_horizon_0 N t0 h hJ
end V_X9_horizon
section V_X9_isKept
variable {hz : Hp} {rz : Int32}
theorem wb_X9_isKept_24 (N : Nat) (t0 : Nat) (h : Hp) (y0 : Int32) (hJ : B_X9_isKept_24 N t0 h y0 = some (hz, rz)) : Fw h hz := by
  unfold B_X9_isKept_24 at hJ
  obtain ⟨-, hJ⟩ := ck_some hJ
  obtain ⟨rfl, -⟩ := rs2 hJ
  exact (Fw.rf h)
theorem wb_X9_isKept_23 (N : Nat) (t0 : Nat) (h : Hp) (hJ : B_X9_isKept_23 N t0 h = some (hz, rz)) : Fw h hz := by
  unfold B_X9_isKept_23 at hJ
  exact wb_X9_isKept_24 N t0 _ _ hJ
theorem wb_X9_isKept_16 (N : Nat) (t0 : Nat) (h : Hp) (y0 : Int32) (y1 : Int32) (hJ : B_X9_isKept_16 N t0 h y0 y1 = some (hz, rz)) : Fw h hz := by
  unfold B_X9_isKept_16 at hJ
  by_cases c2 : y0 ≤ y1
  · have hJ := it_pos c2 hJ
    exact wb_X9_isKept_23 N t0 _ hJ
  · have hJ := it_neg c2 hJ
    exact wb_X9_isKept_24 N t0 _ _ hJ
theorem wb_X9_isKept_0 (N : Nat) (t0 : Nat) (h : Hp) (x1 : Option Nat) (hJ : B_X9_isKept_0 N t0 h x1 = some (hz, rz)) : Fw h hz := by
  unfold B_X9_isKept_0 at hJ
  obtain ⟨a3, ea3, -, hJ⟩ := dr_some hJ
  by_cases c4 : (h.fi 1006 a3) = (2 : Int32)
  · have hJ := it_pos c4 hJ
    obtain ⟨⟨h5, r6⟩, e7, hJ⟩ := ob_some hJ
    exact (wo_X9_horizon N t0 h e7).tr (wb_X9_isKept_16 N t0 _ _ _ hJ)
  · have hJ := it_neg c4 hJ
    exact wb_X9_isKept_23 N t0 _ hJ
theorem wo_X9_isKept (N : Nat) (t0 : Nat) (h : Hp) (x1 : Option Nat) (hJ : J_X9_isKept N t0 h x1 = some (hz, rz)) : Fw h hz := wb_X9_isKept_0 N t0 h x1 hJ
end V_X9_isKept
section V_X9_numbered
variable {hz : Hp} {rz : Option Nat}
theorem wb_X9_numbered_33 (N : Nat) (t0 : Nat) (h : Hp) (y0 : Option Nat) (hJ : B_X9_numbered_33 N t0 h y0 = some (hz, rz)) : Fw h hz := by
  unfold B_X9_numbered_33 at hJ
  obtain ⟨rfl, -⟩ := rs2 hJ
  exact (Fw.rf h)
theorem wb_X9_numbered_26 (N : Nat) (t0 : Nat) (h : Hp) (y0 : Option Nat) (hJ : B_X9_numbered_26 N t0 h y0 = some (hz, rz)) : Fw h hz := by
  unfold B_X9_numbered_26 at hJ
  obtain ⟨a1, ea1, -, hJ⟩ := dr_some hJ
  exact wb_X9_numbered_33 N t0 _ _ hJ
theorem wb_X9_numbered_32 (N : Nat) (t0 : Nat) (h : Hp) (hJ : B_X9_numbered_32 N t0 h = some (hz, rz)) : Fw h hz := by
  unfold B_X9_numbered_32 at hJ
  exact wb_X9_numbered_33 N t0 _ _ hJ
theorem wb_X9_numbered_13 (N : Nat) (t0 : Nat) (h : Hp) (x1 : Int32) (y0 : Int32) (y1 : Int32) (hJ : B_X9_numbered_13 N t0 h x1 y0 y1 = some (hz, rz)) : Fw h hz := by
  unfold B_X9_numbered_13 at hJ
  by_cases c2 : y1 < y0
  · have hJ := it_pos c2 hJ
    exact wb_X9_numbered_32 N t0 _ hJ
  · have hJ := it_neg c2 hJ
    obtain ⟨a3, ea3, -, hJ⟩ := dr_some hJ
    obtain ⟨⟨h4, r5⟩, e6, hJ⟩ := ob_some hJ
    exact (wo_Jx4a65c_get_915e3 N a3 h (x1 - (1 : Int32)) e6).tr (wb_X9_numbered_26 N t0 _ _ hJ)
theorem wb_X9_numbered_0 (N : Nat) (t0 : Nat) (h : Hp) (x1 : Int32) (hJ : B_X9_numbered_0 N t0 h x1 = some (hz, rz)) : Fw h hz := by
  unfold B_X9_numbered_0 at hJ
  by_cases c8 : x1 < (1 : Int32)
  · have hJ := it_pos c8 hJ
    exact wb_X9_numbered_32 N t0 _ hJ
  · have hJ := it_neg c8 hJ
    obtain ⟨a9, ea9, -, hJ⟩ := dr_some hJ
    obtain ⟨⟨h10, r11⟩, e12, hJ⟩ := ob_some hJ
    exact (wo_Jx4a65c_size_8abf5 N a9 h e12).tr (wb_X9_numbered_13 N t0 _ _ _ _ hJ)
theorem wo_X9_numbered (N : Nat) (t0 : Nat) (h : Hp) (x1 : Int32) (hJ : J_X9_numbered N t0 h x1 = some (hz, rz)) : Fw h hz := wb_X9_numbered_0 N t0 h x1 hJ
end V_X9_numbered
section V_X9_told
variable {hz : Hp} {rz : Int32}
theorem wb_X9_told_131 (N : Nat) (t0 : Nat) (h : Hp) (y0 : Int32) (hJ : B_X9_told_131 N t0 h y0 = some (hz, rz)) : Fw h hz := by
  unfold B_X9_told_131 at hJ
  obtain ⟨rfl, -⟩ := rs2 hJ
  exact (Fw.rf h)
theorem wb_X9_told_126 (N : Nat) (t0 : Nat) (h : Hp) (y0 : Int32) (hJ : B_X9_told_126 N t0 h y0 = some (hz, rz)) : Fw h hz := by
  unfold B_X9_told_126 at hJ
  obtain ⟨rfl, -⟩ := rs2 hJ
  exact (Fw.rf h)
theorem wb_X9_told_115 (N : Nat) (t0 : Nat) (h : Hp) (y0 : Int32) (hJ : B_X9_told_115 N t0 h y0 = some (hz, rz)) : Fw h hz := by
  unfold B_X9_told_115 at hJ
  obtain ⟨rfl, -⟩ := rs2 hJ
  exact (Fw.rf h)
theorem wb_X9_told_39 (N : Nat) (t0 : Nat) (h : Hp) (x2 : Int32) (x3 : Option Nat) (hJ : B_X9_told_39 N t0 h x2 x3 = some (hz, rz)) : Fw h hz := by
  unfold B_X9_told_39 at hJ
  by_cases c1 : x2 = (1 : Int32)
  · have hJ := it_pos c1 hJ
    obtain ⟨a2, ea2, -, hJ⟩ := dr_some hJ
    obtain ⟨rfl, -⟩ := rs2 hJ
    exact (Fw.rf h)
  · have hJ := it_neg c1 hJ
    by_cases c3 : x2 = (2 : Int32)
    · have hJ := it_pos c3 hJ
      obtain ⟨a4, ea4, -, hJ⟩ := dr_some hJ
      obtain ⟨rfl, -⟩ := rs2 hJ
      exact (Fw.rf h)
    · have hJ := it_neg c3 hJ
      by_cases c5 : x2 = (3 : Int32)
      · have hJ := it_pos c5 hJ
        obtain ⟨a6, ea6, -, hJ⟩ := dr_some hJ
        obtain ⟨rfl, -⟩ := rs2 hJ
        exact (Fw.rf h)
      · have hJ := it_neg c5 hJ
        by_cases c7 : x2 = (4 : Int32)
        · have hJ := it_pos c7 hJ
          obtain ⟨a8, ea8, -, hJ⟩ := dr_some hJ
          by_cases c9 : (h.fi 1009 a8) = 0
          · have hJ := it_pos c9 hJ
            exact wb_X9_told_115 N t0 _ _ hJ
          · have hJ := it_neg c9 hJ
            exact wb_X9_told_115 N t0 _ _ hJ
        · have hJ := it_neg c7 hJ
          by_cases c10 : x2 = (5 : Int32)
          · have hJ := it_pos c10 hJ
            obtain ⟨a11, ea11, -, hJ⟩ := dr_some hJ
            obtain ⟨a12, ea12, -, hJ⟩ := dr_some hJ
            obtain ⟨a13, ea13, -, hJ⟩ := dr_some hJ
            obtain ⟨⟨h14, r15⟩, e16, hJ⟩ := ob_some hJ
            exact (wo_X5_size N a13 h e16).tr (wb_X9_told_126 N t0 _ _ hJ)
          · have hJ := it_neg c10 hJ
            by_cases c18 : x2 = (6 : Int32)
            · have hJ := it_pos c18 hJ
              obtain ⟨a19, ea19, -, hJ⟩ := dr_some hJ
              obtain ⟨⟨h20, r21⟩, e22, hJ⟩ := ob_some hJ
              exact (wo_X7_runs N a19 h e22).tr (wb_X9_told_131 N t0 _ _ hJ)
            · have hJ := it_neg c18 hJ
              by_cases c24 : x2 = (7 : Int32)
              · have hJ := it_pos c24 hJ
                obtain ⟨a25, ea25, -, hJ⟩ := dr_some hJ
                obtain ⟨rfl, -⟩ := rs2 hJ
                exact (Fw.rf h)
              · have hJ := it_neg c24 hJ
                by_cases c26 : x2 = (8 : Int32)
                · have hJ := it_pos c26 hJ
                  obtain ⟨a27, ea27, -, hJ⟩ := dr_some hJ
                  obtain ⟨a28, ea28, -, hJ⟩ := dr_some hJ
                  obtain ⟨rfl, -⟩ := rs2 hJ
                  exact (Fw.rf h)
                · have hJ := it_neg c26 hJ
                  obtain ⟨rfl, -⟩ := rs2 hJ
                  exact (Fw.rf h)
theorem wb_X9_told_34 (N : Nat) (t0 : Nat) (h : Hp) (x2 : Int32) (x3 : Option Nat) (y0 : Int32) (hJ : B_X9_told_34 N t0 h x2 x3 y0 = some (hz, rz)) : Fw h hz := by
  unfold B_X9_told_34 at hJ
  by_cases c29 : y0 = 0
  · have hJ := it_pos c29 hJ
    obtain ⟨rfl, -⟩ := rs2 hJ
    exact (Fw.rf h)
  · have hJ := it_neg c29 hJ
    exact wb_X9_told_39 N t0 _ _ _ hJ
theorem wb_X9_told_5 (N : Nat) (t0 : Nat) (h : Hp) (x2 : Int32) (y0 : Option Nat) (hJ : B_X9_told_5 N t0 h x2 y0 = some (hz, rz)) : Fw h hz := by
  unfold B_X9_told_5 at hJ
  cases ea30 : y0 with
  | none =>
    have hJ := nl_none ea30 hJ
    obtain ⟨rfl, -⟩ := rs2 hJ
    exact (Fw.rf h)
  | some a30 =>
    have hJ := nl_some ea30 hJ
    by_cases c31 : x2 = 0
    · have hJ := it_pos c31 hJ
      obtain ⟨-, hJ⟩ := ck_some hJ
      obtain ⟨rfl, -⟩ := rs2 hJ
      exact (Fw.rf h)
    · have hJ := it_neg c31 hJ
      obtain ⟨-, hJ⟩ := ck_some hJ
      by_cases c33 : (h.fi 1006 a30) = (1 : Int32)
      · have hJ := it_pos c33 hJ
        exact wb_X9_told_39 N t0 _ _ _ hJ
      · have hJ := it_neg c33 hJ
        obtain ⟨⟨h34, r35⟩, e36, hJ⟩ := ob_some hJ
        exact (wo_X9_isKept N t0 h (some a30) e36).tr (wb_X9_told_34 N t0 _ _ _ _ hJ)
theorem wb_X9_told_0 (N : Nat) (t0 : Nat) (h : Hp) (x1 : Int32) (x2 : Int32) (hJ : B_X9_told_0 N t0 h x1 x2 = some (hz, rz)) : Fw h hz := by
  unfold B_X9_told_0 at hJ
  obtain ⟨⟨h39, r40⟩, e41, hJ⟩ := ob_some hJ
  exact (wo_X9_numbered N t0 h x1 e41).tr (wb_X9_told_5 N t0 _ _ _ hJ)
theorem wo_X9_told (N : Nat) (t0 : Nat) (h : Hp) (x1 : Int32) (x2 : Int32) (hJ : J_X9_told N t0 h x1 x2 = some (hz, rz)) : Fw h hz := wb_X9_told_0 N t0 h x1 x2 hJ
end V_X9_told
section V_X9_why
variable {hz : Hp} {rz : Int32}
theorem wb_X9_why_23 (N : Nat) (t0 : Nat) (h : Hp) (y0 : Int32) (hJ : B_X9_why_23 N t0 h y0 = some (hz, rz)) : Fw h hz := by
  unfold B_X9_why_23 at hJ
  obtain ⟨rfl, -⟩ := rs2 hJ
  exact (Fw.rf h)
theorem wb_X9_why_22 (N : Nat) (t0 : Nat) (h : Hp) (hJ : B_X9_why_22 N t0 h = some (hz, rz)) : Fw h hz := by
  unfold B_X9_why_22 at hJ
  exact wb_X9_why_23 N t0 _ _ hJ
theorem wb_X9_why_0 (N : Nat) (t0 : Nat) (h : Hp) (x1 : Int32) (hJ : B_X9_why_0 N t0 h x1 = some (hz, rz)) : Fw h hz := by
  unfold B_X9_why_0 at hJ
  by_cases c1 : x1 < 0
  · have hJ := it_pos c1 hJ
    exact wb_X9_why_22 N t0 _ hJ
  · have hJ := it_neg c1 hJ
    obtain ⟨a2, ea2, -, hJ⟩ := dr_some hJ
    by_cases c3 : (nI (h.al a2)) ≤ x1
    · have hJ := it_pos c3 hJ
      exact wb_X9_why_22 N t0 _ hJ
    · have hJ := it_neg c3 hJ
      obtain ⟨a4, ea4, -, hJ⟩ := dr_some hJ
      obtain ⟨-, hJ⟩ := ck_some hJ
      exact wb_X9_why_23 N t0 _ _ hJ
theorem wo_X9_why (N : Nat) (t0 : Nat) (h : Hp) (x1 : Int32) (hJ : J_X9_why N t0 h x1 = some (hz, rz)) : Fw h hz := wb_X9_why_0 N t0 h x1 hJ
end V_X9_why
section V_X9_keptVersion
variable {hz : Hp} {rz : Option Nat}
theorem wb_X9_keptVersion_29 (N : Nat) (t0 : Nat) (h : Hp) (hJ : B_X9_keptVersion_29 N t0 h = some (hz, rz)) : Fw h hz := by
  unfold B_X9_keptVersion_29 at hJ
  obtain ⟨rfl, -⟩ := rs2 hJ
  exact (Fw.rf h)
theorem wb_X9_keptVersion_64 (N : Nat) (t0 : Nat) (h : Hp) (x4 : Option Nat) (hJ : B_X9_keptVersion_64 N t0 h x4 = some (hz, rz)) : Fw h hz := by
  unfold B_X9_keptVersion_64 at hJ
  obtain ⟨rfl, -⟩ := rs2 hJ
  exact (Fw.rf h)
theorem wb_X9_keptVersion_40 (N : Nat) (k40 : Hp → Int32 → (Option Nat) → Int32 → Option (Hp × Option Nat)) (t0 : Nat) (h : Hp) (x2 : Int32) (x4 : Option Nat) (x5 : Int32) (m40 : ∀ (h : Hp) (x2 : Int32) (x4 : Option Nat) (x5 : Int32), k40 h x2 x4 x5 = some (hz, rz) → Fw h hz) (hJ : B_X9_keptVersion_40 N k40 t0 h x2 x4 x5 = some (hz, rz)) : Fw h hz := by
  unfold B_X9_keptVersion_40 at hJ
  by_cases c1 : x2 ≤ x5
  · have hJ := it_pos c1 hJ
    exact wb_X9_keptVersion_64 N t0 _ _ hJ
  · have hJ := it_neg c1 hJ
    cases ea2 : x4 with
    | none =>
      have hJ := nl_none ea2 hJ
      exact wb_X9_keptVersion_64 N t0 _ _ hJ
    | some a2 =>
      have hJ := nl_some ea2 hJ
      obtain ⟨-, hJ⟩ := ck_some hJ
      exact m40 _ _ _ _ hJ
theorem wl_X9_keptVersion_40 (N : Nat) (t0 : Nat) : ∀ (n : Nat) (h : Hp) (x2 : Int32) (x4 : Option Nat) (x5 : Int32), L_X9_keptVersion_40 N t0 n h x2 x4 x5 = some (hz, rz) → Fw h hz := by
  intro n
  induction n with
  | zero => intro h x2 x4 x5 hJ; cases hJ
  | succ n ih => intro h x2 x4 x5 hJ; exact wb_X9_keptVersion_40 N (L_X9_keptVersion_40 N t0 n) t0 h x2 x4 x5 ih hJ
theorem wb_X9_keptVersion_26 (N : Nat) (t0 : Nat) (h : Hp) (x2 : Int32) (x3 : Option Nat) (y0 : Int32) (y1 : Int32) (hJ : B_X9_keptVersion_26 N t0 h x2 x3 y0 y1 = some (hz, rz)) : Fw h hz := by
  unfold B_X9_keptVersion_26 at hJ
  by_cases c4 : y0 < y1
  · have hJ := it_pos c4 hJ
    obtain ⟨a5, ea5, -, hJ⟩ := dr_some hJ
    exact wl_X9_keptVersion_40 N t0 N _ _ _ _ hJ
  · have hJ := it_neg c4 hJ
    exact wb_X9_keptVersion_29 N t0 _ hJ
theorem wb_X9_keptVersion_23 (N : Nat) (t0 : Nat) (h : Hp) (x2 : Int32) (x3 : Option Nat) (y0 : Int32) (y1 : Option Nat) (y2 : Int32) (hJ : B_X9_keptVersion_23 N t0 h x2 x3 y0 y1 y2 = some (hz, rz)) : Fw h hz := by
  unfold B_X9_keptVersion_23 at hJ
  obtain ⟨a6, ea6, -, hJ⟩ := dr_some hJ
  obtain ⟨⟨h7, r8⟩, e9, hJ⟩ := ob_some hJ
  exact (wo_X3_keptAbove N a6 h y2 e9).tr (wb_X9_keptVersion_26 N t0 _ _ _ _ _ hJ)
theorem wb_X9_keptVersion_8 (N : Nat) (t0 : Nat) (h : Hp) (x2 : Int32) (y0 : Option Nat) (hJ : B_X9_keptVersion_8 N t0 h x2 y0 = some (hz, rz)) : Fw h hz := by
  unfold B_X9_keptVersion_8 at hJ
  cases ea11 : y0 with
  | none =>
    have hJ := nl_none ea11 hJ
    exact wb_X9_keptVersion_29 N t0 _ hJ
  | some a11 =>
    have hJ := nl_some ea11 hJ
    by_cases c12 : x2 < 0
    · have hJ := it_pos c12 hJ
      exact wb_X9_keptVersion_29 N t0 _ hJ
    · have hJ := it_neg c12 hJ
      obtain ⟨⟨h13, r14⟩, e15, hJ⟩ := ob_some hJ
      exact (wo_X9_horizon N t0 h e15).tr (wb_X9_keptVersion_23 N t0 _ _ _ _ _ _ hJ)
theorem wb_X9_keptVersion_0 (N : Nat) (t0 : Nat) (h : Hp) (x1 : Int32) (x2 : Int32) (hJ : B_X9_keptVersion_0 N t0 h x1 x2 = some (hz, rz)) : Fw h hz := by
  unfold B_X9_keptVersion_0 at hJ
  obtain ⟨a17, ea17, -, hJ⟩ := dr_some hJ
  obtain ⟨⟨h18, r19⟩, e20, hJ⟩ := ob_some hJ
  exact (wo_X5_find N a17 h x1 e20).tr (wb_X9_keptVersion_8 N t0 _ _ _ hJ)
theorem wo_X9_keptVersion (N : Nat) (t0 : Nat) (h : Hp) (x1 : Int32) (x2 : Int32) (hJ : J_X9_keptVersion N t0 h x1 x2 = some (hz, rz)) : Fw h hz := wb_X9_keptVersion_0 N t0 h x1 x2 hJ
end V_X9_keptVersion
section V_X9_version
variable {hz : Hp} {rz : Int32}
theorem wb_X9_version_63 (N : Nat) (t0 : Nat) (h : Hp) (y0 : Int32) (hJ : B_X9_version_63 N t0 h y0 = some (hz, rz)) : Fw h hz := by
  unfold B_X9_version_63 at hJ
  obtain ⟨rfl, -⟩ := rs2 hJ
  exact (Fw.rf h)
theorem wb_X9_version_6 (N : Nat) (t0 : Nat) (h : Hp) (x3 : Int32) (y0 : Option Nat) (hJ : B_X9_version_6 N t0 h x3 y0 = some (hz, rz)) : Fw h hz := by
  unfold B_X9_version_6 at hJ
  cases ea1 : y0 with
  | none =>
    have hJ := nl_none ea1 hJ
    obtain ⟨rfl, -⟩ := rs2 hJ
    exact (Fw.rf h)
  | some a1 =>
    have hJ := nl_some ea1 hJ
    by_cases c2 : x3 = (0 : Int32)
    · have hJ := it_pos c2 hJ
      obtain ⟨-, hJ⟩ := ck_some hJ
      obtain ⟨rfl, -⟩ := rs2 hJ
      exact (Fw.rf h)
    · have hJ := it_neg c2 hJ
      by_cases c4 : x3 = (1 : Int32)
      · have hJ := it_pos c4 hJ
        obtain ⟨-, hJ⟩ := ck_some hJ
        by_cases c6 : (h.fi 702 a1) = 0
        · have hJ := it_pos c6 hJ
          exact wb_X9_version_63 N t0 _ _ hJ
        · have hJ := it_neg c6 hJ
          exact wb_X9_version_63 N t0 _ _ hJ
      · have hJ := it_neg c4 hJ
        by_cases c7 : x3 = (2 : Int32)
        · have hJ := it_pos c7 hJ
          obtain ⟨-, hJ⟩ := ck_some hJ
          obtain ⟨rfl, -⟩ := rs2 hJ
          exact (Fw.rf h)
        · have hJ := it_neg c7 hJ
          obtain ⟨rfl, -⟩ := rs2 hJ
          exact (Fw.rf h)
theorem wb_X9_version_0 (N : Nat) (t0 : Nat) (h : Hp) (x1 : Int32) (x2 : Int32) (x3 : Int32) (hJ : B_X9_version_0 N t0 h x1 x2 x3 = some (hz, rz)) : Fw h hz := by
  unfold B_X9_version_0 at hJ
  obtain ⟨⟨h9, r10⟩, e11, hJ⟩ := ob_some hJ
  exact (wo_X9_keptVersion N t0 h x1 x2 e11).tr (wb_X9_version_6 N t0 _ _ _ hJ)
theorem wo_X9_version (N : Nat) (t0 : Nat) (h : Hp) (x1 : Int32) (x2 : Int32) (x3 : Int32) (hJ : J_X9_version N t0 h x1 x2 x3 = some (hz, rz)) : Fw h hz := wb_X9_version_0 N t0 h x1 x2 x3 hJ
end V_X9_version
section V_X9_versionValue
variable {hz : Hp} {rz : Int64}
theorem wb_X9_versionValue_26 (N : Nat) (t0 : Nat) (h : Hp) (y0 : Int64) (hJ : B_X9_versionValue_26 N t0 h y0 = some (hz, rz)) : Fw h hz := by
  unfold B_X9_versionValue_26 at hJ
  obtain ⟨rfl, -⟩ := rs2 hJ
  exact (Fw.rf h)
theorem wb_X9_versionValue_18 (N : Nat) (t0 : Nat) (h : Hp) (hJ : B_X9_versionValue_18 N t0 h = some (hz, rz)) : Fw h hz := by
  unfold B_X9_versionValue_18 at hJ
  exact wb_X9_versionValue_26 N t0 _ _ hJ
theorem wb_X9_versionValue_6 (N : Nat) (t0 : Nat) (h : Hp) (y0 : Option Nat) (hJ : B_X9_versionValue_6 N t0 h y0 = some (hz, rz)) : Fw h hz := by
  unfold B_X9_versionValue_6 at hJ
  cases ea1 : y0 with
  | none =>
    have hJ := nl_none ea1 hJ
    exact wb_X9_versionValue_18 N t0 _ hJ
  | some a1 =>
    have hJ := nl_some ea1 hJ
    obtain ⟨-, hJ⟩ := ck_some hJ
    by_cases c3 : (h.fi 702 a1) = 0
    · have hJ := it_pos c3 hJ
      exact wb_X9_versionValue_18 N t0 _ hJ
    · have hJ := it_neg c3 hJ
      exact wb_X9_versionValue_26 N t0 _ _ hJ
theorem wb_X9_versionValue_0 (N : Nat) (t0 : Nat) (h : Hp) (x1 : Int32) (x2 : Int32) (hJ : B_X9_versionValue_0 N t0 h x1 x2 = some (hz, rz)) : Fw h hz := by
  unfold B_X9_versionValue_0 at hJ
  obtain ⟨⟨h4, r5⟩, e6, hJ⟩ := ob_some hJ
  exact (wo_X9_keptVersion N t0 h x1 x2 e6).tr (wb_X9_versionValue_6 N t0 _ _ hJ)
theorem wo_X9_versionValue (N : Nat) (t0 : Nat) (h : Hp) (x1 : Int32) (x2 : Int32) (hJ : J_X9_versionValue N t0 h x1 x2 = some (hz, rz)) : Fw h hz := wb_X9_versionValue_0 N t0 h x1 x2 hJ
end V_X9_versionValue
section V_X9_withMoment
variable {hz : Hp} {rz : Option Nat}
theorem wb_X9_withMoment_33 (N : Nat) (t0 : Nat) (h : Hp) (y0 : Option Nat) (hJ : B_X9_withMoment_33 N t0 h y0 = some (hz, rz)) : Fw h hz := by
  unfold B_X9_withMoment_33 at hJ
  obtain ⟨rfl, -⟩ := rs2 hJ
  exact (Fw.rf h)
theorem wb_X9_withMoment_26 (N : Nat) (t0 : Nat) (h : Hp) (y0 : Option Nat) (hJ : B_X9_withMoment_26 N t0 h y0 = some (hz, rz)) : Fw h hz := by
  unfold B_X9_withMoment_26 at hJ
  obtain ⟨a1, ea1, -, hJ⟩ := dr_some hJ
  exact wb_X9_withMoment_33 N t0 _ _ hJ
theorem wb_X9_withMoment_32 (N : Nat) (t0 : Nat) (h : Hp) (hJ : B_X9_withMoment_32 N t0 h = some (hz, rz)) : Fw h hz := by
  unfold B_X9_withMoment_32 at hJ
  exact wb_X9_withMoment_33 N t0 _ _ hJ
theorem wb_X9_withMoment_13 (N : Nat) (t0 : Nat) (h : Hp) (x1 : Int32) (y0 : Int32) (y1 : Int32) (hJ : B_X9_withMoment_13 N t0 h x1 y0 y1 = some (hz, rz)) : Fw h hz := by
  unfold B_X9_withMoment_13 at hJ
  by_cases c2 : y1 < y0
  · have hJ := it_pos c2 hJ
    exact wb_X9_withMoment_32 N t0 _ hJ
  · have hJ := it_neg c2 hJ
    obtain ⟨a3, ea3, -, hJ⟩ := dr_some hJ
    obtain ⟨⟨h4, r5⟩, e6, hJ⟩ := ob_some hJ
    exact (wo_Jx4a65c_get_915e3 N a3 h (x1 - (1 : Int32)) e6).tr (wb_X9_withMoment_26 N t0 _ _ hJ)
theorem wb_X9_withMoment_0 (N : Nat) (t0 : Nat) (h : Hp) (x1 : Int32) (hJ : B_X9_withMoment_0 N t0 h x1 = some (hz, rz)) : Fw h hz := by
  unfold B_X9_withMoment_0 at hJ
  by_cases c8 : x1 < (1 : Int32)
  · have hJ := it_pos c8 hJ
    exact wb_X9_withMoment_32 N t0 _ hJ
  · have hJ := it_neg c8 hJ
    obtain ⟨a9, ea9, -, hJ⟩ := dr_some hJ
    obtain ⟨⟨h10, r11⟩, e12, hJ⟩ := ob_some hJ
    exact (wo_Jx4a65c_size_8abf5 N a9 h e12).tr (wb_X9_withMoment_13 N t0 _ _ _ _ hJ)
theorem wo_X9_withMoment (N : Nat) (t0 : Nat) (h : Hp) (x1 : Int32) (hJ : J_X9_withMoment N t0 h x1 = some (hz, rz)) : Fw h hz := wb_X9_withMoment_0 N t0 h x1 hJ
end V_X9_withMoment
section V_X9_allRuns
variable {hz : Hp} {rz : Int32}
theorem wb_X9_allRuns_30 (N : Nat) (k4 : Hp → Int32 → Int32 → Option (Hp × Int32)) (t0 : Nat) (h : Hp) (x2 : Int32) (y0 : Int32) (y1 : Int32) (m4 : ∀ (h : Hp) (x1 : Int32) (x2 : Int32), k4 h x1 x2 = some (hz, rz) → Fw h hz) (hJ : B_X9_allRuns_30 N k4 t0 h x2 y0 y1 = some (hz, rz)) : Fw h hz := by
  unfold B_X9_allRuns_30 at hJ
  exact m4 _ _ _ hJ
theorem wb_X9_allRuns_24 (N : Nat) (k4 : Hp → Int32 → Int32 → Option (Hp × Int32)) (t0 : Nat) (h : Hp) (x2 : Int32) (y0 : Int32) (y1 : Option Nat) (m4 : ∀ (h : Hp) (x1 : Int32) (x2 : Int32), k4 h x1 x2 = some (hz, rz) → Fw h hz) (hJ : B_X9_allRuns_24 N k4 t0 h x2 y0 y1 = some (hz, rz)) : Fw h hz := by
  unfold B_X9_allRuns_24 at hJ
  obtain ⟨a1, ea1, -, hJ⟩ := dr_some hJ
  obtain ⟨⟨h2, r3⟩, e4, hJ⟩ := ob_some hJ
  exact (wo_X7_runs N a1 h e4).tr (wb_X9_allRuns_30 N k4 t0 _ _ _ _ m4 hJ)
theorem wb_X9_allRuns_75 (N : Nat) (k45 : Hp → Int32 → Int32 → Option (Hp × Int32)) (t0 : Nat) (h : Hp) (x2 : Int32) (y0 : Int32) (y1 : Int32) (m45 : ∀ (h : Hp) (x1 : Int32) (x2 : Int32), k45 h x1 x2 = some (hz, rz) → Fw h hz) (hJ : B_X9_allRuns_75 N k45 t0 h x2 y0 y1 = some (hz, rz)) : Fw h hz := by
  unfold B_X9_allRuns_75 at hJ
  exact m45 _ _ _ hJ
theorem wb_X9_allRuns_61 (N : Nat) (k45 : Hp → Int32 → Int32 → Option (Hp × Int32)) (t0 : Nat) (h : Hp) (x1 : Int32) (x2 : Int32) (y0 : Option Nat) (m45 : ∀ (h : Hp) (x1 : Int32) (x2 : Int32), k45 h x1 x2 = some (hz, rz) → Fw h hz) (hJ : B_X9_allRuns_61 N k45 t0 h x1 x2 y0 = some (hz, rz)) : Fw h hz := by
  unfold B_X9_allRuns_61 at hJ
  cases ea6 : y0 with
  | none =>
    have hJ := nl_none ea6 hJ
    exact wb_X9_allRuns_75 N k45 t0 _ _ _ _ m45 hJ
  | some a6 =>
    have hJ := nl_some ea6 hJ
    obtain ⟨-, hJ⟩ := ck_some hJ
    obtain ⟨⟨h8, r9⟩, e10, hJ⟩ := ob_some hJ
    exact (wo_X7_runs N a6 h e10).tr (wb_X9_allRuns_75 N k45 t0 _ _ _ _ m45 hJ)
theorem wb_X9_allRuns_53 (N : Nat) (k45 : Hp → Int32 → Int32 → Option (Hp × Int32)) (t0 : Nat) (h : Hp) (x1 : Int32) (x2 : Int32) (y0 : Int32) (y1 : Int32) (m45 : ∀ (h : Hp) (x1 : Int32) (x2 : Int32), k45 h x1 x2 = some (hz, rz) → Fw h hz) (hJ : B_X9_allRuns_53 N k45 t0 h x1 x2 y0 y1 = some (hz, rz)) : Fw h hz := by
  unfold B_X9_allRuns_53 at hJ
  by_cases c12 : y1 < y0
  · have hJ := it_pos c12 hJ
    obtain ⟨rfl, -⟩ := rs2 hJ
    exact (Fw.rf h)
  · have hJ := it_neg c12 hJ
    obtain ⟨⟨h13, r14⟩, e15, hJ⟩ := ob_some hJ
    exact (wo_X9_withMoment N t0 h x2 e15).tr (wb_X9_allRuns_61 N k45 t0 _ _ _ _ m45 hJ)
theorem wb_X9_allRuns_45 (N : Nat) (k45 : Hp → Int32 → Int32 → Option (Hp × Int32)) (t0 : Nat) (h : Hp) (x1 : Int32) (x2 : Int32) (m45 : ∀ (h : Hp) (x1 : Int32) (x2 : Int32), k45 h x1 x2 = some (hz, rz) → Fw h hz) (hJ : B_X9_allRuns_45 N k45 t0 h x1 x2 = some (hz, rz)) : Fw h hz := by
  unfold B_X9_allRuns_45 at hJ
  obtain ⟨a17, ea17, -, hJ⟩ := dr_some hJ
  obtain ⟨⟨h18, r19⟩, e20, hJ⟩ := ob_some hJ
  exact (wo_Jx4a65c_size_8abf5 N a17 h e20).tr (wb_X9_allRuns_53 N k45 t0 _ _ _ _ _ m45 hJ)
theorem wl_X9_allRuns_45 (N : Nat) (t0 : Nat) : ∀ (n : Nat) (h : Hp) (x1 : Int32) (x2 : Int32), L_X9_allRuns_45 N t0 n h x1 x2 = some (hz, rz) → Fw h hz := by
  intro n
  induction n with
  | zero => intro h x1 x2 hJ; cases hJ
  | succ n ih => intro h x1 x2 hJ; exact wb_X9_allRuns_45 N (L_X9_allRuns_45 N t0 n) t0 h x1 x2 ih hJ
theorem wb_X9_allRuns_42 (N : Nat) (t0 : Nat) (h : Hp) (x1 : Int32) (y0 : Int32) (hJ : B_X9_allRuns_42 N t0 h x1 y0 = some (hz, rz)) : Fw h hz := by
  unfold B_X9_allRuns_42 at hJ
  exact wl_X9_allRuns_45 N t0 N _ _ _ hJ
theorem wb_X9_allRuns_12 (N : Nat) (k4 : Hp → Int32 → Int32 → Option (Hp × Int32)) (t0 : Nat) (h : Hp) (x1 : Int32) (x2 : Int32) (y0 : Int32) (y1 : Int32) (m4 : ∀ (h : Hp) (x1 : Int32) (x2 : Int32), k4 h x1 x2 = some (hz, rz) → Fw h hz) (hJ : B_X9_allRuns_12 N k4 t0 h x1 x2 y0 y1 = some (hz, rz)) : Fw h hz := by
  unfold B_X9_allRuns_12 at hJ
  by_cases c22 : y1 ≤ y0
  · have hJ := it_pos c22 hJ
    obtain ⟨⟨h23, r24⟩, e25, hJ⟩ := ob_some hJ
    exact (wo_X9_horizon N t0 h e25).tr (wb_X9_allRuns_42 N t0 _ _ _ hJ)
  · have hJ := it_neg c22 hJ
    obtain ⟨a27, ea27, -, hJ⟩ := dr_some hJ
    obtain ⟨⟨h28, r29⟩, e30, hJ⟩ := ob_some hJ
    exact (wo_Jx4a65c_get_915e3 N a27 h x2 e30).tr (wb_X9_allRuns_24 N k4 t0 _ _ _ _ m4 hJ)
theorem wb_X9_allRuns_4 (N : Nat) (k4 : Hp → Int32 → Int32 → Option (Hp × Int32)) (t0 : Nat) (h : Hp) (x1 : Int32) (x2 : Int32) (m4 : ∀ (h : Hp) (x1 : Int32) (x2 : Int32), k4 h x1 x2 = some (hz, rz) → Fw h hz) (hJ : B_X9_allRuns_4 N k4 t0 h x1 x2 = some (hz, rz)) : Fw h hz := by
  unfold B_X9_allRuns_4 at hJ
  obtain ⟨a32, ea32, -, hJ⟩ := dr_some hJ
  obtain ⟨⟨h33, r34⟩, e35, hJ⟩ := ob_some hJ
  exact (wo_Jx4a65c_size_8abf5 N a32 h e35).tr (wb_X9_allRuns_12 N k4 t0 _ _ _ _ _ m4 hJ)
theorem wl_X9_allRuns_4 (N : Nat) (t0 : Nat) : ∀ (n : Nat) (h : Hp) (x1 : Int32) (x2 : Int32), L_X9_allRuns_4 N t0 n h x1 x2 = some (hz, rz) → Fw h hz := by
  intro n
  induction n with
  | zero => intro h x1 x2 hJ; cases hJ
  | succ n ih => intro h x1 x2 hJ; exact wb_X9_allRuns_4 N (L_X9_allRuns_4 N t0 n) t0 h x1 x2 ih hJ
theorem wb_X9_allRuns_0 (N : Nat) (t0 : Nat) (h : Hp) (hJ : B_X9_allRuns_0 N t0 h = some (hz, rz)) : Fw h hz := by
  unfold B_X9_allRuns_0 at hJ
  exact wl_X9_allRuns_4 N t0 N _ _ _ hJ
theorem wo_X9_allRuns (N : Nat) (t0 : Nat) (h : Hp) (hJ : J_X9_allRuns N t0 h = some (hz, rz)) : Fw h hz := wb_X9_allRuns_0 N t0 h hJ
end V_X9_allRuns
