section V_X5_init
variable {hz : Hp}
theorem wb_X5_init_12 (N : Nat) (t0 : Nat) (h : Hp) (y0 : Option Nat) (y1 : Option Nat) (hJ : B_X5_init_12 N t0 h y0 y1 = some (hz, ())) : Fw h hz := by
  unfold B_X5_init_12 at hJ
  obtain ⟨a1, ea1, -, hJ⟩ := dr_some hJ
  obtain ⟨rfl, -⟩ := rs2 hJ
  exact (Fw.rf h)
theorem wb_X5_init_8 (N : Nat) (t0 : Nat) (h : Hp) (y0 : Option Nat) (y1 : Option Nat) (hJ : B_X5_init_8 N t0 h y0 y1 = some (hz, ())) : Fw h hz := by
  unfold B_X5_init_8 at hJ
  obtain ⟨a2, ea2, -, hJ⟩ := dr_some hJ
  obtain ⟨⟨h3, r4⟩, e5, hJ⟩ := ob_some hJ
  exact (wo_Jx4a65c_init_da8c8 N a2 h e5).tr (wb_X5_init_12 N t0 _ _ _ hJ)
theorem wb_X5_init_0 (N : Nat) (t0 : Nat) (h : Hp) (hJ : B_X5_init_0 N t0 h = some (hz, ())) : Fw h hz := by
  unfold B_X5_init_0 at hJ
  exact (Fw.new h _ _ _).tr (wb_X5_init_8 N t0 _ _ _ hJ)
theorem wo_X5_init (N : Nat) (t0 : Nat) (h : Hp) (hJ : J_X5_init N t0 h = some (hz, ())) : Fw h hz := wb_X5_init_0 N t0 h hJ
end V_X5_init
section V_X5_size
variable {hz : Hp} {rz : Int32}
theorem wb_X5_size_7 (N : Nat) (t0 : Nat) (h : Hp) (y0 : Int32) (hJ : B_X5_size_7 N t0 h y0 = some (hz, rz)) : Fw h hz := by
  unfold B_X5_size_7 at hJ
  obtain ⟨rfl, -⟩ := rs2 hJ
  exact (Fw.rf h)
theorem wb_X5_size_0 (N : Nat) (t0 : Nat) (h : Hp) (hJ : B_X5_size_0 N t0 h = some (hz, rz)) : Fw h hz := by
  unfold B_X5_size_0 at hJ
  obtain ⟨a1, ea1, -, hJ⟩ := dr_some hJ
  obtain ⟨⟨h2, r3⟩, e4, hJ⟩ := ob_some hJ
  exact (wo_Jx4a65c_size_8abf5 N a1 h e4).tr (wb_X5_size_7 N t0 _ _ hJ)
theorem wo_X5_size (N : Nat) (t0 : Nat) (h : Hp) (hJ : J_X5_size N t0 h = some (hz, rz)) : Fw h hz := wb_X5_size_0 N t0 h hJ
end V_X5_size
section V_X5_chainAt
variable {hz : Hp} {rz : Option Nat}
theorem wb_X5_chainAt_30 (N : Nat) (t0 : Nat) (h : Hp) (y0 : Option Nat) (hJ : B_X5_chainAt_30 N t0 h y0 = some (hz, rz)) : Fw h hz := by
  unfold B_X5_chainAt_30 at hJ
  obtain ⟨rfl, -⟩ := rs2 hJ
  exact (Fw.rf h)
theorem wb_X5_chainAt_23 (N : Nat) (t0 : Nat) (h : Hp) (y0 : Option Nat) (hJ : B_X5_chainAt_23 N t0 h y0 = some (hz, rz)) : Fw h hz := by
  unfold B_X5_chainAt_23 at hJ
  obtain ⟨a1, ea1, -, hJ⟩ := dr_some hJ
  exact wb_X5_chainAt_30 N t0 _ _ hJ
theorem wb_X5_chainAt_29 (N : Nat) (t0 : Nat) (h : Hp) (hJ : B_X5_chainAt_29 N t0 h = some (hz, rz)) : Fw h hz := by
  unfold B_X5_chainAt_29 at hJ
  exact wb_X5_chainAt_30 N t0 _ _ hJ
theorem wb_X5_chainAt_12 (N : Nat) (t0 : Nat) (h : Hp) (x1 : Int32) (y0 : Int32) (y1 : Int32) (hJ : B_X5_chainAt_12 N t0 h x1 y0 y1 = some (hz, rz)) : Fw h hz := by
  unfold B_X5_chainAt_12 at hJ
  by_cases c2 : y1 ≤ y0
  · have hJ := it_pos c2 hJ
    exact wb_X5_chainAt_29 N t0 _ hJ
  · have hJ := it_neg c2 hJ
    obtain ⟨a3, ea3, -, hJ⟩ := dr_some hJ
    obtain ⟨⟨h4, r5⟩, e6, hJ⟩ := ob_some hJ
    exact (wo_Jx4a65c_get_915e3 N a3 h x1 e6).tr (wb_X5_chainAt_23 N t0 _ _ hJ)
theorem wb_X5_chainAt_0 (N : Nat) (t0 : Nat) (h : Hp) (x1 : Int32) (hJ : B_X5_chainAt_0 N t0 h x1 = some (hz, rz)) : Fw h hz := by
  unfold B_X5_chainAt_0 at hJ
  by_cases c8 : x1 < 0
  · have hJ := it_pos c8 hJ
    exact wb_X5_chainAt_29 N t0 _ hJ
  · have hJ := it_neg c8 hJ
    obtain ⟨a9, ea9, -, hJ⟩ := dr_some hJ
    obtain ⟨⟨h10, r11⟩, e12, hJ⟩ := ob_some hJ
    exact (wo_Jx4a65c_size_8abf5 N a9 h e12).tr (wb_X5_chainAt_12 N t0 _ _ _ _ hJ)
theorem wo_X5_chainAt (N : Nat) (t0 : Nat) (h : Hp) (x1 : Int32) (hJ : J_X5_chainAt N t0 h x1 = some (hz, rz)) : Fw h hz := wb_X5_chainAt_0 N t0 h x1 hJ
end V_X5_chainAt
section V_X5_indexFrom
variable {hz : Hp} {rz : Int32}
theorem wb_X5_indexFrom_58 (N : Nat) (k11 : Hp → Int64 → Int32 → Int32 → Option (Hp × Int32)) (t0 : Nat) (h : Hp) (x1 : Int64) (x3 : Int32) (x4 : Int32) (m11 : ∀ (h : Hp) (x1 : Int64) (x3 : Int32) (x4 : Int32), k11 h x1 x3 x4 = some (hz, rz) → Fw h hz) (hJ : B_X5_indexFrom_58 N k11 t0 h x1 x3 x4 = some (hz, rz)) : Fw h hz := by
  unfold B_X5_indexFrom_58 at hJ
  exact m11 _ _ _ _ hJ
theorem wb_X5_indexFrom_34 (N : Nat) (k11 : Hp → Int64 → Int32 → Int32 → Option (Hp × Int32)) (t0 : Nat) (h : Hp) (x1 : Int64) (x3 : Int32) (x4 : Int32) (x5 : Int32) (y0 : Option Nat) (m11 : ∀ (h : Hp) (x1 : Int64) (x3 : Int32) (x4 : Int32), k11 h x1 x3 x4 = some (hz, rz) → Fw h hz) (hJ : B_X5_indexFrom_34 N k11 t0 h x1 x3 x4 x5 y0 = some (hz, rz)) : Fw h hz := by
  unfold B_X5_indexFrom_34 at hJ
  obtain ⟨a1, ea1, -, hJ⟩ := dr_some hJ
  by_cases c2 : 0 ≤ (lg_cmp ((h.fi 600 a1).toInt64) x1)
  · have hJ := it_pos c2 hJ
    exact wb_X5_indexFrom_58 N k11 t0 _ _ _ _ m11 hJ
  · have hJ := it_neg c2 hJ
    exact wb_X5_indexFrom_58 N k11 t0 _ _ _ _ m11 hJ
theorem wb_X5_indexFrom_11 (N : Nat) (k11 : Hp → Int64 → Int32 → Int32 → Option (Hp × Int32)) (t0 : Nat) (h : Hp) (x1 : Int64) (x3 : Int32) (x4 : Int32) (m11 : ∀ (h : Hp) (x1 : Int64) (x3 : Int32) (x4 : Int32), k11 h x1 x3 x4 = some (hz, rz) → Fw h hz) (hJ : B_X5_indexFrom_11 N k11 t0 h x1 x3 x4 = some (hz, rz)) : Fw h hz := by
  unfold B_X5_indexFrom_11 at hJ
  by_cases c3 : x4 ≤ x3
  · have hJ := it_pos c3 hJ
    obtain ⟨rfl, -⟩ := rs2 hJ
    exact (Fw.rf h)
  · have hJ := it_neg c3 hJ
    obtain ⟨a4, ea4, -, hJ⟩ := dr_some hJ
    obtain ⟨⟨h5, r6⟩, e7, hJ⟩ := ob_some hJ
    exact (wo_Jx4a65c_get_915e3 N a4 h (((x3 + x4).toUInt32 >>> ((1 : Int32).toUInt32 &&& Int32.toUInt32 31)).toInt32) e7).tr (wb_X5_indexFrom_34 N k11 t0 _ _ _ _ _ _ m11 hJ)
theorem wl_X5_indexFrom_11 (N : Nat) (t0 : Nat) : ∀ (n : Nat) (h : Hp) (x1 : Int64) (x3 : Int32) (x4 : Int32), L_X5_indexFrom_11 N t0 n h x1 x3 x4 = some (hz, rz) → Fw h hz := by
  intro n
  induction n with
  | zero => intro h x1 x3 x4 hJ; cases hJ
  | succ n ih => intro h x1 x3 x4 hJ; exact wb_X5_indexFrom_11 N (L_X5_indexFrom_11 N t0 n) t0 h x1 x3 x4 ih hJ
theorem wb_X5_indexFrom_9 (N : Nat) (t0 : Nat) (h : Hp) (x1 : Int64) (x3 : Int32) (y0 : Int32) (hJ : B_X5_indexFrom_9 N t0 h x1 x3 y0 = some (hz, rz)) : Fw h hz := by
  unfold B_X5_indexFrom_9 at hJ
  exact wl_X5_indexFrom_11 N t0 N _ _ _ _ hJ
theorem wb_X5_indexFrom_0 (N : Nat) (t0 : Nat) (h : Hp) (x1 : Int64) (hJ : B_X5_indexFrom_0 N t0 h x1 = some (hz, rz)) : Fw h hz := by
  unfold B_X5_indexFrom_0 at hJ
  obtain ⟨a9, ea9, -, hJ⟩ := dr_some hJ
  obtain ⟨⟨h10, r11⟩, e12, hJ⟩ := ob_some hJ
  exact (wo_Jx4a65c_size_8abf5 N a9 h e12).tr (wb_X5_indexFrom_9 N t0 _ _ _ _ hJ)
theorem wo_X5_indexFrom (N : Nat) (t0 : Nat) (h : Hp) (x1 : Int64) (hJ : J_X5_indexFrom N t0 h x1 = some (hz, rz)) : Fw h hz := wb_X5_indexFrom_0 N t0 h x1 hJ
end V_X5_indexFrom
section V_X5_find
variable {hz : Hp} {rz : Option Nat}
theorem wb_X5_find_28 (N : Nat) (t0 : Nat) (h : Hp) (y0 : Option Nat) (hJ : B_X5_find_28 N t0 h y0 = some (hz, rz)) : Fw h hz := by
  unfold B_X5_find_28 at hJ
  obtain ⟨rfl, -⟩ := rs2 hJ
  exact (Fw.rf h)
theorem wb_X5_find_27 (N : Nat) (t0 : Nat) (h : Hp) (hJ : B_X5_find_27 N t0 h = some (hz, rz)) : Fw h hz := by
  unfold B_X5_find_27 at hJ
  exact wb_X5_find_28 N t0 _ _ hJ
theorem wb_X5_find_10 (N : Nat) (t0 : Nat) (h : Hp) (x1 : Int32) (y0 : Option Nat) (hJ : B_X5_find_10 N t0 h x1 y0 = some (hz, rz)) : Fw h hz := by
  unfold B_X5_find_10 at hJ
  cases ea1 : y0 with
  | none =>
    have hJ := nl_none ea1 hJ
    exact wb_X5_find_27 N t0 _ hJ
  | some a1 =>
    have hJ := nl_some ea1 hJ
    obtain ⟨-, hJ⟩ := ck_some hJ
    by_cases c3 : (h.fi 600 a1) = x1
    · have hJ := it_pos c3 hJ
      exact wb_X5_find_28 N t0 _ _ hJ
    · have hJ := it_neg c3 hJ
      exact wb_X5_find_27 N t0 _ hJ
theorem wb_X5_find_7 (N : Nat) (t0 : Nat) (h : Hp) (x1 : Int32) (y0 : Option Nat) (y1 : Int32) (hJ : B_X5_find_7 N t0 h x1 y0 y1 = some (hz, rz)) : Fw h hz := by
  unfold B_X5_find_7 at hJ
  obtain ⟨a4, ea4, -, hJ⟩ := dr_some hJ
  obtain ⟨⟨h5, r6⟩, e7, hJ⟩ := ob_some hJ
  exact (wo_X5_chainAt N a4 h y1 e7).tr (wb_X5_find_10 N t0 _ _ _ hJ)
theorem wb_X5_find_0 (N : Nat) (t0 : Nat) (h : Hp) (x1 : Int32) (hJ : B_X5_find_0 N t0 h x1 = some (hz, rz)) : Fw h hz := by
  unfold B_X5_find_0 at hJ
  obtain ⟨⟨h9, r10⟩, e11, hJ⟩ := ob_some hJ
  exact (wo_X5_indexFrom N t0 h x1.toInt64 e11).tr (wb_X5_find_7 N t0 _ _ _ _ hJ)
theorem wo_X5_find (N : Nat) (t0 : Nat) (h : Hp) (x1 : Int32) (hJ : J_X5_find N t0 h x1 = some (hz, rz)) : Fw h hz := wb_X5_find_0 N t0 h x1 hJ
end V_X5_find
section V_X5_nextChain
variable {hz : Hp} {rz : Option Nat}
theorem wb_X5_nextChain_25 (N : Nat) (t0 : Nat) (h : Hp) (y0 : Option Nat) (hJ : B_X5_nextChain_25 N t0 h y0 = some (hz, rz)) : Fw h hz := by
  unfold B_X5_nextChain_25 at hJ
  obtain ⟨rfl, -⟩ := rs2 hJ
  exact (Fw.rf h)
theorem wb_X5_nextChain_22 (N : Nat) (t0 : Nat) (h : Hp) (y0 : Option Nat) (y1 : Int32) (hJ : B_X5_nextChain_22 N t0 h y0 y1 = some (hz, rz)) : Fw h hz := by
  unfold B_X5_nextChain_22 at hJ
  obtain ⟨a1, ea1, -, hJ⟩ := dr_some hJ
  obtain ⟨⟨h2, r3⟩, e4, hJ⟩ := ob_some hJ
  exact (wo_X5_chainAt N a1 h y1 e4).tr (wb_X5_nextChain_25 N t0 _ _ hJ)
theorem wb_X5_nextChain_10 (N : Nat) (t0 : Nat) (h : Hp) (y0 : Option Nat) (y1 : Int32) (hJ : B_X5_nextChain_10 N t0 h y0 y1 = some (hz, rz)) : Fw h hz := by
  unfold B_X5_nextChain_10 at hJ
  exact wb_X5_nextChain_22 N t0 _ _ _ hJ
theorem wb_X5_nextChain_20 (N : Nat) (t0 : Nat) (h : Hp) (y0 : Option Nat) (y1 : Int32) (hJ : B_X5_nextChain_20 N t0 h y0 y1 = some (hz, rz)) : Fw h hz := by
  unfold B_X5_nextChain_20 at hJ
  exact wb_X5_nextChain_22 N t0 _ _ _ hJ
theorem wb_X5_nextChain_0 (N : Nat) (t0 : Nat) (h : Hp) (x1 : Int64) (x3 : Int32) (hJ : B_X5_nextChain_0 N t0 h x1 x3 = some (hz, rz)) : Fw h hz := by
  unfold B_X5_nextChain_0 at hJ
  by_cases c6 : x3 = 0
  · have hJ := it_pos c6 hJ
    obtain ⟨⟨h7, r8⟩, e9, hJ⟩ := ob_some hJ
    exact (wo_X5_indexFrom N t0 h (x1 + (1 : Int64)) e9).tr (wb_X5_nextChain_20 N t0 _ _ _ hJ)
  · have hJ := it_neg c6 hJ
    obtain ⟨⟨h11, r12⟩, e13, hJ⟩ := ob_some hJ
    exact (wo_X5_indexFrom N t0 h x1 e13).tr (wb_X5_nextChain_10 N t0 _ _ _ hJ)
theorem wo_X5_nextChain (N : Nat) (t0 : Nat) (h : Hp) (x1 : Int64) (x3 : Int32) (hJ : J_X5_nextChain N t0 h x1 x3 = some (hz, rz)) : Fw h hz := wb_X5_nextChain_0 N t0 h x1 x3 hJ
end V_X5_nextChain
section V_X5_put
variable {hz : Hp}
theorem wb_X5_put_57 (N : Nat) (t0 : Nat) (h : Hp) (y0 : Option Nat) (y1 : Option Nat) (hJ : B_X5_put_57 N t0 h y0 y1 = some (hz, ())) : Fw h hz := by
  unfold B_X5_put_57 at hJ
  obtain ⟨a1, ea1, -, hJ⟩ := dr_some hJ
  obtain ⟨rfl, -⟩ := rs2 hJ
  exact (Fw.rf h)
theorem wb_X5_put_42 (N : Nat) (t0 : Nat) (h : Hp) (x2 : Int32) (x3 : Int32) (x4 : Int32) (x5 : Int64) (x7 : Option Nat) (y0 : Option Nat) (y1 : Option Nat) (hJ : B_X5_put_42 N t0 h x2 x3 x4 x5 x7 y0 y1 = some (hz, ())) : Fw h hz := by
  unfold B_X5_put_42 at hJ
  obtain ⟨a2, ea2, -, hJ⟩ := dr_some hJ
  obtain ⟨a3, ea3, -, hJ⟩ := dr_some hJ
  obtain ⟨⟨h4, r5⟩, e6, hJ⟩ := ob_some hJ
  exact (wo_X4_init N a3 h x2 x3 x4 x5 (h.fr 601 a2) e6).tr (wb_X5_put_57 N t0 _ _ _ hJ)
theorem wb_X5_put_37 (N : Nat) (t0 : Nat) (h : Hp) (x2 : Int32) (x3 : Int32) (x4 : Int32) (x5 : Int64) (x7 : Option Nat) (hJ : B_X5_put_37 N t0 h x2 x3 x4 x5 x7 = some (hz, ())) : Fw h hz := by
  unfold B_X5_put_37 at hJ
  exact (Fw.new h _ _ _).tr (wb_X5_put_42 N t0 _ _ _ _ _ _ _ _ hJ)
theorem wb_X5_put_32 (N : Nat) (t0 : Nat) (h : Hp) (x2 : Int32) (x3 : Int32) (x4 : Int32) (x5 : Int64) (x7 : Option Nat) (y0 : Option Nat) (y1 : Int32) (hJ : B_X5_put_32 N t0 h x2 x3 x4 x5 x7 y0 y1 = some (hz, ())) : Fw h hz := by
  unfold B_X5_put_32 at hJ
  obtain ⟨a9, ea9, -, hJ⟩ := dr_some hJ
  obtain ⟨⟨h10, r11⟩, e12, hJ⟩ := ob_some hJ
  exact (wo_Jx4a65c_add_7a177 N a9 h y1 x7 e12).tr (wb_X5_put_37 N t0 _ _ _ _ _ _ hJ)
theorem wb_X5_put_20 (N : Nat) (t0 : Nat) (h : Hp) (x1 : Int32) (x2 : Int32) (x3 : Int32) (x4 : Int32) (x5 : Int64) (y0 : Option Nat) (hJ : B_X5_put_20 N t0 h x1 x2 x3 x4 x5 y0 = some (hz, ())) : Fw h hz := by
  unfold B_X5_put_20 at hJ
  obtain ⟨⟨h14, r15⟩, e16, hJ⟩ := ob_some hJ
  exact (wo_X5_indexFrom N t0 h x1.toInt64 e16).tr (wb_X5_put_32 N t0 _ _ _ _ _ _ _ _ hJ)
theorem wb_X5_put_15 (N : Nat) (t0 : Nat) (h : Hp) (x1 : Int32) (x2 : Int32) (x3 : Int32) (x4 : Int32) (x5 : Int64) (y0 : Option Nat) (hJ : B_X5_put_15 N t0 h x1 x2 x3 x4 x5 y0 = some (hz, ())) : Fw h hz := by
  unfold B_X5_put_15 at hJ
  obtain ⟨a18, ea18, -, hJ⟩ := dr_some hJ
  obtain ⟨⟨h19, r20⟩, e21, hJ⟩ := ob_some hJ
  exact (wo_X3_init N a18 h x1 e21).tr (wb_X5_put_20 N t0 _ _ _ _ _ _ _ hJ)
theorem wb_X5_put_5 (N : Nat) (t0 : Nat) (h : Hp) (x1 : Int32) (x2 : Int32) (x3 : Int32) (x4 : Int32) (x5 : Int64) (y0 : Option Nat) (hJ : B_X5_put_5 N t0 h x1 x2 x3 x4 x5 y0 = some (hz, ())) : Fw h hz := by
  unfold B_X5_put_5 at hJ
  cases ea23 : y0 with
  | none =>
    have hJ := nl_none ea23 hJ
    exact (Fw.new h _ _ _).tr (wb_X5_put_15 N t0 _ _ _ _ _ _ _ hJ)
  | some a23 =>
    have hJ := nl_some ea23 hJ
    exact wb_X5_put_37 N t0 _ _ _ _ _ _ hJ
theorem wb_X5_put_0 (N : Nat) (t0 : Nat) (h : Hp) (x1 : Int32) (x2 : Int32) (x3 : Int32) (x4 : Int32) (x5 : Int64) (hJ : B_X5_put_0 N t0 h x1 x2 x3 x4 x5 = some (hz, ())) : Fw h hz := by
  unfold B_X5_put_0 at hJ
  obtain ⟨⟨h25, r26⟩, e27, hJ⟩ := ob_some hJ
  exact (wo_X5_find N t0 h x1 e27).tr (wb_X5_put_5 N t0 _ _ _ _ _ _ _ hJ)
theorem wo_X5_put (N : Nat) (t0 : Nat) (h : Hp) (x1 : Int32) (x2 : Int32) (x3 : Int32) (x4 : Int32) (x5 : Int64) (hJ : J_X5_put N t0 h x1 x2 x3 x4 x5 = some (hz, ())) : Fw h hz := wb_X5_put_0 N t0 h x1 x2 x3 x4 x5 hJ
end V_X5_put
section V_X5_dropAfter
variable {hz : Hp}
theorem wb_X5_dropAfter_47 (N : Nat) (k10 : Hp → Int32 → Int32 → Option (Hp × Unit)) (t0 : Nat) (h : Hp) (x1 : Int32) (x2 : Int32) (m10 : ∀ (h : Hp) (x1 : Int32) (x2 : Int32), k10 h x1 x2 = some (hz, ()) → Fw h hz) (hJ : B_X5_dropAfter_47 N k10 t0 h x1 x2 = some (hz, ())) : Fw h hz := by
  unfold B_X5_dropAfter_47 at hJ
  exact m10 _ _ _ hJ
theorem wb_X5_dropAfter_46 (N : Nat) (k10 : Hp → Int32 → Int32 → Option (Hp × Unit)) (t0 : Nat) (h : Hp) (x1 : Int32) (x2 : Int32) (y0 : Option Nat) (m10 : ∀ (h : Hp) (x1 : Int32) (x2 : Int32), k10 h x1 x2 = some (hz, ()) → Fw h hz) (hJ : B_X5_dropAfter_46 N k10 t0 h x1 x2 y0 = some (hz, ())) : Fw h hz := by
  unfold B_X5_dropAfter_46 at hJ
  exact wb_X5_dropAfter_47 N k10 t0 _ _ _ m10 hJ
theorem wb_X5_dropAfter_31 (N : Nat) (k10 : Hp → Int32 → Int32 → Option (Hp × Unit)) (t0 : Nat) (h : Hp) (x1 : Int32) (x2 : Int32) (x3 : Option Nat) (m10 : ∀ (h : Hp) (x1 : Int32) (x2 : Int32), k10 h x1 x2 = some (hz, ()) → Fw h hz) (hJ : B_X5_dropAfter_31 N k10 t0 h x1 x2 x3 = some (hz, ())) : Fw h hz := by
  unfold B_X5_dropAfter_31 at hJ
  obtain ⟨a1, ea1, -, hJ⟩ := dr_some hJ
  cases ea2 : (h.fr 601 a1) with
  | none =>
    have hJ := nl_none ea2 hJ
    obtain ⟨a3, ea3, -, hJ⟩ := dr_some hJ
    obtain ⟨⟨h4, r5⟩, e6, hJ⟩ := ob_some hJ
    exact (wo_Jx4a65c_remove_915e3 N a3 h x2 e6).tr (wb_X5_dropAfter_46 N k10 t0 _ _ _ _ m10 hJ)
  | some a2 =>
    have hJ := nl_some ea2 hJ
    exact wb_X5_dropAfter_47 N k10 t0 _ _ _ m10 hJ
theorem wb_X5_dropAfter_22 (N : Nat) (k10 : Hp → Int32 → Int32 → Option (Hp × Unit)) (t0 : Nat) (h : Hp) (x1 : Int32) (x2 : Int32) (y0 : Option Nat) (m10 : ∀ (h : Hp) (x1 : Int32) (x2 : Int32), k10 h x1 x2 = some (hz, ()) → Fw h hz) (hJ : B_X5_dropAfter_22 N k10 t0 h x1 x2 y0 = some (hz, ())) : Fw h hz := by
  unfold B_X5_dropAfter_22 at hJ
  obtain ⟨a8, ea8, -, hJ⟩ := dr_some hJ
  obtain ⟨⟨h9, r10⟩, e11, hJ⟩ := ob_some hJ
  exact (wo_X3_dropAfter N a8 h x1 e11).tr (wb_X5_dropAfter_31 N k10 t0 _ _ _ _ m10 hJ)
theorem wb_X5_dropAfter_10 (N : Nat) (k10 : Hp → Int32 → Int32 → Option (Hp × Unit)) (t0 : Nat) (h : Hp) (x1 : Int32) (x2 : Int32) (m10 : ∀ (h : Hp) (x1 : Int32) (x2 : Int32), k10 h x1 x2 = some (hz, ()) → Fw h hz) (hJ : B_X5_dropAfter_10 N k10 t0 h x1 x2 = some (hz, ())) : Fw h hz := by
  unfold B_X5_dropAfter_10 at hJ
  by_cases c13 : x2 < 0
  · have hJ := it_pos c13 hJ
    obtain ⟨rfl, -⟩ := rs2 hJ
    exact (Fw.rf h)
  · have hJ := it_neg c13 hJ
    obtain ⟨a14, ea14, -, hJ⟩ := dr_some hJ
    obtain ⟨⟨h15, r16⟩, e17, hJ⟩ := ob_some hJ
    exact (wo_Jx4a65c_get_915e3 N a14 h x2 e17).tr (wb_X5_dropAfter_22 N k10 t0 _ _ _ _ m10 hJ)
theorem wl_X5_dropAfter_10 (N : Nat) (t0 : Nat) : ∀ (n : Nat) (h : Hp) (x1 : Int32) (x2 : Int32), L_X5_dropAfter_10 N t0 n h x1 x2 = some (hz, ()) → Fw h hz := by
  intro n
  induction n with
  | zero => intro h x1 x2 hJ; cases hJ
  | succ n ih => intro h x1 x2 hJ; exact wb_X5_dropAfter_10 N (L_X5_dropAfter_10 N t0 n) t0 h x1 x2 ih hJ
theorem wb_X5_dropAfter_7 (N : Nat) (t0 : Nat) (h : Hp) (x1 : Int32) (y0 : Int32) (hJ : B_X5_dropAfter_7 N t0 h x1 y0 = some (hz, ())) : Fw h hz := by
  unfold B_X5_dropAfter_7 at hJ
  exact wl_X5_dropAfter_10 N t0 N _ _ _ hJ
theorem wb_X5_dropAfter_0 (N : Nat) (t0 : Nat) (h : Hp) (x1 : Int32) (hJ : B_X5_dropAfter_0 N t0 h x1 = some (hz, ())) : Fw h hz := by
  unfold B_X5_dropAfter_0 at hJ
  obtain ⟨a19, ea19, -, hJ⟩ := dr_some hJ
  obtain ⟨⟨h20, r21⟩, e22, hJ⟩ := ob_some hJ
  exact (wo_Jx4a65c_size_8abf5 N a19 h e22).tr (wb_X5_dropAfter_7 N t0 _ _ _ hJ)
theorem wo_X5_dropAfter (N : Nat) (t0 : Nat) (h : Hp) (x1 : Int32) (hJ : J_X5_dropAfter N t0 h x1 = some (hz, ())) : Fw h hz := wb_X5_dropAfter_0 N t0 h x1 hJ
end V_X5_dropAfter
