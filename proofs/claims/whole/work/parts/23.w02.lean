section V_X3_keptAbove
variable {hz : Hp} {rz : Int32}
theorem wb_X3_keptAbove_48 (N : Nat) (t0 : Nat) (h : Hp) (y0 : Int32) (hJ : B_X3_keptAbove_48 N t0 h y0 = some (hz, rz)) : Fw h hz := by
  unfold B_X3_keptAbove_48 at hJ
  obtain ⟨rfl, -⟩ := rs2 hJ
  exact (Fw.rf h)
theorem wb_X3_keptAbove_47 (N : Nat) (t0 : Nat) (h : Hp) (x2 : Int32) (hJ : B_X3_keptAbove_47 N t0 h x2 = some (hz, rz)) : Fw h hz := by
  unfold B_X3_keptAbove_47 at hJ
  exact wb_X3_keptAbove_48 N t0 _ _ hJ
theorem wb_X3_keptAbove_30 (N : Nat) (t0 : Nat) (h : Hp) (x2 : Int32) (x3 : Option Nat) (hJ : B_X3_keptAbove_30 N t0 h x2 x3 = some (hz, rz)) : Fw h hz := by
  unfold B_X3_keptAbove_30 at hJ
  cases ea1 : x3 with
  | none =>
    have hJ := nl_none ea1 hJ
    exact wb_X3_keptAbove_47 N t0 _ _ hJ
  | some a1 =>
    have hJ := nl_some ea1 hJ
    obtain ⟨-, hJ⟩ := ck_some hJ
    by_cases c3 : (h.fi 702 a1) = 0
    · have hJ := it_pos c3 hJ
      exact wb_X3_keptAbove_47 N t0 _ _ hJ
    · have hJ := it_neg c3 hJ
      exact wb_X3_keptAbove_48 N t0 _ _ hJ
theorem wb_X3_keptAbove_7 (N : Nat) (k7 : Hp → Int32 → Int32 → (Option Nat) → Option (Hp × Int32)) (t0 : Nat) (h : Hp) (x1 : Int32) (x2 : Int32) (x3 : Option Nat) (m7 : ∀ (h : Hp) (x1 : Int32) (x2 : Int32) (x3 : Option Nat), k7 h x1 x2 x3 = some (hz, rz) → Fw h hz) (hJ : B_X3_keptAbove_7 N k7 t0 h x1 x2 x3 = some (hz, rz)) : Fw h hz := by
  unfold B_X3_keptAbove_7 at hJ
  cases ea4 : x3 with
  | none =>
    have hJ := nl_none ea4 hJ
    exact wb_X3_keptAbove_30 N t0 _ _ _ hJ
  | some a4 =>
    have hJ := nl_some ea4 hJ
    obtain ⟨-, hJ⟩ := ck_some hJ
    by_cases c6 : (h.fi 700 a4) ≤ x1
    · have hJ := it_pos c6 hJ
      exact wb_X3_keptAbove_30 N t0 _ _ _ hJ
    · have hJ := it_neg c6 hJ
      exact m7 _ _ _ _ hJ
theorem wl_X3_keptAbove_7 (N : Nat) (t0 : Nat) : ∀ (n : Nat) (h : Hp) (x1 : Int32) (x2 : Int32) (x3 : Option Nat), L_X3_keptAbove_7 N t0 n h x1 x2 x3 = some (hz, rz) → Fw h hz := by
  intro n
  induction n with
  | zero => intro h x1 x2 x3 hJ; cases hJ
  | succ n ih => intro h x1 x2 x3 hJ; exact wb_X3_keptAbove_7 N (L_X3_keptAbove_7 N t0 n) t0 h x1 x2 x3 ih hJ
theorem wb_X3_keptAbove_0 (N : Nat) (t0 : Nat) (h : Hp) (x1 : Int32) (hJ : B_X3_keptAbove_0 N t0 h x1 = some (hz, rz)) : Fw h hz := by
  unfold B_X3_keptAbove_0 at hJ
  exact wl_X3_keptAbove_7 N t0 N _ _ _ _ hJ
theorem wo_X3_keptAbove (N : Nat) (t0 : Nat) (h : Hp) (x1 : Int32) (hJ : J_X3_keptAbove N t0 h x1 = some (hz, rz)) : Fw h hz := wb_X3_keptAbove_0 N t0 h x1 hJ
end V_X3_keptAbove
section V_X3_upTo
variable {hz : Hp} {rz : Option Nat}
theorem wb_X3_upTo_25 (N : Nat) (t0 : Nat) (h : Hp) (x2 : Option Nat) (hJ : B_X3_upTo_25 N t0 h x2 = some (hz, rz)) : Fw h hz := by
  unfold B_X3_upTo_25 at hJ
  obtain ⟨rfl, -⟩ := rs2 hJ
  exact (Fw.rf h)
theorem wb_X3_upTo_5 (N : Nat) (k5 : Hp → Int32 → (Option Nat) → Option (Hp × Option Nat)) (t0 : Nat) (h : Hp) (x1 : Int32) (x2 : Option Nat) (m5 : ∀ (h : Hp) (x1 : Int32) (x2 : Option Nat), k5 h x1 x2 = some (hz, rz) → Fw h hz) (hJ : B_X3_upTo_5 N k5 t0 h x1 x2 = some (hz, rz)) : Fw h hz := by
  unfold B_X3_upTo_5 at hJ
  cases ea1 : x2 with
  | none =>
    have hJ := nl_none ea1 hJ
    exact wb_X3_upTo_25 N t0 _ _ hJ
  | some a1 =>
    have hJ := nl_some ea1 hJ
    obtain ⟨-, hJ⟩ := ck_some hJ
    by_cases c3 : (h.fi 700 a1) ≤ x1
    · have hJ := it_pos c3 hJ
      exact wb_X3_upTo_25 N t0 _ _ hJ
    · have hJ := it_neg c3 hJ
      exact m5 _ _ _ hJ
theorem wl_X3_upTo_5 (N : Nat) (t0 : Nat) : ∀ (n : Nat) (h : Hp) (x1 : Int32) (x2 : Option Nat), L_X3_upTo_5 N t0 n h x1 x2 = some (hz, rz) → Fw h hz := by
  intro n
  induction n with
  | zero => intro h x1 x2 hJ; cases hJ
  | succ n ih => intro h x1 x2 hJ; exact wb_X3_upTo_5 N (L_X3_upTo_5 N t0 n) t0 h x1 x2 ih hJ
theorem wb_X3_upTo_0 (N : Nat) (t0 : Nat) (h : Hp) (x1 : Int32) (hJ : B_X3_upTo_0 N t0 h x1 = some (hz, rz)) : Fw h hz := by
  unfold B_X3_upTo_0 at hJ
  exact wl_X3_upTo_5 N t0 N _ _ _ hJ
theorem wo_X3_upTo (N : Nat) (t0 : Nat) (h : Hp) (x1 : Int32) (hJ : J_X3_upTo N t0 h x1 = some (hz, rz)) : Fw h hz := wb_X3_upTo_0 N t0 h x1 hJ
end V_X3_upTo
section V_X3_firstAfter
variable {hz : Hp} {rz : Option Nat}
theorem wb_X3_firstAfter_29 (N : Nat) (t0 : Nat) (h : Hp) (x2 : Option Nat) (hJ : B_X3_firstAfter_29 N t0 h x2 = some (hz, rz)) : Fw h hz := by
  unfold B_X3_firstAfter_29 at hJ
  obtain ⟨rfl, -⟩ := rs2 hJ
  exact (Fw.rf h)
theorem wb_X3_firstAfter_7 (N : Nat) (k7 : Hp → Int32 → (Option Nat) → (Option Nat) → Option (Hp × Option Nat)) (t0 : Nat) (h : Hp) (x1 : Int32) (x2 : Option Nat) (x3 : Option Nat) (m7 : ∀ (h : Hp) (x1 : Int32) (x2 : Option Nat) (x3 : Option Nat), k7 h x1 x2 x3 = some (hz, rz) → Fw h hz) (hJ : B_X3_firstAfter_7 N k7 t0 h x1 x2 x3 = some (hz, rz)) : Fw h hz := by
  unfold B_X3_firstAfter_7 at hJ
  cases ea1 : x3 with
  | none =>
    have hJ := nl_none ea1 hJ
    exact wb_X3_firstAfter_29 N t0 _ _ hJ
  | some a1 =>
    have hJ := nl_some ea1 hJ
    obtain ⟨-, hJ⟩ := ck_some hJ
    by_cases c3 : (h.fi 700 a1) ≤ x1
    · have hJ := it_pos c3 hJ
      exact wb_X3_firstAfter_29 N t0 _ _ hJ
    · have hJ := it_neg c3 hJ
      exact m7 _ _ _ _ hJ
theorem wl_X3_firstAfter_7 (N : Nat) (t0 : Nat) : ∀ (n : Nat) (h : Hp) (x1 : Int32) (x2 : Option Nat) (x3 : Option Nat), L_X3_firstAfter_7 N t0 n h x1 x2 x3 = some (hz, rz) → Fw h hz := by
  intro n
  induction n with
  | zero => intro h x1 x2 x3 hJ; cases hJ
  | succ n ih => intro h x1 x2 x3 hJ; exact wb_X3_firstAfter_7 N (L_X3_firstAfter_7 N t0 n) t0 h x1 x2 x3 ih hJ
theorem wb_X3_firstAfter_0 (N : Nat) (t0 : Nat) (h : Hp) (x1 : Int32) (hJ : B_X3_firstAfter_0 N t0 h x1 = some (hz, rz)) : Fw h hz := by
  unfold B_X3_firstAfter_0 at hJ
  exact wl_X3_firstAfter_7 N t0 N _ _ _ _ hJ
theorem wo_X3_firstAfter (N : Nat) (t0 : Nat) (h : Hp) (x1 : Int32) (hJ : J_X3_firstAfter N t0 h x1 = some (hz, rz)) : Fw h hz := wb_X3_firstAfter_0 N t0 h x1 hJ
end V_X3_firstAfter
section V_X3_init
variable {hz : Hp}
theorem wb_X3_init_0 (N : Nat) (t0 : Nat) (h : Hp) (x1 : Int32) (hJ : B_X3_init_0 N t0 h x1 = some (hz, ())) : Fw h hz := by
  unfold B_X3_init_0 at hJ
  obtain ⟨rfl, -⟩ := rs2 hJ
  exact (Fw.rf h)
theorem wo_X3_init (N : Nat) (t0 : Nat) (h : Hp) (x1 : Int32) (hJ : J_X3_init N t0 h x1 = some (hz, ())) : Fw h hz := wb_X3_init_0 N t0 h x1 hJ
end V_X3_init
section V_X3_dropAfter
variable {hz : Hp}
theorem wb_X3_dropAfter_6 (N : Nat) (t0 : Nat) (h : Hp) (y0 : Option Nat) (y1 : Option Nat) (hJ : B_X3_dropAfter_6 N t0 h y0 y1 = some (hz, ())) : Fw h hz := by
  unfold B_X3_dropAfter_6 at hJ
  obtain ⟨a1, ea1, -, hJ⟩ := dr_some hJ
  obtain ⟨rfl, -⟩ := rs2 hJ
  exact (Fw.rf h)
theorem wb_X3_dropAfter_0 (N : Nat) (t0 : Nat) (h : Hp) (x1 : Int32) (hJ : B_X3_dropAfter_0 N t0 h x1 = some (hz, ())) : Fw h hz := by
  unfold B_X3_dropAfter_0 at hJ
  obtain ⟨⟨h2, r3⟩, e4, hJ⟩ := ob_some hJ
  exact (wo_X3_upTo N t0 h x1 e4).tr (wb_X3_dropAfter_6 N t0 _ _ _ hJ)
theorem wo_X3_dropAfter (N : Nat) (t0 : Nat) (h : Hp) (x1 : Int32) (hJ : J_X3_dropAfter N t0 h x1 = some (hz, ())) : Fw h hz := wb_X3_dropAfter_0 N t0 h x1 hJ
end V_X3_dropAfter
