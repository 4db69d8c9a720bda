/-! onRings -/
theorem rx_i9 (x i : Nat) : (9 : Int32) * nI x + nI i = nI (9 * x + i) := by
  rw [show (9 : Int32) * nI x = nI (9 * x) from nI_mul 9 x]
  exact nI_add _ _
theorem Pth.row {P : Nat → Nat → Prop} {b : Nat} (hP : ∀ x y, P x y → 1 ≤ x ∧ x ≤ b) : ∀ m x y, Pth P m x y → 1 ≤ x ∧ x ≤ b := by
  intro m
  induction m with
  | zero => exact hP
  | succ m ih =>
    intro x y z
    rcases z with z | z
    · exact ih x y z
    · exact ih x m z.2
section RF33
variable {h : Hp} {M b c w l v k r : Nat}
theorem rf_or66 (q : Rk h M) (N : Nat) (hN : 1000 < N) (k31 : Hp → Int32 → Option (Hp × Int32)) (k41 : Hp → Int32 → Int32 → Option (Hp × Int32)) {x m : Nat} (hx : x < 514) (hm : m < 514) {G : Nat → Nat → Prop} (g : Rx h (M + 39) G) : ∃ s', L_X10_onRings_66 N k31 k41 M N h (nI m) (nI x) (nI 0) = k41 s' (nI m) (nI (x + 1)) ∧ RfO [39] [] M h s' ∧ Rx s' (M + 39) (fun a y => G a y ∨ (a = x ∧ G m y)) := by
  refine lp_inv (G := fun F i (s : Hp) => L_X10_onRings_66 N k31 k41 M F s (nI m) (nI x) (nI i)) (hi := 9) (Inv := fun i s => RfO [39] [] M h s ∧ Rx s (M + 39) (fun a y => G a y ∨ (a = x ∧ y < 64 * i ∧ G m y))) (Q := fun o => ∃ s', o = k41 s' (nI m) (nI (x + 1)) ∧ RfO [39] [] M h s' ∧ Rx s' (M + 39) (fun a y => G a y ∨ (a = x ∧ G m y))) ?_ ?_ 9 0 N h (by omega) (by omega) (by omega) ⟨RfO.rf _ _ _ _, g.cg (fun a y => ⟨Or.inl, fun t => t.elim id (fun t => by omega)⟩)⟩
  · intro F s hs
    refine ⟨s, ?_, hs.1, fun a y ha hy => (hs.2 a y ha hy).trans (or_congr Iff.rfl ⟨fun t => ⟨t.1, t.2.2⟩, fun t => ⟨t.1, by omega, t.2⟩⟩)⟩
    show B_X10_onRings_66 N k31 k41 _ M s (nI m) (nI x) (nI 9) = _
    unfold B_X10_onRings_66 B_X10_onRings_103
    rw [if_pos (show (9 : Int32) ≤ nI 9 by decide), ni_inc]
  · intro F i s hi hs
    left
    obtain ⟨f, g1⟩ := hs
    have q' := f.rk q
    refine ⟨s.sbw (M + 39) (9 * x + i) (s.bw (M + 39) (9 * x + i) ||| s.bw (M + 39) (9 * m + i)), ⟨f.tr (RfO.sbw (k := 39) (by decide) _ _), fun a y ha hy => ?_⟩, ?_⟩
    · rw [bw_at]
      by_cases e : 9 * a + y / 64 = 9 * x + i
      · have e1 : a = x := by omega
        have e2 : y / 64 = i := by omega
        have b1 := g1 a y ha hy
        have b2 := g1 m y hm hy
        rw [e] at b1
        rw [show 9 * m + y / 64 = 9 * m + i by omega] at b2
        rw [if_pos e, bt_or, Bool.or_eq_true, b1, b2]
        constructor
        · rintro ((t | t) | (t | t))
          · exact Or.inl t
          · exact Or.inr ⟨t.1, by omega, t.2.2⟩
          · exact Or.inr ⟨e1, by omega, t⟩
          · exact Or.inr ⟨e1, by omega, t.2.2⟩
        · rintro (t | t)
          · exact Or.inl (Or.inl t)
          · exact Or.inr (Or.inl t.2.2)
      · rw [if_neg e, g1 a y ha hy]
        refine or_congr Iff.rfl ⟨fun t => ⟨t.1, by omega, t.2.2⟩, fun t => ⟨t.1, ?_, t.2.2⟩⟩
        have := t.1
        have := t.2.1
        omega
    · show B_X10_onRings_66 N k31 k41 (L_X10_onRings_66 N k31 k41 M F) M s (nI m) (nI x) (nI i) = _
      unfold B_X10_onRings_66
      rw [if_neg (show ¬ (9 : Int32) ≤ nI i from fun u => by rw [show (9 : Int32) = nI 9 from rfl, ni_le (by omega) (by omega)] at u; omega), rx_i9, rx_i9, rd_1357 q', rx_1357 q' (show 9 * x + i < 4626 by omega), rd_1357 q', rx_1357 q' (show 9 * m + i < 4626 by omega), rx_1357 q' (show 9 * x + i < 4626 by omega), ni_clp (show 9 * x + i < _ by omega), ni_clp (show 9 * m + i < _ by omega), ni_inc]
theorem rf_or41 (q : Rk h M) (n : Rn h M b c w l v k r) (N : Nat) (hN : 1000 < N) (k31 : Hp → Int32 → Option (Hp × Int32)) {m : Nat} (hm : m ≤ b) {F0 : Nat → Nat → Prop} (row : ∀ x y, F0 x y → 1 ≤ x ∧ x ≤ b) (g : Rx h (M + 39) F0) : ∃ s', L_X10_onRings_41 N k31 M N h (nI m) (nI 1) = k31 s' (nI (m + 1)) ∧ RfO [39] [] M h s' ∧ Rx s' (M + 39) (fun a y => F0 a y ∨ (F0 m y ∧ F0 a m)) := by
  have hb := n.2.2.2.2.2.2.2.1
  refine lp_inv (G := fun F x (s : Hp) => L_X10_onRings_41 N k31 M F s (nI m) (nI x)) (hi := b + 1) (Inv := fun x s => 1 ≤ x ∧ RfO [39] [] M h s ∧ Rx s (M + 39) (fun a y => F0 a y ∨ (a < x ∧ F0 m y ∧ F0 a m))) (Q := fun o => ∃ s', o = k31 s' (nI (m + 1)) ∧ RfO [39] [] M h s' ∧ Rx s' (M + 39) (fun a y => F0 a y ∨ (F0 m y ∧ F0 a m))) ?_ ?_ b 1 N h (by omega) (by omega) (by omega) ⟨Nat.le_refl _, RfO.rf _ _ _ _, g.cg (fun a y => ⟨Or.inl, fun t => t.elim id (fun t => ?_)⟩)⟩
  · intro F s hs
    obtain ⟨_, f, g1⟩ := hs
    refine ⟨s, ?_, f, g1.cg (fun a y => or_congr Iff.rfl ⟨fun t => t.2, fun t => ⟨?_, t⟩⟩)⟩
    · show B_X10_onRings_41 N k31 _ M s (nI m) (nI (b + 1)) = _
      unfold B_X10_onRings_41
      rw [(f.rn n (fun _ _ z => by cases z)).1, if_pos ((ni_lt (by omega) (by omega)).mpr (by omega)), ni_inc]
    · have := (row a m t.2).2
      omega
  · intro F x s hx hs
    obtain ⟨x1, f, g1⟩ := hs
    left
    have q' := f.rk q
    obtain ⟨z, e1, e2⟩ := rf_has N (o := s.gr 1357 M) (q'.2 _ rt_1357).1 (q'.2 _ rt_1357).2.1 (q'.2 _ rt_1357).2.2 g1 (show x < 514 by omega) (show m < 514 by omega)
    have body : L_X10_onRings_41 N k31 M (F + 1) s (nI m) (nI x) = if z = 0 then L_X10_onRings_41 N k31 M F s (nI m) (nI (x + 1)) else L_X10_onRings_66 N k31 (L_X10_onRings_41 N k31 M F) M N s (nI m) (nI x) (nI 0) := by
      show B_X10_onRings_41 N k31 (L_X10_onRings_41 N k31 M F) M s (nI m) (nI x) = _
      unfold B_X10_onRings_41
      rw [(f.rn n (fun _ _ z => by cases z)).1, if_neg (by rw [ni_lt (by omega) (by omega)]; omega)]
      refine (bnd (by exact e1)).trans ?_
      show B_X10_onRings_58 N k31 (L_X10_onRings_41 N k31 M F) M s (nI m) (nI x) z = _
      unfold B_X10_onRings_58 B_X10_onRings_103
      rw [ni_inc]
      rfl
    show ∃ s' : Hp, (1 ≤ x + 1 ∧ RfO [39] [] M h s' ∧ Rx s' (M + 39) (fun a y => F0 a y ∨ (a < x + 1 ∧ F0 m y ∧ F0 a m))) ∧ L_X10_onRings_41 N k31 M (F + 1) s (nI m) (nI x) = L_X10_onRings_41 N k31 M F s' (nI m) (nI (x + 1))
    rw [body]
    rcases e2 with ⟨y1, y2⟩ | ⟨y1, y2⟩
    · rw [if_neg (by rw [y1]; decide)]
      have y2 : F0 x m := y2.elim id (fun t => t.2.2)
      obtain ⟨s', d1, d2, d3⟩ := rf_or66 q' N hN k31 (L_X10_onRings_41 N k31 M F) (show x < 514 by omega) (show m < 514 by omega) g1
      rw [d1]
      refine ⟨s', ⟨by omega, f.tr d2, d3.cg (fun a y => ⟨?_, ?_⟩)⟩, rfl⟩
      · rintro ((t | t) | t)
        · exact Or.inl t
        · exact Or.inr ⟨by omega, t.2⟩
        · have := t.1
          exact Or.inr ⟨by omega, t.2.elim id (fun u => u.2.1), by rw [t.1]; exact y2⟩
      · rintro (t | t)
        · exact Or.inl (Or.inl t)
        · by_cases e : a = x
          · exact Or.inr ⟨e, Or.inl t.2.1⟩
          · exact Or.inl (Or.inr ⟨by omega, t.2⟩)
    · rw [if_pos y1]
      refine ⟨s, ⟨by omega, f, g1.cg (fun a y => or_congr Iff.rfl ⟨fun t => ⟨by omega, t.2⟩, fun t => ⟨?_, t.2⟩⟩)⟩, rfl⟩
      by_cases e : a = x
      · have := t.2.2
        rw [e] at this
        exact absurd (Or.inl this) y2
      · omega
  · have := (row a m t.2.2).1
    omega
theorem rf_or119 (q : Rk h M) (n : Rn h M b c w l v k r) (N : Nat) (hN : 1000 < N) {G : Nat → Nat → Prop} (g : Rx h (M + 39) G) : L_X10_onRings_119 N M N h 0 1 = some (h, nI (cntQ (fun x => 1 ≤ x ∧ G x x) (b + 1))) := by
  have hb := n.2.2.2.2.2.2.2.1
  refine lp_inv (G := fun F x (s : Int32) => L_X10_onRings_119 N M F h s (nI x)) (hi := b + 1) (Inv := fun x s => 1 ≤ x ∧ s = nI (cntQ (fun x => 1 ≤ x ∧ G x x) x)) (Q := fun o => o = some (h, nI (cntQ (fun x => 1 ≤ x ∧ G x x) (b + 1)))) ?_ ?_ b 1 N 0 (by omega) (by omega) (by omega) ⟨Nat.le_refl _, ?_⟩
  · intro F s hs
    show B_X10_onRings_119 N _ M h s (nI (b + 1)) = _
    unfold B_X10_onRings_119
    rw [n.1, if_pos ((ni_lt (by omega) (by omega)).mpr (by omega)), hs.2]
  · intro F x s hx hs
    left
    obtain ⟨z, e1, e2⟩ := rf_has N (o := h.gr 1357 M) (q.2 _ rt_1357).1 (q.2 _ rt_1357).2.1 (q.2 _ rt_1357).2.2 g (show x < 514 by omega) (show x < 514 by omega)
    have body : L_X10_onRings_119 N M (F + 1) h s (nI x) = if z = 0 then L_X10_onRings_119 N M F h (s + 0) (nI (x + 1)) else L_X10_onRings_119 N M F h (s + 1) (nI (x + 1)) := by
      show B_X10_onRings_119 N (L_X10_onRings_119 N M F) M h s (nI x) = _
      unfold B_X10_onRings_119
      rw [n.1, if_neg (by rw [ni_lt (by omega) (by omega)]; omega)]
      refine (bnd (by exact e1)).trans ?_
      show B_X10_onRings_137 N (L_X10_onRings_119 N M F) M h (nI x) s z = _
      unfold B_X10_onRings_137 B_X10_onRings_145
      rw [ni_inc]
    show ∃ s' : Int32, (1 ≤ x + 1 ∧ s' = nI (cntQ (fun x => 1 ≤ x ∧ G x x) x + _)) ∧ L_X10_onRings_119 N M (F + 1) h s (nI x) = L_X10_onRings_119 N M F h s' (nI (x + 1))
    rw [body]
    rcases e2 with ⟨y1, y2⟩ | ⟨y1, y2⟩
    · rw [if_neg (show ¬ z = 0 by rw [y1]; decide)]
      refine ⟨_, ⟨by omega, ?_⟩, rfl⟩
      rw [if_pos ⟨hs.1, y2⟩, hs.2, ni_inc]
    · rw [if_pos y1]
      refine ⟨_, ⟨by omega, ?_⟩, rfl⟩
      rw [if_neg (fun y => y2 y.2), hs.2]
      exact nI_add _ 0
  · show (0 : Int32) = nI (0 + _)
    rw [if_neg (show ¬ (1 ≤ 0 ∧ G 0 0) from fun y => absurd y.1 (by decide))]
    rfl
theorem rf_onRings (q : Rk h M) (n : Rn h M b c w l v k r) (N : Nat) (hN : 5000 < N) {P : Nat → Nat → Prop} (row : ∀ x y, P x y → 1 ≤ x ∧ x ≤ b) (g : Rx h (M + 38) P) : ∃ h', J_X10_onRings N M h = some (h', nI (cntQ (fun x => 1 ≤ x ∧ Pth P (b + 1) x x) (b + 1))) ∧ RfO [39] [] M h h' := by
  have hb := n.2.2.2.2.2.2.2.1
  have two : ∀ s, RfO [39] [] M h s → Rx s (M + 39) P → ∃ h', L_X10_onRings_31 N M N s 1 = some (h', nI (cntQ (fun x => 1 ≤ x ∧ Pth P (b + 1) x x) (b + 1))) ∧ RfO [39] [] M h h' := by
    intro s f g
    refine lp_inv (G := fun F m (s : Hp) => L_X10_onRings_31 N M F s (nI m)) (hi := b + 1) (Inv := fun m s => 1 ≤ m ∧ RfO [39] [] M h s ∧ Rx s (M + 39) (Pth P m)) (Q := fun o => ∃ h', o = some (h', nI (cntQ (fun x => 1 ≤ x ∧ Pth P (b + 1) x x) (b + 1))) ∧ RfO [39] [] M h h') ?_ ?_ b 1 N s (by omega) (by omega) (by omega) ⟨Nat.le_refl _, f, g.cg (fun a y => ⟨Or.inl, fun t => t.elim id (fun t => ?_)⟩)⟩
    · intro F s hs
      obtain ⟨_, f, g⟩ := hs
      refine ⟨s, ?_, f⟩
      show B_X10_onRings_31 N _ M s (nI (b + 1)) = _
      unfold B_X10_onRings_31
      have n' := f.rn n (fun _ _ z => by cases z)
      rw [n'.1, if_pos ((ni_lt (by omega) (by omega)).mpr (by omega))]
      exact rf_or119 (f.rk q) n' N (by omega) g
    · intro F m s hm hs
      obtain ⟨m1, f, g⟩ := hs
      left
      have n' := f.rn n (fun _ _ z => by cases z)
      obtain ⟨s', e1, e2, e3⟩ := rf_or41 (f.rk q) n' N (by omega) (L_X10_onRings_31 N M F) (show m ≤ b by omega) (Pth.row row m) g
      refine ⟨s', ⟨by omega, f.tr e2, e3⟩, ?_⟩
      show B_X10_onRings_31 N (L_X10_onRings_31 N M F) M s (nI m) = _
      unfold B_X10_onRings_31
      rw [n'.1, if_neg (by rw [ni_lt (by omega) (by omega)]; omega)]
      exact e1
    · have : 1 ≤ 0 := (row 0 y t.1).1
      omega
  refine lp_inv (G := fun F i (s : Hp) => L_X10_onRings_2 N M F s (nI i)) (hi := 4626) (Inv := fun i s => RfO [39] [] M h s ∧ ∀ j, j < i → s.bw (M + 39) j = h.bw (M + 38) j) (Q := fun o => ∃ h', o = some (h', nI (cntQ (fun x => 1 ≤ x ∧ Pth P (b + 1) x x) (b + 1))) ∧ RfO [39] [] M h h') ?_ ?_ 4626 0 N h (by omega) (by omega) (by omega) ⟨RfO.rf _ _ _ _, fun j hj => by omega⟩
  · intro F s hs
    have q' := hs.1.rk q
    obtain ⟨h', e1, e2⟩ := two s hs.1 (fun x y hx hy => by
      rw [hs.2 _ (by omega)]
      exact g x y hx hy)
    refine ⟨h', ?_, e2⟩
    show B_X10_onRings_2 N _ M s (nI 4626) = _
    unfold B_X10_onRings_2
    rw [rd_1357 q', ra_1357 q', if_pos ((ni_le (by omega) (by omega)).mpr (Nat.le_refl _))]
    exact e1
  · intro F i s hi hs
    left
    have q' := hs.1.rk q
    refine ⟨s.sbw (M + 39) i (h.bw (M + 38) i), ⟨hs.1.tr (RfO.sbw (k := 39) (by decide) _ _), fun j hj => ?_⟩, ?_⟩
    · rw [bw_at]
      by_cases e : j = i
      · rw [if_pos e, e]
      · rw [if_neg e]; exact hs.2 j (by omega)
    · show B_X10_onRings_2 N (L_X10_onRings_2 N M F) M s (nI i) = _
      unfold B_X10_onRings_2
      rw [rd_1357 q', rd_1356 q', rx_1356 q' (show i < 4626 by omega), rd_1357 q', rx_1357 q' (show i < 4626 by omega), ra_1357 q', if_neg (by rw [ni_le (by omega) (by omega)]; omega), ni_clp (show i < _ by omega), ni_inc, hs.1.bw (by decide)]
end RF33
