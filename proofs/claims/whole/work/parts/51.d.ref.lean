/-! draw -/
section RF30
variable {h : Hp} {M b c w l v k r : Nat}
def LtOk (h : Hp) (M b l : Nat) : Prop := ∀ i, i < l → ∃ u, 1 ≤ u ∧ u ≤ b ∧ h.bi (M + 16) i = nI u
/-- from a version to the next of its key -/
def eA (h : Hp) (M v i x y : Nat) : Prop := x < 514 ∧ y < 514 ∧ x ≠ y ∧ h.bi (M + 20) i = nI x ∧ ∃ j, nxtS (h.bi (M + 19)) v i (nI j) ∧ j < v ∧ h.bi (M + 20) j = nI y
def lkV (h : Hp) (M i u y : Nat) : Prop := h.bi (M + 16) u = nI y ∧ h.bi (M + 1) y = 2 ∧ ¬ h.bi (M + 19) i < h.bi (M + 17) u ∧ h.bi (M + 19) i ≤ h.bi (M + 18) u
/-- from a version to one that saw it -/
def eB (h : Hp) (M v i u x y : Nat) : Prop := x < 514 ∧ y < 514 ∧ x ≠ y ∧ h.bi (M + 20) i = nI x ∧ lkV h M i u y ∧ ¬ h.bi (M + 3) y < vMo h M i ∧ ∃ d, nxtS (h.bi (M + 19)) v i d ∧ (d = -1 ∨ ∃ j, d = nI j ∧ j < v ∧ ¬ vMo h M j ≤ h.bi (M + 3) y)
/-- from one that looked to the first version behind what it saw -/
def eC (h : Hp) (M i u x y : Nat) : Prop := x < 514 ∧ y < 514 ∧ x ≠ y ∧ h.bi (M + 20) i = nI y ∧ lkV h M i u x ∧ h.bi (M + 3) x < vMo h M i ∧ ∃ d, lastS (fun j => h.bi (M + 19) j = h.bi (M + 19) i) i d ∧ (d = -1 ∨ ∃ j, d = nI j ∧ j < i ∧ ¬ h.bi (M + 3) x < vMo h M j)
theorem nxtS.uniq {A : Nat → Int32} {v i : Nat} {x y : Int32} (p : nxtS A v i x) (q : nxtS A v i y) : x = y := by
  rcases p with ⟨p1, p2⟩ | ⟨a, p1, p2, p3, p4, p5⟩ <;> rcases q with ⟨q1, q2⟩ | ⟨d, q1, q2, q3, q4, q5⟩
  · rw [p1, q1]
  · exact absurd q4 (p2 d q1 q2)
  · exact absurd p4 (q2 a p1 p2)
  · have : a = d := by
      rcases Nat.lt_trichotomy a d with z | z | z
      · exact absurd p4 (q5 a p1 z)
      · exact z
      · exact absurd q4 (p5 d q1 z)
    rw [p3, q3, this]
theorem nxtS.pl {A : Nat → Int32} {v i : Nat} {x : Int32} (p : nxtS A v i x) : x = -1 ∨ ∃ j, x = nI j ∧ j < v := by
  rcases p with ⟨p1, _⟩ | ⟨a, _, p2, p3, _⟩
  · exact Or.inl p1
  · exact Or.inr ⟨a, p3, p2⟩
theorem lastS.pl {P : Nat → Prop} {i : Nat} {x : Int32} (p : lastS P i x) : x = -1 ∨ ∃ j, x = nI j ∧ j < i := by
  rcases p with ⟨p1, _⟩ | ⟨a, p2, p3, _⟩
  · exact Or.inl p1
  · exact Or.inr ⟨a, p3, p2⟩
theorem rf_dr70 (q : Rk h M) (n : Rn h M b c w l v k r) (N : Nat) (g : VtOk h M b v) (k26 : Hp → Int32 → Option (Hp × Unit)) (F : Nat) {i u y : Nat} (hi : i < v) (hu : u < l) (hy : y ≤ b) (ey : h.bi (M + 16) u = nI y) {dn dl : Int32} (en : nxtS (h.bi (M + 19)) v i dn) (el : lastS (fun j => h.bi (M + 19) j = h.bi (M + 19) i) i dl) {s : Hp} (f : RfO [38] [] M h s) {P : Nat → Nat → Prop} (m : Rx s (M + 38) P) : ∃ s', L_X10_draw_70 N k26 M (F + 1) s (nI i) dn dl (nI u) = L_X10_draw_70 N k26 M F s' (nI i) dn dl (nI (u + 1)) ∧ RfO [38] [] M h s' ∧ Rx s' (M + 38) (fun x z => P x z ∨ eB h M v i u x z ∨ eC h M i u x z) := by
  have hb := n.2.2.2.2.2.2.2.1
  have hv := n.2.2.2.2.2.2.2.2.2.2.2.1
  have hl := n.2.2.2.2.2.2.2.2.2.2.1
  obtain ⟨x, x1, x2, x3⟩ := g i hi
  have no38 : ∀ {s : Hp}, RfO [38] [] M h s → Rk s M ∧ Rn s M b c w l v k r ∧ VtOk s M b v ∧ s.bi = s.bi ∧ (∀ j, j ≠ 38 → s.bi (M + j) = h.bi (M + j)) ∧ ∀ j, vMo s M j = vMo h M j := fun f => ⟨f.rk q, f.rn n (fun _ _ z => by cases z), g.con f (by decide), rfl, fun j hj => f.bi (by simp [hj]), fun j => vMo.con f (by decide) (by decide) j⟩
  have uq : ∀ {z : Nat}, z < 2147483648 → h.bi (M + 16) u = nI z → z = y := fun hz e => (ni_inj hz (by omega)).mp (e.symm.trans ey)
  have ux : ∀ {z : Nat}, z < 2147483648 → h.bi (M + 20) i = nI z → z = x := fun hz e => (ni_inj hz (by omega)).mp (e.symm.trans x3)
  have c218 : ∀ (s : Hp) (P : Nat → Nat → Prop), RfO [38] [] M h s → Rx s (M + 38) P → ∃ s', B_X10_draw_218 N k26 (L_X10_draw_70 N k26 M F) M s (nI i) dn dl (nI u) (nI y) = L_X10_draw_70 N k26 M F s' (nI i) dn dl (nI (u + 1)) ∧ RfO [38] [] M h s' ∧ Rx s' (M + 38) (fun a d => P a d ∨ (a = y ∧ d = x ∧ y ≠ x)) := by
    intro s P f m
    obtain ⟨q', n', g', _, e', v'⟩ := no38 f
    obtain ⟨s', e1, e2, e3⟩ := rf_joins q' N (show y < 514 by omega) (show x < 514 by omega) m
    refine ⟨s', ?_, f.tr e2, e3⟩
    unfold B_X10_draw_218
    rw [rd_1325 q', rx_1325 q' (show i < 514 by omega), ni_clp (show i < _ by omega), e' 20 (by decide), x3]
    refine (bnd (by exact e1)).trans ?_
    unfold B_X10_draw_230
    rw [ni_inc]
  have c193 : ∀ (s : Hp) (P : Nat → Nat → Prop) (fl : Int32), RfO [38] [] M h s → Rx s (M + 38) P → ∃ s', B_X10_draw_193 N k26 (L_X10_draw_70 N k26 M F) M s (nI i) dn dl (nI u) (nI y) fl = L_X10_draw_70 N k26 M F s' (nI i) dn dl (nI (u + 1)) ∧ RfO [38] [] M h s' ∧ Rx s' (M + 38) (fun a d => P a d ∨ (fl = 0 ∧ (dl = -1 ∨ ∃ j, dl = nI j ∧ j < i ∧ ¬ h.bi (M + 3) y < vMo h M j) ∧ a = y ∧ d = x ∧ y ≠ x)) := by
    intro s P fl f m
    obtain ⟨q', n', g', _, e', v'⟩ := no38 f
    obtain ⟨s', e1, e2, e3⟩ := c218 s P f m
    unfold B_X10_draw_193
    by_cases z : fl = 0
    · rw [if_pos z]
      rcases el.pl with z1 | ⟨j, z1, z2⟩
      · rw [if_pos z1]
        exact ⟨s', e1, e2, e3.cg (fun a d => or_congr Iff.rfl ⟨fun t => ⟨z, Or.inl z1, t⟩, fun t => t.2.2⟩)⟩
      · rw [if_neg (by rw [z1]; exact ni_m1 (by omega)), z1]
        have st : ∀ {o : Option (Hp × Unit)}, B_X10_draw_208 N k26 (L_X10_draw_70 N k26 M F) M s (nI i) dn (nI j) (nI u) (nI y) (vMo h M j) = o → (J_X10_momentOf N M s (nI j)).bind (fun z => B_X10_draw_208 N k26 (L_X10_draw_70 N k26 M F) M z.1 (nI i) dn (nI j) (nI u) (nI y) z.2) = o := by
          intro o ho
          refine (bnd (rf_momentOf q' n' N g' (show j < v by omega))).trans ?_
          rw [v' j]
          exact ho
        rw [z1] at e1
        by_cases z3 : h.bi (M + 3) y < vMo h M j
        · refine ⟨s, st ?_, f, m.cg (fun a d => ⟨Or.inl, fun t => t.elim id (fun t => ?_)⟩)⟩
          · unfold B_X10_draw_208 B_X10_draw_230
            rw [rd_1303 q', rx_1303 q' (show y < 514 by omega), ni_clp (show y < _ by omega), e' 3 (by decide), if_pos z3, ni_inc]
          · rcases t.2.1 with t1 | ⟨j', t1, t2, t3⟩
            · exact absurd t1 (ni_m1 (by omega))
            · have := (ni_inj (by omega) (by omega)).mp t1
              rw [← this] at t3
              exact absurd z3 t3
        · refine ⟨s', st ?_, e2, e3.cg (fun a d => or_congr Iff.rfl ⟨fun t => ⟨z, Or.inr ⟨j, rfl, z2, z3⟩, t⟩, fun t => t.2.2⟩)⟩
          unfold B_X10_draw_208
          rw [rd_1303 q', rx_1303 q' (show y < 514 by omega), ni_clp (show y < _ by omega), e' 3 (by decide), if_neg z3]
          exact e1
    · rw [if_neg z]
      refine ⟨s, ?_, f, m.cg (fun a d => ⟨Or.inl, fun t => t.elim id (fun t => absurd t.1 z)⟩)⟩
      unfold B_X10_draw_230
      rw [ni_inc]
  have c154 : ∀ (s : Hp) (P : Nat → Nat → Prop) (fl : Int32), RfO [38] [] M h s → Rx s (M + 38) P → ∃ s', B_X10_draw_154 N k26 (L_X10_draw_70 N k26 M F) M s (nI i) dn dl (nI u) (nI y) fl = L_X10_draw_70 N k26 M F s' (nI i) dn dl (nI (u + 1)) ∧ RfO [38] [] M h s' ∧ Rx s' (M + 38) (fun a d => (P a d ∨ (fl ≠ 0 ∧ (dn = -1 ∨ ∃ j, dn = nI j ∧ j < v ∧ ¬ vMo h M j ≤ h.bi (M + 3) y) ∧ a = x ∧ d = y ∧ x ≠ y)) ∨ (fl = 0 ∧ (dl = -1 ∨ ∃ j, dl = nI j ∧ j < i ∧ ¬ h.bi (M + 3) y < vMo h M j) ∧ a = y ∧ d = x ∧ y ≠ x)) := by
    intro s P fl f m
    obtain ⟨q', n', g', _, e', v'⟩ := no38 f
    unfold B_X10_draw_154
    by_cases z : fl = 0
    · rw [if_pos z]
      obtain ⟨s', e1, e2, e3⟩ := c193 s P fl f m
      exact ⟨s', e1, e2, e3.cg (fun a d => or_congr ⟨Or.inl, fun t => t.elim id (fun t => absurd z t.1)⟩ Iff.rfl)⟩
    · rw [if_neg z]
      have c181 : ∃ s', B_X10_draw_181 N k26 (L_X10_draw_70 N k26 M F) M s (nI i) dn dl (nI u) (nI y) fl = L_X10_draw_70 N k26 M F s' (nI i) dn dl (nI (u + 1)) ∧ RfO [38] [] M h s' ∧ Rx s' (M + 38) (fun a d => (P a d ∨ (a = x ∧ d = y ∧ x ≠ y)) ∨ (fl = 0 ∧ (dl = -1 ∨ ∃ j, dl = nI j ∧ j < i ∧ ¬ h.bi (M + 3) y < vMo h M j) ∧ a = y ∧ d = x ∧ y ≠ x)) := by
        obtain ⟨s1, e1, e2, e3⟩ := rf_joins q' N (show x < 514 by omega) (show y < 514 by omega) m
        obtain ⟨s', d1, d2, d3⟩ := c193 s1 _ fl (f.tr e2) e3
        refine ⟨s', ?_, d2, d3⟩
        unfold B_X10_draw_181
        rw [rd_1325 q', rx_1325 q' (show i < 514 by omega), ni_clp (show i < _ by omega), e' 20 (by decide), x3]
        refine (bnd (by exact e1)).trans ?_
        exact d1
      obtain ⟨s', e1, e2, e3⟩ := c181
      rcases en.pl with z1 | ⟨j, z1, z2⟩
      · rw [if_pos z1]
        exact ⟨s', e1, e2, e3.cg (fun a d => or_congr (or_congr Iff.rfl ⟨fun t => ⟨z, Or.inl z1, t⟩, fun t => t.2.2⟩) Iff.rfl)⟩
      · rw [if_neg (by rw [z1]; exact ni_m1 (by omega)), z1]
        have st : ∀ {o : Option (Hp × Unit)}, B_X10_draw_171 N k26 (L_X10_draw_70 N k26 M F) M s (nI i) (nI j) dl (nI u) (nI y) fl (vMo h M j) = o → (J_X10_momentOf N M s (nI j)).bind (fun z => B_X10_draw_171 N k26 (L_X10_draw_70 N k26 M F) M z.1 (nI i) (nI j) dl (nI u) (nI y) fl z.2) = o := by
          intro o ho
          refine (bnd (rf_momentOf q' n' N g' z2)).trans ?_
          rw [v' j]
          exact ho
        rw [z1] at e1
        by_cases z3 : vMo h M j ≤ h.bi (M + 3) y
        · obtain ⟨s2, d1, d2, d3⟩ := c193 s P fl f m
          rw [z1] at d1
          refine ⟨s2, st ?_, d2, d3.cg (fun a d => or_congr ⟨Or.inl, fun t => t.elim id (fun t => ?_)⟩ Iff.rfl)⟩
          · unfold B_X10_draw_171
            rw [rd_1303 q', rx_1303 q' (show y < 514 by omega), ni_clp (show y < _ by omega), e' 3 (by decide), if_pos z3]
            exact d1
          · rcases t.2.1 with t1 | ⟨j', t1, t2, t3⟩
            · exact absurd t1 (ni_m1 (by omega))
            · have := (ni_inj (by omega) (by omega)).mp t1
              rw [← this] at t3
              exact absurd z3 t3
        · refine ⟨s', st ?_, e2, e3.cg (fun a d => or_congr (or_congr Iff.rfl ⟨fun t => ⟨z, Or.inr ⟨j, rfl, z2, z3⟩, t⟩, fun t => t.2.2⟩) Iff.rfl)⟩
          unfold B_X10_draw_171
          rw [rd_1303 q', rx_1303 q' (show y < 514 by omega), ni_clp (show y < _ by omega), e' 3 (by decide), if_neg z3]
          exact e1
  obtain ⟨q', n', g', _, e', v'⟩ := no38 f
  have body : L_X10_draw_70 N k26 M (F + 1) s (nI i) dn dl (nI u) = if h.bi (M + 1) y = 2 then (if h.bi (M + 19) i < h.bi (M + 17) u then L_X10_draw_70 N k26 M F s (nI i) dn dl (nI (u + 1)) else if h.bi (M + 19) i ≤ h.bi (M + 18) u then (if h.bi (M + 3) y < vMo h M i then B_X10_draw_154 N k26 (L_X10_draw_70 N k26 M F) M s (nI i) dn dl (nI u) (nI y) 0 else B_X10_draw_154 N k26 (L_X10_draw_70 N k26 M F) M s (nI i) dn dl (nI u) (nI y) 1) else L_X10_draw_70 N k26 M F s (nI i) dn dl (nI (u + 1))) else L_X10_draw_70 N k26 M F s (nI i) dn dl (nI (u + 1)) := by
    show B_X10_draw_70 N k26 (L_X10_draw_70 N k26 M F) M s (nI i) dn dl (nI u) = _
    unfold B_X10_draw_70 B_X10_draw_230
    rw [n'.2.2.2.1, if_neg (by rw [ni_le (by omega) (by omega)]; omega), rd_1320 q', rx_1320 q' (show u < 514 by omega), ni_clp (show u < _ by omega), e' 16 (by decide), ey, rd_1301 q', rx_1301 q' (show y < 514 by omega), ni_clp (show y < _ by omega), e' 1 (by decide), rd_1324 q', rx_1324 q' (show i < 514 by omega), rd_1321 q', ry_1321 q' (show u < 514 by omega), ni_clp (show i < _ by omega), rd_1324 q', ry_1324 q' (show i < 514 by omega), rd_1322 q', ry_1322 q' (show u < 514 by omega), e' 19 (by decide), e' 17 (by decide), e' 18 (by decide), ni_inc]
    by_cases z1 : h.bi (M + 1) y = 2
    · rw [if_pos z1, if_pos z1]
      by_cases z2 : h.bi (M + 19) i < h.bi (M + 17) u
      · rw [if_pos z2, if_pos z2]
      · rw [if_neg z2, if_neg z2]
        by_cases z3 : h.bi (M + 19) i ≤ h.bi (M + 18) u
        · rw [if_pos z3, if_pos z3]
          refine (bnd (by exact rf_momentOf q' n' N g' hi)).trans ?_
          unfold B_X10_draw_139
          rw [rd_1303 q', rx_1303 q' (show y < 514 by omega), ni_clp (show y < _ by omega), e' 3 (by decide), v' i]
        · rw [if_neg z3, if_neg z3]
    · rw [if_neg z1, if_neg z1]
  have nope : ¬ lkV h M i u y → ∀ a d, (P a d ↔ P a d ∨ eB h M v i u a d ∨ eC h M i u a d) := by
    intro z a d
    refine ⟨Or.inl, fun t => t.elim id (fun t => t.elim (fun t => ?_) (fun t => ?_))⟩
    · obtain ⟨_, t1, _, _, t3, _⟩ := t
      rw [uq (by omega) t3.1] at t3
      exact absurd t3 z
    · obtain ⟨t1, _, _, _, t3, _⟩ := t
      rw [uq (by omega) t3.1] at t3
      exact absurd t3 z
  have yes : ∀ (fl : Int32), lkV h M i u y → ((fl = 0 ∧ h.bi (M + 3) y < vMo h M i) ∨ (fl ≠ 0 ∧ ¬ h.bi (M + 3) y < vMo h M i)) → ∀ a d, (((P a d ∨ (fl ≠ 0 ∧ (dn = -1 ∨ ∃ j, dn = nI j ∧ j < v ∧ ¬ vMo h M j ≤ h.bi (M + 3) y) ∧ a = x ∧ d = y ∧ x ≠ y)) ∨ (fl = 0 ∧ (dl = -1 ∨ ∃ j, dl = nI j ∧ j < i ∧ ¬ h.bi (M + 3) y < vMo h M j) ∧ a = y ∧ d = x ∧ y ≠ x)) ↔ P a d ∨ eB h M v i u a d ∨ eC h M i u a d) := by
    intro fl lk fe a d
    rw [or_assoc]
    refine or_congr Iff.rfl (or_congr ⟨?_, ?_⟩ ⟨?_, ?_⟩)
    · rintro ⟨t1, t2, t3, t4, t5⟩
      rw [t3, t4]
      refine ⟨by omega, by omega, t5, x3, lk, ?_, dn, en, t2⟩
      rcases fe with e | e
      · exact absurd e.1 t1
      · exact e.2
    · rintro ⟨t1, t2, t3, t4, t5, t6, d0, t7, t8⟩
      have ea := ux (by omega) t4
      have ed := uq (by omega) t5.1
      rw [ea, ed] at t3
      rw [ed] at t6 t8
      rw [t7.uniq en] at t8
      refine ⟨?_, t8, ea, ed, t3⟩
      rcases fe with e | e
      · exact absurd e.2 t6
      · exact e.1
    · rintro ⟨t1, t2, t3, t4, t5⟩
      rw [t3, t4]
      refine ⟨by omega, by omega, t5, x3, lk, ?_, dl, el, t2⟩
      rcases fe with e | e
      · exact e.2
      · exact absurd t1 e.1
    · rintro ⟨t1, t2, t3, t4, t5, t6, d0, t7, t8⟩
      have ed := ux (by omega) t4
      have ea := uq (by omega) t5.1
      rw [ea, ed] at t3
      rw [ea] at t6 t8
      rw [t7.uniq el] at t8
      refine ⟨?_, t8, ea, ed, t3⟩
      rcases fe with e | e
      · exact e.1
      · exact absurd t6 e.2
  rw [body]
  by_cases z1 : h.bi (M + 1) y = 2
  · rw [if_pos z1]
    by_cases z2 : h.bi (M + 19) i < h.bi (M + 17) u
    · rw [if_pos z2]
      exact ⟨s, rfl, f, m.cg (nope (fun t => t.2.2.1 z2))⟩
    · rw [if_neg z2]
      by_cases z3 : h.bi (M + 19) i ≤ h.bi (M + 18) u
      · rw [if_pos z3]
        by_cases z4 : h.bi (M + 3) y < vMo h M i
        · rw [if_pos z4]
          obtain ⟨s', e1, e2, e3⟩ := c154 s P 0 f m
          exact ⟨s', e1, e2, e3.cg (yes 0 ⟨ey, z1, z2, z3⟩ (Or.inl ⟨rfl, z4⟩))⟩
        · rw [if_neg z4]
          obtain ⟨s', e1, e2, e3⟩ := c154 s P 1 f m
          exact ⟨s', e1, e2, e3.cg (yes 1 ⟨ey, z1, z2, z3⟩ (Or.inr ⟨by decide, z4⟩))⟩
      · rw [if_neg z3]
        exact ⟨s, rfl, f, m.cg (nope (fun t => z3 t.2.2.2))⟩
  · rw [if_neg z1]
    exact ⟨s, rfl, f, m.cg (nope (fun t => z1 t.2.1))⟩
/-- what draw draws -/
def eD (h : Hp) (M l v n x y : Nat) : Prop := ∃ i, i < n ∧ (eA h M v i x y ∨ ∃ u, u < l ∧ (eB h M v i u x y ∨ eC h M i u x y))
theorem rf_dr26 (q : Rk h M) (n : Rn h M b c w l v k r) (N : Nat) (hN : 1000 < N) (g : VtOk h M b v) (gl : LtOk h M b l) (F : Nat) {i : Nat} (hi : i < v) {s : Hp} (f : RfO [38] [] M h s) (m : Rx s (M + 38) (eD h M l v i)) : ∃ s', L_X10_draw_26 N M (F + 1) s (nI i) = L_X10_draw_26 N M F s' (nI (i + 1)) ∧ RfO [38] [] M h s' ∧ Rx s' (M + 38) (eD h M l v (i + 1)) := by
  have hb := n.2.2.2.2.2.2.2.1
  have hv := n.2.2.2.2.2.2.2.2.2.2.2.1
  have hl := n.2.2.2.2.2.2.2.2.2.2.1
  have q' := f.rk q
  have n' := f.rn n (fun _ _ z => by cases z)
  have e19 : s.bi (M + 19) = h.bi (M + 19) := f.bi (by decide)
  have e20 : s.bi (M + 20) = h.bi (M + 20) := f.bi (by decide)
  obtain ⟨x, x1, x2, x3⟩ := g i hi
  obtain ⟨dn, en1, en⟩ := rf_nextOf q' n' N hN hi
  obtain ⟨dl, el1, el⟩ := rf_lastOf q' n' N hN hi
  rw [e19] at en el
  have s1 : ∃ s1, L_X10_draw_26 N M (F + 1) s (nI i) = B_X10_draw_67 N (L_X10_draw_26 N M F) M s1 (nI i) dn dl ∧ RfO [38] [] M h s1 ∧ Rx s1 (M + 38) (fun a d => eD h M l v i a d ∨ eA h M v i a d) := by
    have st : ∀ {o : Option (Hp × Unit)}, B_X10_draw_45 N (L_X10_draw_26 N M F) M s (nI i) dn dl = o → L_X10_draw_26 N M (F + 1) s (nI i) = o := by
      intro o ho
      show B_X10_draw_26 N (L_X10_draw_26 N M F) M s (nI i) = o
      unfold B_X10_draw_26
      rw [n'.2.2.2.2.1, if_neg (by rw [ni_le (by omega) (by omega)]; omega)]
      refine (bnd (by exact en1)).trans ?_
      unfold B_X10_draw_39
      refine (bnd (by exact el1)).trans ?_
      exact ho
    rcases en.pl with z | ⟨j, z, z2⟩
    · refine ⟨s, st ?_, f, m.cg (fun a d => ⟨Or.inl, fun t => t.elim id (fun t => ?_)⟩)⟩
      · unfold B_X10_draw_45
        exact if_pos z
      · obtain ⟨_, _, _, _, j, t1, t2, _⟩ := t
        exact absurd ((t1.uniq en).trans z) (ni_m1 (by omega))
    · obtain ⟨y, y1, y2, y3⟩ := g j z2
      obtain ⟨s', e1, e2, e3⟩ := rf_joins q' N (show x < 514 by omega) (show y < 514 by omega) m
      refine ⟨s', st ?_, f.tr e2, e3.cg (fun a d => or_congr Iff.rfl ⟨?_, ?_⟩)⟩
      · unfold B_X10_draw_45
        rw [if_neg (by rw [z]; exact ni_m1 (by omega)), z, rd_1325 q', rx_1325 q' (show i < 514 by omega), rd_1325 q', rx_1325 q' (show j < 514 by omega), ni_clp (show i < _ by omega), ni_clp (show j < _ by omega), e20, x3, y3]
        refine (bnd (by exact e1)).trans ?_
        rfl
      · rintro ⟨t1, t2, t3⟩
        rw [t1, t2]
        exact ⟨by omega, by omega, t3, x3, j, by rw [← z]; exact en, z2, y3⟩
      · rintro ⟨t1, t2, t3, t4, j', t5, t6, t7⟩
        have := (ni_inj (by omega) (by omega)).mp ((t5.uniq en).trans z)
        rw [this] at t7
        have ea := (ni_inj (by omega) (by omega)).mp (t4.symm.trans x3)
        have ed := (ni_inj (by omega) (by omega)).mp (t7.symm.trans y3)
        rw [ea, ed] at t3
        exact ⟨ea, ed, t3⟩
  obtain ⟨s1, a1, a2, a3⟩ := s1
  rw [a1]
  have key := lp_inv (G := fun F' u (s : Hp) => L_X10_draw_70 N (L_X10_draw_26 N M F) M F' s (nI i) dn dl (nI u)) (hi := l) (Inv := fun u s => RfO [38] [] M h s ∧ Rx s (M + 38) (fun a d => (eD h M l v i a d ∨ eA h M v i a d) ∨ ∃ u', u' < u ∧ (eB h M v i u' a d ∨ eC h M i u' a d))) (Q := fun o => ∃ s', o = L_X10_draw_26 N M F s' (nI (i + 1)) ∧ RfO [38] [] M h s' ∧ Rx s' (M + 38) (eD h M l v (i + 1))) ?_ ?_ l 0 N s1 (by omega) (by omega) (by omega) ⟨a2, a3.cg (fun a d => ⟨Or.inl, fun t => t.elim id (fun ⟨u, hu, _⟩ => by omega)⟩)⟩
  · exact key
  · intro F' s hs
    refine ⟨s, ?_, hs.1, hs.2.cg (fun a d => ⟨?_, ?_⟩)⟩
    · show B_X10_draw_70 N _ _ M s (nI i) dn dl (nI l) = _
      unfold B_X10_draw_70
      rw [(hs.1.rn n (fun _ _ z => by cases z)).2.2.2.1, if_pos ((ni_le (by omega) (by omega)).mpr (Nat.le_refl _)), ni_inc]
    · rintro ((⟨i', t1, t2⟩ | t) | t)
      · exact ⟨i', by omega, t2⟩
      · exact ⟨i, by omega, Or.inl t⟩
      · exact ⟨i, by omega, Or.inr t⟩
    · rintro ⟨i', t1, t2⟩
      by_cases e : i' = i
      · rw [e] at t2
        exact t2.elim (fun t => Or.inl (Or.inr t)) Or.inr
      · exact Or.inl (Or.inl ⟨i', by omega, t2⟩)
  · intro F' u s hu hs
    left
    obtain ⟨y, y1, y2, y3⟩ := gl u hu
    obtain ⟨s', e1, e2, e3⟩ := rf_dr70 q n N g (L_X10_draw_26 N M F) F' hi hu y2 y3 en el hs.1 hs.2
    refine ⟨s', ⟨e2, e3.cg (fun a d => ⟨?_, ?_⟩)⟩, e1⟩
    · rintro ((t | ⟨u', t1, t2⟩) | t)
      · exact Or.inl t
      · exact Or.inr ⟨u', by omega, t2⟩
      · exact Or.inr ⟨u, by omega, t⟩
    · rintro (t | ⟨u', t1, t2⟩)
      · exact Or.inl (Or.inl t)
      · by_cases e : u' = u
        · rw [e] at t2; exact Or.inr t2
        · exact Or.inl (Or.inr ⟨u', by omega, t2⟩)
theorem rf_draw (q : Rk h M) (n : Rn h M b c w l v k r) (N : Nat) (hN : 5000 < N) (g : VtOk h M b v) (gl : LtOk h M b l) : ∃ h', J_X10_draw N M h = some (h', ()) ∧ RfO [38] [] M h h' ∧ Rx h' (M + 38) (eD h M l v v) := by
  have hv := n.2.2.2.2.2.2.2.2.2.2.2.1
  have two : ∀ s, RfO [38] [] M h s → Rx s (M + 38) (eD h M l v 0) → ∃ h', L_X10_draw_26 N M N s (nI 0) = some (h', ()) ∧ RfO [38] [] M h h' ∧ Rx h' (M + 38) (eD h M l v v) := by
    intro s f m
    refine lp_inv (G := fun F i (s : Hp) => L_X10_draw_26 N M F s (nI i)) (hi := v) (Inv := fun i s => RfO [38] [] M h s ∧ Rx s (M + 38) (eD h M l v i)) (Q := fun o => ∃ h', o = some (h', ()) ∧ RfO [38] [] M h h' ∧ Rx h' (M + 38) (eD h M l v v)) ?_ ?_ v 0 N s (by omega) (by omega) (by omega) ⟨f, m⟩
    · intro F s hs
      refine ⟨s, ?_, hs⟩
      show B_X10_draw_26 N _ M s (nI v) = _
      unfold B_X10_draw_26
      rw [(hs.1.rn n (fun _ _ z => by cases z)).2.2.2.2.1]
      exact if_pos ((ni_le (by omega) (by omega)).mpr (Nat.le_refl _))
    · intro F i s hi hs
      left
      obtain ⟨s', e1, e2, e3⟩ := rf_dr26 q n N (by omega) g gl F hi hs.1 hs.2
      exact ⟨s', ⟨e2, e3⟩, e1⟩
  refine lp_inv (G := fun F i (s : Hp) => L_X10_draw_2 N M F s (nI i)) (hi := 4626) (Inv := fun i s => RfO [38] [] M h s ∧ ∀ j, j < i → s.bw (M + 38) j = 0) (Q := fun o => ∃ h', o = some (h', ()) ∧ RfO [38] [] M h h' ∧ Rx h' (M + 38) (eD h M l v v)) ?_ ?_ 4626 0 N h (by omega) (by omega) (by omega) ⟨RfO.rf _ _ _ _, fun j hj => by omega⟩
  · intro F s hs
    have q' := hs.1.rk q
    obtain ⟨h', e1, e2⟩ := two s hs.1 (fun x y hx hy => by
      rw [hs.2 _ (by omega), bt_0]
      exact ⟨fun t => (by cases t), fun ⟨i, hi, _⟩ => by omega⟩)
    refine ⟨h', ?_, e2⟩
    show B_X10_draw_2 N _ M s (nI 4626) = _
    unfold B_X10_draw_2
    rw [rd_1356 q', ra_1356 q', if_pos ((ni_le (by omega) (by omega)).mpr (Nat.le_refl _))]
    exact e1
  · intro F i s hi hs
    left
    have q' := hs.1.rk q
    refine ⟨s.sbw (M + 38) i 0, ⟨hs.1.tr (RfO.sbw (k := 38) (by decide) _ _), fun j hj => ?_⟩, ?_⟩
    · rw [bw_at]
      by_cases e : j = i
      · rw [if_pos e]
      · rw [if_neg e]; exact hs.2 j (by omega)
    · show B_X10_draw_2 N (L_X10_draw_2 N M F) M s (nI i) = _
      unfold B_X10_draw_2
      rw [rd_1356 q', rd_1356 q', rx_1356 q' (show i < 4626 by omega), ra_1356 q', if_neg (by rw [ni_le (by omega) (by omega)]; omega), ni_clp (show i < _ by omega), ni_inc]
end RF30
