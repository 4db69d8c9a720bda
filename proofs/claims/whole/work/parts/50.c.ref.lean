/-! loops, frames, outOf, mayNot, atMoment -/
theorem lp_inv {S A : Type} {G : Nat → Nat → S → A} {hi : Nat} {Inv : Nat → S → Prop} {Q : A → Prop} (base : ∀ F s, Inv hi s → Q (G (F + 1) hi s)) (step : ∀ F i s, i < hi → Inv i s → (∃ s', Inv (i + 1) s' ∧ G (F + 1) i s = G F (i + 1) s') ∨ Q (G (F + 1) i s)) : ∀ (d i F : Nat) (s : S), d = hi - i → i ≤ hi → d < F → Inv i s → Q (G F i s) := by
  intro d
  induction d with
  | zero =>
    intro i F s hd hi' hF hs
    obtain ⟨F, rfl⟩ : ∃ F', F = F' + 1 := ⟨F - 1, by omega⟩
    have e : i = hi := by omega
    rw [e] at hs ⊢
    exact base F s hs
  | succ d ih =>
    intro i F s hd hi' hF hs
    obtain ⟨F, rfl⟩ : ∃ F', F = F' + 1 := ⟨F - 1, by omega⟩
    rcases step F i s (by omega) hs with ⟨s', h1, h2⟩ | h1
    · rw [h2]; exact ih (i + 1) F s' (by omega) (by omega) (by omega) h1
    · exact h1
/-- a loop that runs down: i stands for 'i - 1 is next' -/
theorem lp_dn {S A : Type} {G : Nat → Nat → S → A} {Inv : Nat → S → Prop} {Q : A → Prop} (base : ∀ F s, Inv 0 s → Q (G (F + 1) 0 s)) (step : ∀ F i s, Inv (i + 1) s → (∃ s', Inv i s' ∧ G (F + 1) (i + 1) s = G F i s') ∨ Q (G (F + 1) (i + 1) s)) : ∀ (i F : Nat) (s : S), i < F → Inv i s → Q (G F i s) := by
  intro i
  induction i with
  | zero =>
    intro F s hF hs
    obtain ⟨F, rfl⟩ : ∃ F', F = F' + 1 := ⟨F - 1, by omega⟩
    exact base F s hs
  | succ d ih =>
    intro F s hF hs
    obtain ⟨F, rfl⟩ : ∃ F', F = F' + 1 := ⟨F - 1, by omega⟩
    rcases step F d s hs with ⟨s', h1, h2⟩ | h1
    · rw [h2]; exact ih F s' (by omega) h1
    · exact h1
/-- the reference wrote only the arrays A and the fields G -/
def RfO (A G : List Nat) (M : Nat) (h h' : Hp) : Prop := h'.nx = h.nx ∧ h'.su = h.su ∧ h'.se = h.se ∧ h'.kd = h.kd ∧ h'.al = h.al ∧ h'.gr = h.gr ∧ (∀ f, f ∉ G → h'.gi f M = h.gi f M) ∧ (∀ f, f ∉ G → h'.gl f M = h.gl f M) ∧ (∀ k, k ∉ A → h'.bi (M + k) = h.bi (M + k)) ∧ (∀ k, k ∉ A → h'.bw (M + k) = h.bw (M + k))
theorem RfO.rf (A G : List Nat) (M : Nat) (h : Hp) : RfO A G M h h := ⟨rfl, rfl, rfl, rfl, rfl, rfl, fun _ _ => rfl, fun _ _ => rfl, fun _ _ => rfl, fun _ _ => rfl⟩
theorem RfO.tr {A G : List Nat} {M : Nat} {h1 h2 h3 : Hp} (a : RfO A G M h1 h2) (b : RfO A G M h2 h3) : RfO A G M h1 h3 := by
  obtain ⟨a1, a2, a3, a4, a5, a6, a7, a8, a9, a10⟩ := a
  obtain ⟨b1, b2, b3, b4, b5, b6, b7, b8, b9, b10⟩ := b
  exact ⟨b1.trans a1, b2.trans a2, b3.trans a3, b4.trans a4, b5.trans a5, b6.trans a6, fun f z => (b7 f z).trans (a7 f z), fun f z => (b8 f z).trans (a8 f z), fun f z => (b9 f z).trans (a9 f z), fun f z => (b10 f z).trans (a10 f z)⟩
theorem RfO.mono {A G A' G' : List Nat} {M : Nat} {h1 h2 : Hp} (a : RfO A G M h1 h2) (hA : ∀ x ∈ A, x ∈ A') (hG : ∀ x ∈ G, x ∈ G') : RfO A' G' M h1 h2 := by
  obtain ⟨a1, a2, a3, a4, a5, a6, a7, a8, a9, a10⟩ := a
  exact ⟨a1, a2, a3, a4, a5, a6, fun f z => a7 f (fun y => z (hG _ y)), fun f z => a8 f (fun y => z (hG _ y)), fun f z => a9 f (fun y => z (hA _ y)), fun f z => a10 f (fun y => z (hA _ y))⟩
theorem RfO.gi {A G : List Nat} {M : Nat} {h1 h2 : Hp} (a : RfO A G M h1 h2) {f : Nat} (z : f ∉ G) : h2.gi f M = h1.gi f M := a.2.2.2.2.2.2.1 f z
theorem RfO.gl {A G : List Nat} {M : Nat} {h1 h2 : Hp} (a : RfO A G M h1 h2) {f : Nat} (z : f ∉ G) : h2.gl f M = h1.gl f M := a.2.2.2.2.2.2.2.1 f z
theorem RfO.bi {A G : List Nat} {M : Nat} {h1 h2 : Hp} (a : RfO A G M h1 h2) {k : Nat} (z : k ∉ A) : h2.bi (M + k) = h1.bi (M + k) := a.2.2.2.2.2.2.2.2.1 k z
theorem RfO.bw {A G : List Nat} {M : Nat} {h1 h2 : Hp} (a : RfO A G M h1 h2) {k : Nat} (z : k ∉ A) : h2.bw (M + k) = h1.bw (M + k) := a.2.2.2.2.2.2.2.2.2 k z
theorem RfO.rk {A G : List Nat} {M : Nat} {h1 h2 : Hp} (a : RfO A G M h1 h2) (q : Rk h1 M) : Rk h2 M := by
  refine ⟨?_, fun x hx => ?_⟩
  · rw [a.2.2.2.1]; exact q.1
  · rw [a.2.2.2.1, a.2.2.2.2.1, a.2.2.2.2.2.1]; exact q.2 x hx
theorem RfO.sbi {A G : List Nat} {M : Nat} {h : Hp} {k : Nat} (z : k ∈ A) (i : Nat) (x : Int32) : RfO A G M h (h.sbi (M + k) i x) := by
  refine ⟨rfl, rfl, rfl, rfl, rfl, rfl, fun _ _ => rfl, fun _ _ => rfl, fun j y => ?_, fun _ _ => rfl⟩
  exact bi_oth (fun e => y (by rw [show j = k by omega]; exact z))
theorem RfO.sbw {A G : List Nat} {M : Nat} {h : Hp} {k : Nat} (z : k ∈ A) (i : Nat) (x : Int64) : RfO A G M h (h.sbw (M + k) i x) := by
  refine ⟨rfl, rfl, rfl, rfl, rfl, rfl, fun _ _ => rfl, fun _ _ => rfl, fun _ _ => rfl, fun j y => ?_⟩
  exact bw_oth (fun e => y (by rw [show j = k by omega]; exact z))
theorem RfO.sgi {A G : List Nat} {M : Nat} {h : Hp} {f : Nat} (z : f ∈ G) (x : Int32) : RfO A G M h (h.sgi f M x) := by
  refine ⟨rfl, rfl, rfl, rfl, rfl, rfl, fun j y => ?_, fun _ _ => rfl, fun _ _ => rfl, fun _ _ => rfl⟩
  exact gi_oth (fun e => y (by rw [e]; exact z))
theorem RfO.sgl {A G : List Nat} {M : Nat} {h : Hp} {f : Nat} (z : f ∈ G) (x : Int64) : RfO A G M h (h.sgl f M x) := by
  refine ⟨rfl, rfl, rfl, rfl, rfl, rfl, fun _ _ => rfl, fun j y => ?_, fun _ _ => rfl, fun _ _ => rfl⟩
  exact gl_oth (fun e => y (by rw [e]; exact z))
section RF3
variable {h : Hp} {M b c w l v k r : Nat}
/-- those that outOf looks among -/
def outC (h : Hp) (M l v a u : Nat) : Prop := h.bi (M + 1) u = 2 ∧ h.bi (M + 4) u < endT h M a ∧ prec h M l v a u
/-- the least moment among those ahead of n, or 0 -/
def outS (h : Hp) (M l v a n : Nat) (x : Int32) : Prop := (x = 0 ∧ ∀ u, 1 ≤ u → u < n → ¬ outC h M l v a u) ∨ ∃ u, 1 ≤ u ∧ u < n ∧ outC h M l v a u ∧ x = h.bi (M + 4) u ∧ 0 < x ∧ ∀ u', 1 ≤ u' → u' < n → outC h M l v a u' → x ≤ h.bi (M + 4) u'
theorem outS.uniq {a m : Nat} {x y : Int32} (p : outS h M l v a m x) (q : outS h M l v a m y) : x = y := by
  rcases p with ⟨p1, p2⟩ | ⟨u, p1, p2, p3, p4, p5, p6⟩ <;> rcases q with ⟨q1, q2⟩ | ⟨u', q1, q2, q3, q4, q5, q6⟩
  · rw [p1, q1]
  · exact absurd q3 (p2 u' q1 q2)
  · exact absurd p3 (q2 u p1 p2)
  · have a1 := p6 u' q1 q2 q3
    have a2 := q6 u p1 p2 p3
    rw [← q4] at a1
    rw [← p4] at a2
    rw [Int32.le_iff_toInt_le] at a1 a2
    exact Int32.toInt_inj.mp (by omega)
theorem rf_outOf (q : Rk h M) (n : Rn h M b c w l v k r) (N : Nat) (hN : 1000 < N) (pos : ∀ u, 1 ≤ u → u ≤ b → h.bi (M + 1) u = 2 → 0 < h.bi (M + 4) u) {a : Nat} (ha : a < 514) : ∃ x, J_X10_outOf N M h (nI a) = some (h, x) ∧ outS h M l v a (b + 1) x := by
  have hb := n.2.2.2.2.2.2.2.1
  have key := lp_inv (G := fun F i (s : Int32) => L_X10_outOf_4 N M F h (nI a) s (nI i)) (hi := b + 1) (Inv := fun i s => 1 ≤ i ∧ outS h M l v a i s) (Q := fun o => ∃ x, o = some (h, x) ∧ outS h M l v a (b + 1) x) ?_ ?_ b 1 N 0 (by omega) (by omega) (by omega) ⟨Nat.le_refl _, Or.inl ⟨rfl, fun u h1 h2 => by omega⟩⟩
  · exact key
  · intro F s hs
    refine ⟨s, ?_, hs.2⟩
    show B_X10_outOf_4 N _ M h (nI a) s (nI (b + 1)) = _
    unfold B_X10_outOf_4
    rw [n.1]
    refine (if_pos (by exact (ni_lt (by omega) (by omega)).mpr (by omega))).trans ?_
    rfl
  · intro F i s hi hs
    left
    have body : L_X10_outOf_4 N M (F + 1) h (nI a) s (nI i) = if h.bi (M + 1) i = 2 then (if endT h M a ≤ h.bi (M + 4) i then L_X10_outOf_4 N M F h (nI a) s (nI (i + 1)) else if s ≤ 0 then B_X10_outOf_53 N (L_X10_outOf_4 N M F) M h (nI a) s (nI i) else if h.bi (M + 4) i < s then B_X10_outOf_53 N (L_X10_outOf_4 N M F) M h (nI a) s (nI i) else L_X10_outOf_4 N M F h (nI a) s (nI (i + 1))) else L_X10_outOf_4 N M F h (nI a) s (nI (i + 1)) := by
      show B_X10_outOf_4 N (L_X10_outOf_4 N M F) M h (nI a) s (nI i) = _
      unfold B_X10_outOf_4 B_X10_outOf_69
      rw [n.1]
      refine (if_neg (by exact fun z => by rw [ni_lt (by omega) (by omega)] at z; omega)).trans ?_
      rw [rd_1301 q, rx_1301 q (by omega), rd_1304 q, rx_1304 q (by omega)]
      rw [ni_clp (by omega), ni_inc]
      by_cases z : h.bi (M + 1) i = 2
      · rw [if_pos z, if_pos z]
        refine (bnd (by exact rf_endOf q N ha)).trans ?_
        unfold B_X10_outOf_33 B_X10_outOf_69
        rw [rd_1304 q, rx_1304 q (by omega)]
        rw [ni_clp (by omega), ni_inc]
      · rw [if_neg z, if_neg z]
    obtain ⟨h1, hs⟩ := hs
    have skip : (outC h M l v a i → s ≤ h.bi (M + 4) i ∧ 0 < s) → outS h M l v a (i + 1) s := by
      intro hz
      rcases hs with ⟨p1, p2⟩ | ⟨u, p1, p2, p3, p4, p5, p6⟩
      · refine Or.inl ⟨p1, fun u u1 u2 uz => ?_⟩
        by_cases e : u = i
        · rw [e] at uz
          have := (hz uz).2
          rw [p1] at this
          exact absurd this (by decide)
        · exact p2 u u1 (by omega) uz
      · refine Or.inr ⟨u, p1, by omega, p3, p4, p5, fun u' u1 u2 uz => ?_⟩
        by_cases e : u' = i
        · rw [e] at uz ⊢; exact (hz uz).1
        · exact p6 u' u1 (by omega) uz
    show ∃ s', (1 ≤ i + 1 ∧ outS h M l v a (i + 1) s') ∧ L_X10_outOf_4 N M (F + 1) h (nI a) s (nI i) = L_X10_outOf_4 N M F h (nI a) s' (nI (i + 1))
    have try1 : ¬ endT h M a ≤ h.bi (M + 4) i → h.bi (M + 1) i = 2 → (s ≤ 0 ∨ h.bi (M + 4) i < s) → ∃ s', (1 ≤ i + 1 ∧ outS h M l v a (i + 1) s') ∧ B_X10_outOf_53 N (L_X10_outOf_4 N M F) M h (nI a) s (nI i) = L_X10_outOf_4 N M F h (nI a) s' (nI (i + 1)) := by
      intro z2 z1 z3
      have z2' : h.bi (M + 4) i < endT h M a := by rw [Int32.le_iff_toInt_le] at z2; rw [Int32.lt_iff_toInt_lt]; omega
      obtain ⟨x, e1, e2⟩ := rf_precedes q n N hN (s := a) (t := i) ha (by omega)
      rcases e2 with ⟨y1, y2⟩ | ⟨y1, y2⟩
      · have ps := pos i h1 (by omega) z1
        refine ⟨h.bi (M + 4) i, ⟨by omega, Or.inr ⟨i, h1, by omega, ⟨z1, z2', y2⟩, rfl, ps, fun u' u1 u2 uz => ?_⟩⟩, ?_⟩
        · by_cases e : u' = i
          · rw [e, Int32.le_iff_toInt_le]; omega
          · rcases hs with ⟨p1, p2⟩ | ⟨u, p1, p2, p3, p4, p5, p6⟩
            · exact absurd uz (p2 u' u1 (by omega))
            · have := p6 u' u1 (by omega) uz
              rw [Int32.le_iff_toInt_le] at this z3 ⊢
              rw [Int32.lt_iff_toInt_lt] at z3 p5
              have z0 : (0 : Int32).toInt = 0 := rfl
              omega
        · unfold B_X10_outOf_53
          refine (bnd (by exact e1)).trans ?_
          unfold B_X10_outOf_59 B_X10_outOf_69
          refine (if_neg (by rw [y1]; show ¬ (1 : Int32) = 0; decide)).trans ?_
          rw [rd_1304 q, rx_1304 q (by omega)]
          rw [ni_clp (by omega), ni_inc]
      · refine ⟨s, ⟨by omega, skip (fun z => absurd z.2.2 y2)⟩, ?_⟩
        unfold B_X10_outOf_53
        refine (bnd (by exact e1)).trans ?_
        unfold B_X10_outOf_59 B_X10_outOf_69
        refine (if_pos (by exact y1)).trans ?_
        rw [ni_inc]
    rw [body]
    by_cases z1 : h.bi (M + 1) i = 2
    · rw [if_pos z1]
      by_cases z2 : endT h M a ≤ h.bi (M + 4) i
      · rw [if_pos z2]
        refine ⟨s, ⟨by omega, skip (fun z => ?_)⟩, rfl⟩
        have := z.2.1
        rw [Int32.le_iff_toInt_le] at z2
        rw [Int32.lt_iff_toInt_lt] at this
        omega
      · rw [if_neg z2]
        by_cases z3 : s ≤ 0
        · rw [if_pos z3]
          exact try1 z2 z1 (Or.inl z3)
        · rw [if_neg z3]
          by_cases z4 : h.bi (M + 4) i < s
          · rw [if_pos z4]
            exact try1 z2 z1 (Or.inr z4)
          · rw [if_neg z4]
            refine ⟨s, ⟨by omega, skip (fun z => ?_)⟩, rfl⟩
            rw [Int32.le_iff_toInt_le] at z3 ⊢
            rw [Int32.lt_iff_toInt_lt] at z4 ⊢
            omega
    · rw [if_neg z1]
      exact ⟨s, ⟨by omega, skip (fun z => absurd z.1 z1)⟩, rfl⟩
/-- a MAY NOT read before b -/
def mayN (h : Hp) (M b l v a t : Nat) : Prop := ∃ x, outS h M l v t (b + 1) x ∧ x ≠ 0 ∧ x ≤ (if h.bi (M + 2) a = 0 then endT h M a else h.bi (M + 3) a)
theorem rf_mayNot (q : Rk h M) (n : Rn h M b c w l v k r) (N : Nat) (hN : 1000 < N) (pos : ∀ u, 1 ≤ u → u ≤ b → h.bi (M + 1) u = 2 → 0 < h.bi (M + 4) u) {a t : Nat} (ha : a < 514) (ht : t < 514) : ∃ x, J_X10_mayNot N M h (nI a) (nI t) = some (h, x) ∧ ((x = 1 ∧ mayN h M b l v a t) ∨ (x = 0 ∧ ¬ mayN h M b l v a t)) := by
  obtain ⟨x, e1, e2⟩ := rf_outOf q n N hN pos ht
  have st : ∀ {y : Option (Hp × Int32)}, (if x = 0 then some (h, (0 : Int32)) else if (if h.bi (M + 2) a = 0 then endT h M a else h.bi (M + 3) a) < x then some (h, (0 : Int32)) else some (h, 1)) = y → J_X10_mayNot N M h (nI a) (nI t) = y := by
    intro y hy
    rw [← hy]
    unfold J_X10_mayNot B_X10_mayNot_0
    refine (bnd (by exact e1)).trans ?_
    show B_X10_mayNot_5 N M h (nI a) x = _
    unfold B_X10_mayNot_5 B_X10_mayNot_41 B_X10_mayNot_42
    by_cases z : x = 0
    · rw [if_pos z, if_pos z]
      exact ck_eq (Or.inl rfl)
    · rw [if_neg z, if_neg z]
      rw [rd_1302 q, rx_1302 q ha, rd_1303 q, rx_1303 q ha]
      rw [ni_clp (by omega)]
      have tail : ∀ y : Int32, B_X10_mayNot_34 N M h x y = if y < x then some (h, (0 : Int32)) else some (h, 1) := by
        intro y
        unfold B_X10_mayNot_34 B_X10_mayNot_41 B_X10_mayNot_42
        by_cases z : y < x
        · rw [if_pos z, if_pos z]; exact ck_eq (Or.inl rfl)
        · rw [if_neg z, if_neg z]; exact ck_eq (Or.inr rfl)
      by_cases z2 : h.bi (M + 2) a = 0
      · rw [if_pos z2, if_pos z2]
        refine (bnd (by exact rf_endOf q N ha)).trans ?_
        exact tail _
      · rw [if_neg z2, if_neg z2]
        exact tail _
  by_cases z : x = 0
  · refine ⟨0, st (by rw [if_pos z]), Or.inr ⟨rfl, fun ⟨x2, f1, f2, _⟩ => f2 ((f1.uniq e2).trans z)⟩⟩
  · generalize hg : (if h.bi (M + 2) a = 0 then endT h M a else h.bi (M + 3) a) = g at st
    by_cases z2 : g < x
    · refine ⟨0, st (by rw [if_neg z, if_pos z2]), Or.inr ⟨rfl, fun ⟨x2, f1, f2, f3⟩ => ?_⟩⟩
      rw [f1.uniq e2, hg, Int32.le_iff_toInt_le] at f3
      rw [Int32.lt_iff_toInt_lt] at z2
      omega
    · refine ⟨1, st (by rw [if_neg z, if_neg z2]), Or.inl ⟨rfl, x, e2, z, ?_⟩⟩
      rw [hg, Int32.le_iff_toInt_le]
      rw [Int32.lt_iff_toInt_lt] at z2
      omega
theorem rf_atMoment (q : Rk h M) (n : Rn h M b c w l v k r) (N : Nat) (hN : 1000 < N) (m : Int32) : ∃ x, J_X10_atMoment N M h m = some (h, nI x) ∧ ((x = 0 ∧ ∀ u, 1 ≤ u → u ≤ b → ¬ (h.bi (M + 1) u = 2 ∧ h.bi (M + 4) u = m)) ∨ (1 ≤ x ∧ x ≤ b ∧ h.bi (M + 1) x = 2 ∧ h.bi (M + 4) x = m)) := by
  have hb := n.2.2.2.2.2.2.2.1
  have key := lp_inv (G := fun F i (_ : Unit) => L_X10_atMoment_2 N M F h m (nI i)) (hi := b + 1) (Inv := fun i _ => 1 ≤ i ∧ ∀ u, 1 ≤ u → u < i → ¬ (h.bi (M + 1) u = 2 ∧ h.bi (M + 4) u = m)) (Q := fun o => ∃ x, o = some (h, nI x) ∧ ((x = 0 ∧ ∀ u, 1 ≤ u → u ≤ b → ¬ (h.bi (M + 1) u = 2 ∧ h.bi (M + 4) u = m)) ∨ (1 ≤ x ∧ x ≤ b ∧ h.bi (M + 1) x = 2 ∧ h.bi (M + 4) x = m))) ?_ ?_ b 1 N () (by omega) (by omega) (by omega) ⟨Nat.le_refl _, fun u h1 h2 => by omega⟩
  · exact key
  · intro F s hs
    refine ⟨0, ?_, Or.inl ⟨rfl, fun u h1 h2 => hs.2 u h1 (by omega)⟩⟩
    show B_X10_atMoment_2 N _ M h m (nI (b + 1)) = _
    unfold B_X10_atMoment_2
    rw [n.1]
    refine (if_pos (by exact (ni_lt (by omega) (by omega)).mpr (by omega))).trans ?_
    rfl
  · intro F i s hi hs
    have body : L_X10_atMoment_2 N M (F + 1) h m (nI i) = if h.bi (M + 1) i = 2 then (if h.bi (M + 4) i = m then some (h, nI i) else L_X10_atMoment_2 N M F h m (nI (i + 1))) else L_X10_atMoment_2 N M F h m (nI (i + 1)) := by
      show B_X10_atMoment_2 N (L_X10_atMoment_2 N M F) M h m (nI i) = _
      unfold B_X10_atMoment_2 B_X10_atMoment_32
      rw [n.1]
      refine (if_neg (by exact fun z => by rw [ni_lt (by omega) (by omega)] at z; omega)).trans ?_
      rw [rd_1301 q, rx_1301 q (by omega), rd_1304 q, rx_1304 q (by omega)]
      rw [ni_clp (by omega), ni_inc]
    show (∃ s' : Unit, (1 ≤ i + 1 ∧ ∀ u, 1 ≤ u → u < i + 1 → ¬ (h.bi (M + 1) u = 2 ∧ h.bi (M + 4) u = m)) ∧ L_X10_atMoment_2 N M (F + 1) h m (nI i) = L_X10_atMoment_2 N M F h m (nI (i + 1))) ∨ ∃ x, L_X10_atMoment_2 N M (F + 1) h m (nI i) = some (h, nI x) ∧ _
    rw [body]
    by_cases z : h.bi (M + 1) i = 2 ∧ h.bi (M + 4) i = m
    · right
      rw [if_pos z.1, if_pos z.2]
      exact ⟨i, rfl, Or.inr ⟨hs.1, by omega, z.1, z.2⟩⟩
    · left
      refine ⟨(), ⟨by omega, fun u u1 u2 => ?_⟩, ?_⟩
      · by_cases e : u = i
        · rw [e]; exact z
        · exact hs.2 u u1 (by omega)
      · by_cases z1 : h.bi (M + 1) i = 2
        · rw [if_pos z1, if_neg (fun y => z ⟨z1, y⟩)]
        · rw [if_neg z1]
end RF3
