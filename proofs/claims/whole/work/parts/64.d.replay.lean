/-! astray: the calls of one, done again -/
def stepL (ow : Int32) (s : List Kv × List Nat × Nat) (c : Clq) : List Kv × List Nat × Nat := if c.1 = 3 then (s.1 ++ [(c.2.1, nI (s.2.2 + 1), ow, c.2.2.2.2.1, c.2.2.2.2.2)], s.2.1, s.2.2 + 1) else if c.1 = 4 then (s.1, if s.2.1.length < 10 then s.2.1 ++ [s.2.2] else s.2.1, s.2.2) else if c.1 = 5 then (cutS (nI (s.2.1.getD (c.2.2.2.1.toInt.toNat - 1) 0)) s.1, s.2.1.take c.2.2.2.1.toInt.toNat, s.2.2) else s
def runL (ow : Int32) (cs : List (Nat × Ck)) (s : List Kv × List Nat × Nat) : List Kv × List Nat × Nat := cs.foldl (fun s y => stepL ow s y.2.1) s
theorem runL_snoc (ow : Int32) (cs : List (Nat × Ck)) (y : Nat × Ck) (s : List Kv × List Nat × Nat) : runL ow (cs ++ [y]) s = stepL ow (runL ow cs s) y.2.1 := by
  unfold runL
  rw [List.foldl_append]
  rfl
theorem callR_step {L V : List Kv} {st ow : Int32} {P : List Nat} {n : Nat} {c : Clq} {L' : List Kv} {P' : List Nat} {n' : Nat} {d : AnD} (q : CallR L V st ow P n c L' P' n' d) (hP : P.length ≤ 10) : (L', P', n') = stepL ow (L, P, n) c := by
  unfold stepL
  rcases q with ⟨k, h1, h2, h3, -⟩ | ⟨k, h1, h2, h3, -⟩ | ⟨k, h1, h2, h3, -⟩ | ⟨k, h1, h2, h3, -⟩ | ⟨k, h1, h3, h2, -⟩ | ⟨k, h3, m, s, k1, k2, k3, h1, h2, -⟩
  · rw [k, if_neg (by decide), if_neg (by decide), if_neg (by decide), h1, h2, h3]
  · rw [k, if_neg (by decide), if_neg (by decide), if_neg (by decide), h1, h2, h3]
  · rw [k, if_neg (by decide), if_neg (by decide), if_neg (by decide), h1, h2, h3]
  · rw [if_pos k, h1, h2, h3]
  · rw [k, if_neg (by decide), if_pos rfl, h1, h2, h3]
  · rw [k, if_neg (by decide), if_neg (by decide), if_pos rfl, h1, h2, h3]
    have := (List.getElem?_eq_some_iff.mp k3).1
    have e : c.2.2.2.1.toInt.toNat = m := by
      rw [k1, nI_toInt (by omega)]
      rfl
    rw [e]
    show _ = (cutS (nI (P.getD (m - 1) 0)) L, P.take m, n)
    rw [List.getD_eq_getElem?_getD, k3]
    rfl
theorem rep_snoc {V : List Kv} {st ow : Int32} {y : Nat × Ck} : ∀ (cs : List (Nat × Ck)) (L : List Kv) (P : List Nat) (n m : Nat) (L' : List Kv) (m' : Nat), P.length ≤ 10 → RepT V st ow (cs ++ [y]) L P n m L' m' → ∃ m1 d, RepT V st ow cs L P n m (runL ow cs (L, P, n)).1 m1 ∧ (runL ow cs (L, P, n)).2.1.length ≤ 10 ∧ CallR (runL ow cs (L, P, n)).1 V st ow (runL ow cs (L, P, n)).2.1 (runL ow cs (L, P, n)).2.2 y.2.1 L' (stepL ow (runL ow cs (L, P, n)) y.2.1).2.1 (stepL ow (runL ow cs (L, P, n)) y.2.1).2.2 d ∧ Df y.2.2 d m1 m' ∧ L' = (stepL ow (runL ow cs (L, P, n)) y.2.1).1 := by
  intro cs
  induction cs with
  | nil =>
    intro L P n m L' m' hP r
    obtain ⟨L1, P1, n1, d, m1, r1, r2, r3, r4⟩ := r
    have e := callR_step r1 hP
    refine ⟨m, d, ⟨rfl, rfl⟩, hP, ?_, by rw [r4]; exact r2, ?_⟩
    · show CallR L V st ow P n y.2.1 L' (stepL ow (L, P, n) y.2.1).2.1 (stepL ow (L, P, n) y.2.1).2.2 d
      rw [← e, r3]
      exact r1
    · show L' = (stepL ow (L, P, n) y.2.1).1
      rw [← e]; exact r3
  | cons x cs ih =>
    intro L P n m L' m' hP r
    obtain ⟨L1, P1, n1, d, m1, r1, r2, r3⟩ := r
    have e := callR_step r1 hP
    have hP1 : P1.length ≤ 10 := by
      rcases r1 with ⟨k, h1, h2, h3, -⟩ | ⟨k, h1, h2, h3, -⟩ | ⟨k, h1, h2, h3, -⟩ | ⟨k, h1, h2, h3, -⟩ | ⟨k, h1, h3, h2, -⟩ | ⟨k, h3, m, s, k1, k2, k3, h1, h2, -⟩
      · rw [h2]; exact hP
      · rw [h2]; exact hP
      · rw [h2]; exact hP
      · rw [h2]; exact hP
      · rw [h2]
        by_cases c : P.length < 10
        · rw [if_pos c, List.length_append]; show _ + 1 ≤ 10; omega
        · rw [if_neg c]; exact hP
      · rw [h2, List.length_take]; omega
    obtain ⟨m2, d2, a1, a2, a3, a4, a5⟩ := ih L1 P1 n1 m1 L' m' hP1 r3
    have er : runL ow (x :: cs) (L, P, n) = runL ow cs (L1, P1, n1) := by
      unfold runL
      rw [List.foldl_cons, e]
    rw [er]
    exact ⟨m2, d2, ⟨L1, P1, n1, d, m1, r1, r2, a1⟩, a2, a3, a4, a5⟩
/-- own writes and places, on both sides -/
def OwX (w : Nat) (W : Nat → Int32) (s : List Kv × List Nat × Nat) (o : Ow × List Nat) : Prop := F2 (fun (x : Kv) (y : Int32 × Option Int64) => x.1 = y.1 ∧ y.2 = visE (some x.2)) s.1 o.1 ∧ s.2.1.length = o.2.length ∧ (∀ (q p a : Nat), s.2.1[q]? = some p → o.2[q]? = some a → p ≤ s.2.2 ∧ a ≤ s.1.length ∧ ∀ (i : Nat) (x : Kv), s.1[i]? = some x → (x.2.1 ≤ nI p ↔ i < a)) ∧ (∀ (q q' a a' : Nat), q ≤ q' → o.2[q]? = some a → o.2[q']? = some a' → a ≤ a') ∧ (∀ x ∈ s.1, x.2.1 ≤ nI s.2.2) ∧ ∀ y ∈ o.1, ∃ e, e < w ∧ W e = y.1
theorem F2.take {α β : Type} {R : α → β → Prop} : ∀ {as : List α} {bs : List β} (n : Nat), F2 R as bs → F2 R (as.take n) (bs.take n) := by
  intro as
  induction as with
  | nil =>
    intro bs n f
    cases bs with
    | nil => rw [List.take_nil, List.take_nil]; exact trivial
    | cons z bs => exact f.elim
  | cons x as ih =>
    intro bs n f
    cases bs with
    | nil => exact f.elim
    | cons z bs =>
      cases n with
      | zero => exact trivial
      | succ n => exact ⟨f.1, ih n f.2⟩
theorem filter_take {α : Type} {p : α → Bool} : ∀ (L : List α) (a : Nat), (∀ (i : Nat) (x : α), L[i]? = some x → (p x = true ↔ i < a)) → L.filter p = L.take a := by
  intro L
  induction L with
  | nil => intro a _; rw [List.take_nil]; rfl
  | cons x L ih =>
    intro a h
    have h0 := h 0 x rfl
    cases a with
    | zero =>
      have no : ¬ p x = true := fun z => by have := h0.mp z; omega
      rw [List.filter_cons_of_neg no, List.take_zero]
      have := ih 0 (fun i y hy => by
        have := h (i + 1) y hy
        exact ⟨fun z => by have := this.mp z; omega, fun z => by omega⟩)
      rw [this, List.take_zero]
    | succ a =>
      rw [List.filter_cons_of_pos (h0.mpr (by omega)), List.take_succ_cons]
      rw [ih a (fun i y hy => by
        have := h (i + 1) y hy
        exact ⟨fun z => by have := this.mp z; omega, fun z => this.mpr (by omega)⟩)]
theorem lk_eq (key : Int32) : ∀ (n : Nat) (Lo : Ow) (L : List Kv), Lo.length = n → F2 (fun (x : Kv) (y : Int32 × Option Int64) => x.1 = y.1 ∧ y.2 = visE (some x.2)) L Lo → (chn L key = [] ∧ lkO Lo key = none) ∨ ∃ e L', chn L key = e :: L' ∧ lkO Lo key = some (visE (some e)) := by
  intro n
  induction n with
  | zero =>
    intro Lo L hl f
    rw [List.length_eq_zero_iff.mp hl] at f ⊢
    cases L with
    | nil => exact Or.inl ⟨rfl, rfl⟩
    | cons x L => exact f.elim
  | succ n ih =>
    intro Lo L hl f
    obtain ⟨Lo0, y, eL, l0⟩ := snoc_of hl
    rw [eL] at f
    obtain ⟨L0, x, e0, f0, r1, r2⟩ := f.unsnoc
    have ex : x = (x.1, x.2) := rfl
    have ec : chn L key = if key = x.1 then x.2 :: chn L0 x.1 else chn L0 key := by
      rw [e0, ex, chn_add]
    rw [eL, lkO_snoc]
    by_cases z : key = x.1
    · rw [if_pos z] at ec
      rw [if_pos (by rw [← r1]; exact z.symm), r2]
      exact Or.inr ⟨x.2, _, ec, rfl⟩
    · rw [if_neg z] at ec
      rw [if_neg (fun u => z (by rw [r1]; exact u.symm)), ec]
      exact ih Lo0 L0 l0 f0
theorem now_eq {L W : List Kv} {Lo : Ow} {st : Int32} {mp : Int32 → Option Int64} (f : F2 (fun (x : Kv) (y : Int32 × Option Int64) => x.1 = y.1 ∧ y.2 = visE (some x.2)) L Lo) (hm : ∀ key, mp key = visE (dropW st (chn W key)).head?) : visL L W st = nowF Lo mp := by
  funext key
  unfold visL visC nowF
  rcases lk_eq key _ Lo L rfl f with ⟨a, b⟩ | ⟨e, L', a, b⟩
  · rw [a, b, hm key]; rfl
  · rw [a, b]; rfl
section RPL
variable {h : Hp} {M b c w l v k r clk m : Nat} {mp : Int32 → Option Int64} {W : List Kv} {st ow : Int32}
/-- a call kept as a row: what it makes of own writes and places -/
theorem step_eq {s : List Kv × List Nat × Nat} {o : Ow × List Nat} {y : Ck} {j p' : Nat} (x : OwX w (h.bi (M + 12)) s o) (hn : s.2.2 < 100000) (hp : s.2.1.length ≤ 10) (rw_ : RowM h M w r j y) (sp : StpP s.2.1.length y.1 p') : OwX w (h.bi (M + 12)) (stepL ow s y.1) (stR h M j o) ∧ (stepL ow s y.1).2.1.length = p' ∧ (stepL ow s y.1).2.2 ≤ s.2.2 + 1 := by
  obtain ⟨x1, x2, x3, x4, x5, x6⟩ := x
  have ll := x1.len
  have same : y.1.1 ≠ 3 → y.1.1 ≠ 4 → y.1.1 ≠ 5 → h.bi (M + 23) j ≠ 5 → h.bi (M + 23) j ≠ 6 → h.bi (M + 23) j ≠ 7 → h.bi (M + 23) j ≠ 8 → OwX w (h.bi (M + 12)) (stepL ow s y.1) (stR h M j o) ∧ (stepL ow s y.1).2.1.length = p' ∧ (stepL ow s y.1).2.2 ≤ s.2.2 + 1 := by
    intro n3 n4 n5 r5 r6 r7 r8
    unfold stepL stR
    rw [if_neg n3, if_neg n4, if_neg n5, if_neg r5, if_neg r6, if_neg r7, if_neg r8]
    refine ⟨⟨x1, x2, x3, x4, x5, x6⟩, ?_, by omega⟩
    rcases sp with ⟨z, _⟩ | ⟨z, _⟩ | ⟨_, _, z⟩
    · exact absurd z n4
    · exact absurd z n5
    · exact z.symm
  rcases rw_ with ⟨k0, r0, _⟩ | ⟨k0, fl, r0, _⟩ | ⟨k0, r0, _⟩ | ⟨k0, fl, r0, r1, r2, _, e, e1, e2⟩ | ⟨k0, r0, _⟩ | ⟨k0, r0, r1, _⟩
  · exact same (by rw [k0]; decide) (by rw [k0]; decide) (by rw [k0]; decide) (by rw [r0]; decide) (by rw [r0]; decide) (by rw [r0]; decide) (by rw [r0]; decide)
  · rcases fl with z | z
    · rw [if_pos z] at r0
      exact same (by rw [k0]; decide) (by rw [k0]; decide) (by rw [k0]; decide) (by rw [r0]; decide) (by rw [r0]; decide) (by rw [r0]; decide) (by rw [r0]; decide)
    · rw [if_neg (by rw [z]; decide)] at r0
      exact same (by rw [k0]; decide) (by rw [k0]; decide) (by rw [k0]; decide) (by rw [r0]; decide) (by rw [r0]; decide) (by rw [r0]; decide) (by rw [r0]; decide)
  · exact same (by rw [k0]; decide) (by rw [k0]; decide) (by rw [k0]; decide) (by rw [r0]; decide) (by rw [r0]; decide) (by rw [r0]; decide) (by rw [r0]; decide)
  · have es : stepL ow s y.1 = (s.1 ++ [(y.1.2.1, nI (s.2.2 + 1), ow, y.1.2.2.2.2.1, y.1.2.2.2.2.2)], s.2.1, s.2.2 + 1) := by
      unfold stepL; rw [if_pos k0]
    have eo : stR h M j o = (o.1 ++ [(y.1.2.1, visE (some (nI (s.2.2 + 1), ow, y.1.2.2.2.2.1, y.1.2.2.2.2.2)))], o.2) := by
      unfold stR
      rcases fl with z | z
      · rw [if_pos z] at r0
        rw [if_neg (by rw [r0]; decide), if_pos r0, r1]
        show (o.1 ++ [(y.1.2.1, none)], o.2) = _
        have : visE (some (nI (s.2.2 + 1), ow, y.1.2.2.2.2.1, y.1.2.2.2.2.2)) = none := if_pos z
        rw [this]
      · rw [if_neg (by rw [z]; decide)] at r0
        rw [if_pos r0, r1, r2]
        have : visE (some (nI (s.2.2 + 1), ow, y.1.2.2.2.2.1, y.1.2.2.2.2.2)) = some y.1.2.2.2.2.2 := if_neg (by rw [z]; decide)
        rw [this]
    rw [es, eo]
    refine ⟨⟨F2.snoc ⟨rfl, rfl⟩ x1, x2, fun q p a hq ha => ?_, x4, fun z hz => ?_, fun z hz => ?_⟩, ?_, Nat.le_refl _⟩
    · obtain ⟨c1, c2, c3⟩ := x3 q p a hq ha
      refine ⟨by show p ≤ s.2.2 + 1; omega, by show a ≤ (s.1 ++ [_]).length; rw [List.length_append]; omega, fun i z hz => ?_⟩
      rcases get_dn hz with ⟨_, hz⟩ | ⟨il, hz⟩
      · exact c3 i z hz
      · rw [hz, il]
        constructor
        · intro le
          have le : nI (s.2.2 + 1) ≤ nI p := le
          rw [ni_le (by omega) (by omega)] at le
          omega
        · intro lt; omega
    · show z.2.1 ≤ nI (s.2.2 + 1)
      rcases List.mem_append.mp hz with hz | hz
      · refine Int32.le_trans (x5 z hz) ?_
        rw [ni_le (by omega) (by omega)]; omega
      · rw [List.mem_singleton.mp hz]; exact Int32.le_refl _
    · rcases List.mem_append.mp hz with hz | hz
      · exact x6 z hz
      · rw [List.mem_singleton.mp hz]; exact ⟨e, e1, e2⟩
    · rcases sp with ⟨z, _⟩ | ⟨z, _⟩ | ⟨_, _, z⟩
      · rw [k0] at z; exact absurd z (by decide)
      · rw [k0] at z; exact absurd z (by decide)
      · exact z.symm
  · have sl : s.2.1.length < 10 ∧ p' = s.2.1.length + 1 := by
      rcases sp with ⟨_, z1, z2⟩ | ⟨z, _⟩ | ⟨z, _⟩
      · exact ⟨z1, z2⟩
      · rw [k0] at z; exact absurd z (by decide)
      · exact absurd k0 z
    have es : stepL ow s y.1 = (s.1, s.2.1 ++ [s.2.2], s.2.2) := by
      unfold stepL; rw [if_neg (by rw [k0]; decide), if_pos k0, if_pos sl.1]
    have eo : stR h M j o = (o.1, o.2 ++ [o.1.length]) := by
      unfold stR
      rw [if_neg (by rw [r0]; decide), if_neg (by rw [r0]; decide), if_pos r0]
    rw [es, eo]
    have le : ∀ (q a : Nat), o.2[q]? = some a → a ≤ o.1.length := by
      intro q a ha
      have ql := get_lt ha
      obtain ⟨p, hp⟩ : ∃ p, s.2.1[q]? = some p := ⟨_, List.getElem?_eq_getElem (by omega)⟩
      have := (x3 q p a hp ha).2.1
      omega
    refine ⟨⟨x1, ?_, fun q p a hq ha => ?_, fun q q' a a' hqq ha ha' => ?_, x5, x6⟩, ?_, by show s.2.2 ≤ s.2.2 + 1; omega⟩
    · show (s.2.1 ++ [s.2.2]).length = (o.2 ++ [o.1.length]).length
      rw [List.length_append, List.length_append, x2]; rfl
    · rcases get_dn hq with ⟨ql, hq⟩ | ⟨ql, hq⟩
      · rcases get_dn ha with ⟨_, ha⟩ | ⟨al, _⟩
        · exact x3 q p a hq ha
        · omega
      · rcases get_dn ha with ⟨al, _⟩ | ⟨al, ha⟩
        · omega
        · rw [hq, ha]
          refine ⟨Nat.le_refl _, by show o.1.length ≤ s.1.length; omega, fun i z hz => ⟨fun _ => by have := get_lt hz; show i < o.1.length; have : i < s.1.length := this; omega, fun _ => x5 z (List.mem_of_getElem? hz)⟩⟩
    · rcases get_dn ha with ⟨_, ha⟩ | ⟨al, ha⟩
      · rcases get_dn ha' with ⟨_, ha'⟩ | ⟨_, ha'⟩
        · exact x4 q q' a a' hqq ha ha'
        · rw [ha']; exact le q a ha
      · rcases get_dn ha' with ⟨al', _⟩ | ⟨_, ha'⟩
        · omega
        · rw [ha, ha']; exact Nat.le_refl _
    · show (s.2.1 ++ [s.2.2]).length = p'
      rw [List.length_append, sl.2]; rfl
  · obtain ⟨n, n1, n2, n3, n4⟩ : ∃ n, y.1.2.2.2.1 = nI n ∧ 1 ≤ n ∧ n ≤ s.2.1.length ∧ p' = n := by
      rcases sp with ⟨z, _⟩ | ⟨_, n, z1, z2, z3, z4⟩ | ⟨_, z, _⟩
      · rw [k0] at z; exact absurd z (by decide)
      · exact ⟨n, z1, z2, z3, z4⟩
      · exact absurd k0 z
    have tn : (nI n).toInt.toNat = n := by rw [nI_toInt (by omega)]; rfl
    obtain ⟨p0, hp0⟩ : ∃ p, s.2.1[n - 1]? = some p := ⟨_, List.getElem?_eq_getElem (by omega)⟩
    obtain ⟨a0, ha0⟩ : ∃ a, o.2[n - 1]? = some a := ⟨_, List.getElem?_eq_getElem (by omega)⟩
    obtain ⟨c1, c2, c3⟩ := x3 (n - 1) p0 a0 hp0 ha0
    have ct : cutS (nI p0) s.1 = s.1.take a0 := by
      unfold cutS
      refine filter_take s.1 a0 (fun i x hx => ?_)
      rw [← c3 i x hx]
      have : (!decide (nI p0 < x.2.1)) = true ↔ ¬ nI p0 < x.2.1 := by
        rw [Bool.not_eq_true', decide_eq_false_iff_not]
      rw [this, Int32.lt_iff_toInt_lt, Int32.le_iff_toInt_le]
      omega
    have es : stepL ow s y.1 = (s.1.take a0, s.2.1.take n, s.2.2) := by
      unfold stepL
      rw [if_neg (by rw [k0]; decide), if_neg (by rw [k0]; decide), if_pos k0, n1, tn, List.getD_eq_getElem?_getD, hp0]
      show (cutS (nI p0) s.1, _, _) = _
      rw [ct]
    have eo : stR h M j o = (o.1.take a0, o.2.take n) := by
      unfold stR
      rw [if_neg (by rw [r0]; decide), if_neg (by rw [r0]; decide), if_neg (by rw [r0]; decide), if_pos r0, r1, n1, tn, List.getD_eq_getElem?_getD, ha0]
      rfl
    rw [es, eo]
    refine ⟨⟨F2.take a0 x1, ?_, fun q p a hq ha => ?_, fun q q' a a' hqq ha ha' => ?_, fun z hz => x5 z (List.mem_of_mem_take hz), fun z hz => x6 z (List.mem_of_mem_take hz)⟩, ?_, by show s.2.2 ≤ s.2.2 + 1; omega⟩
    · show (s.2.1.take n).length = (o.2.take n).length
      rw [List.length_take, List.length_take, x2]
    · have hq : (s.2.1.take n)[q]? = some p := hq
      have ha : (o.2.take n)[q]? = some a := ha
      rw [List.getElem?_take] at hq ha
      by_cases qn : q < n
      · rw [if_pos qn] at hq ha
        obtain ⟨d1, d2, d3⟩ := x3 q p a hq ha
        have aa := x4 q (n - 1) a a0 (by omega) ha ha0
        refine ⟨d1, by show a ≤ (s.1.take a0).length; rw [List.length_take]; omega, fun i z hz => ?_⟩
        have hz : (s.1.take a0)[i]? = some z := hz
        rw [List.getElem?_take] at hz
        by_cases ia : i < a0
        · rw [if_pos ia] at hz; exact d3 i z hz
        · rw [if_neg ia] at hz; cases hz
      · rw [if_neg qn] at hq; cases hq
    · have ha : (o.2.take n)[q]? = some a := ha
      have ha' : (o.2.take n)[q']? = some a' := ha'
      rw [List.getElem?_take] at ha ha'
      by_cases qn : q' < n
      · rw [if_pos qn] at ha'
        rw [if_pos (by omega)] at ha
        exact x4 q q' a a' hqq ha ha'
      · rw [if_neg qn] at ha'; cases ha'
    · show (s.2.1.take n).length = p'
      rw [List.length_take, n4]; omega
/-- a call kept as a row: whether it tells otherwise -/
theorem bad_eq {L : List Kv} {Lo : Ow} {P : List Nat} {n : Nat} {y : Ck} {j : Nat} {L' : List Kv} {P' : List Nat} {n' : Nat} {d : AnD} {m1 m2 : Nat} (hr : r ≤ 41200) (hm : m ≤ 512) (so : ∀ i i', i < i' → i' < m → h.bi (M + 35) i < h.bi (M + 35) i') (vs : visL L W st = nowF Lo mp) (inA : ∀ z, nowF Lo mp z ≠ none → ∃ j, j < m ∧ h.bi (M + 35) j = z) (rw_ : RowM h M w r j y) (cr : CallR L W st ow P n y.1 L' P' n' d) (df : Df y.2 d m1 m2) : (gdR h M m Lo mp j ∧ m2 = m1) ∨ (¬ gdR h M m Lo mp j ∧ m2 = m1 + 1) := by
  have quiet : y.2 = none → (h.bi (M + 23) j ≠ 1 ∧ h.bi (M + 23) j ≠ 2 ∧ h.bi (M + 23) j ≠ 3 ∧ h.bi (M + 23) j ≠ 4) → (gdR h M m Lo mp j ∧ m2 = m1) ∨ (¬ gdR h M m Lo mp j ∧ m2 = m1 + 1) := by
    intro z ⟨n1, n2, n3, n4⟩
    rcases df with ⟨_, d2⟩ | ⟨t, d1, _⟩
    · exact Or.inl ⟨⟨fun u => absurd u n1, fun u => absurd u n2, fun u => absurd u n3, fun u => absurd u n4⟩, d2⟩
    · rw [z] at d1; cases d1
  have fin : ∀ (e : AnD), y.2 = some e → (same3 d e ↔ gdR h M m Lo mp j) → (gdR h M m Lo mp j ∧ m2 = m1) ∨ (¬ gdR h M m Lo mp j ∧ m2 = m1 + 1) := by
    intro e ye iff
    rcases df with ⟨d1, _⟩ | ⟨t, d1, d2⟩
    · rw [ye] at d1; cases d1
    · rw [ye] at d1
      rw [← Option.some.inj d1] at d2
      rcases d2 with ⟨a, b⟩ | ⟨a, b⟩
      · exact Or.inl ⟨iff.mp a, b⟩
      · exact Or.inr ⟨fun u => a (iff.mpr u), b⟩
  rcases rw_ with ⟨k0, r0, r1, ⟨e, ye, e3, ae⟩, ky⟩ | ⟨k0, fl, r0, r1, e, ye, e3, ae⟩ | ⟨k0, r0, r1, r2, r3, hab, mo, rr, e, s1, s2, s3, ye, e1, e2, e4, b29, b32, rb, rows⟩ | ⟨k0, fl, r0, _, _, z, _⟩ | ⟨k0, r0, z⟩ | ⟨k0, r0, _, z⟩
  · have ed : d = readD (visL L W st y.1.2.1) (decide (chn L y.1.2.1 ≠ [])) y.1.2.1 := by
      rcases cr with ⟨_, _, _, _, z⟩ | ⟨z, _⟩ | ⟨z, _⟩ | ⟨z, _⟩ | ⟨z, _⟩ | ⟨z, _⟩
      · exact z
      all_goals rw [k0] at z; exact absurd z (by decide)
    refine fin e ye ?_
    have d1 : d.1 = if visL L W st y.1.2.1 = none then 0 else 1 := by rw [ed]; rfl
    have d2 : d.2.1 = (visL L W st y.1.2.1).map (fun x => (y.1.2.1, x)) := by rw [ed]; rfl
    have d3 : d.2.2.1 = [] := by rw [ed]; rfl
    have gd : gdR h M m Lo mp j ↔ (nowF Lo mp (h.bi (M + 25) j) = none ∧ h.bi (M + 29) j = 0) ∨ (h.bi (M + 29) j = 1 ∧ nowF Lo mp (h.bi (M + 25) j) = some (h.bw (M + 31) j)) := by
      constructor
      · intro g; exact g.1 r0
      · intro g
        exact ⟨fun _ => g, fun u => absurd (r0.symm.trans u) (by decide), fun u => absurd (r0.symm.trans u) (by decide), fun u => absurd (r0.symm.trans u) (by decide)⟩
    rw [gd, r1, ← vs]
    unfold same3
    rw [d1, d2, d3, e3]
    cases o : visL L W st y.1.2.1 with
    | none =>
      rw [if_pos rfl]
      rcases ae with ⟨a1, a2, a3⟩ | ⟨a1, a2, a3⟩
      · rw [a1, a2, a3]
        exact ⟨fun _ => Or.inl ⟨rfl, rfl⟩, fun _ => ⟨rfl, rfl, rfl⟩⟩
      · rw [a1, a2]
        exact ⟨fun u => absurd u.1 (by decide), fun u => u.elim (fun u => absurd u.2 (by decide)) (fun u => nomatch u.2)⟩
    | some x =>
      rw [if_neg (fun u => nomatch u)]
      rcases ae with ⟨a1, a2, a3⟩ | ⟨a1, a2, a3⟩
      · rw [a1, a3]
        exact ⟨fun u => absurd u.1 (by decide), fun u => u.elim (fun u => nomatch u.1) (fun u => absurd u.1 (by decide))⟩
      · rw [a1, a2, a3]
        have kk : h.bi (M + 30) j = y.1.2.1 := ky e _ ye a3
        rw [kk]
        constructor
        · rintro ⟨_, u, _⟩
          have u : (y.1.2.1, x) = (y.1.2.1, h.bw (M + 31) j) := Option.some.inj u
          exact Or.inr ⟨rfl, congrArg some (congrArg Prod.snd u)⟩
        · rintro (⟨u, _⟩ | ⟨_, u⟩)
          · exact nomatch u
          · rw [Option.some.inj u]; exact ⟨rfl, rfl, rfl⟩
  · have na : NearA y.1.2.2.2.2.1 (visL L W st) y.1.2.1 d := by
      rcases cr with ⟨z, _⟩ | ⟨_, _, _, _, z⟩ | ⟨z, _⟩ | ⟨z, _⟩ | ⟨z, _⟩ | ⟨z, _⟩
      · rw [k0] at z; exact absurd z (by decide)
      · exact z
      all_goals rw [k0] at z; exact absurd z (by decide)
    rw [vs] at na
    refine fin e ye ?_
    have gd : gdR h M m Lo mp j ↔ NgR h M m Lo mp j y.1.2.2.2.2.1 := by
      rcases fl with z | z
      · rw [if_pos z] at r0
        rw [z]
        exact ⟨fun g => g.2.2.1 r0, fun g => ⟨fun u => absurd (r0.symm.trans u) (by decide), fun u => absurd (r0.symm.trans u) (by decide), fun _ => g, fun u => absurd (r0.symm.trans u) (by decide)⟩⟩
      · rw [if_neg (by rw [z]; decide)] at r0
        rw [z]
        exact ⟨fun g => g.2.1 r0, fun g => ⟨fun u => absurd (r0.symm.trans u) (by decide), fun _ => g, fun u => absurd (r0.symm.trans u) (by decide), fun u => absurd (r0.symm.trans u) (by decide)⟩⟩
    rw [gd]
    obtain ⟨x, f0, f1⟩ : ∃ x, (y.1.2.2.2.2.1 = 0 → lastS (fun i => ¬ h.bi (M + 25) j < h.bi (M + 35) i ∧ nowF Lo mp (h.bi (M + 35) i) ≠ none) m x) ∧ (y.1.2.2.2.2.1 ≠ 0 → firstS (fun i => ¬ h.bi (M + 35) i < h.bi (M + 25) j ∧ nowF Lo mp (h.bi (M + 35) i) ≠ none) m x) := by
      rcases fl with z | z
      · rcases last_ex (fun i => ¬ h.bi (M + 25) j < h.bi (M + 35) i ∧ nowF Lo mp (h.bi (M + 35) i) ≠ none) m with a | ⟨j', _, a, _⟩
        · exact ⟨-1, fun _ => a, fun u => absurd z u⟩
        · exact ⟨nI j', fun _ => a, fun u => absurd z u⟩
      · have fx : ∀ (P : Nat → Prop) (n : Nat), ∃ x, firstS P n x := by
          intro P n
          by_cases ex : ∃ i, i < n ∧ P i ∧ ∀ j, j < i → ¬ P j
          · obtain ⟨i, i1, i2, i3⟩ := ex
            exact ⟨nI i, Or.inr ⟨i, i1, rfl, i2, i3⟩⟩
          · refine ⟨-1, Or.inl ⟨rfl, fun i => ?_⟩⟩
            induction i using Nat.strongRecOn with
            | ind i ih => exact fun hi pi => ex ⟨i, hi, pi, fun j hj => ih j hj (by omega)⟩
        obtain ⟨x, hx⟩ := fx (fun i => ¬ h.bi (M + 35) i < h.bi (M + 25) j ∧ nowF Lo mp (h.bi (M + 35) i) ≠ none) m
        exact ⟨x, fun u => absurd (z.symm.trans u) (by decide), fun _ => hx⟩
    have ng := near_gen (d := d) so inA fl (by rw [← r1] at na; exact na) f0 f1
    have lastU : ∀ {P : Nat → Prop} {n : Nat} {x x' : Int32}, firstS P n x → firstS P n x' → x = x' := by
      intro P n x x' a a'
      rcases a with ⟨a1, a2⟩ | ⟨i, a1, a2, a3, a4⟩ <;> rcases a' with ⟨b1, b2⟩ | ⟨i', b1, b2, b3, b4⟩
      · rw [a1, b1]
      · exact absurd b3 (a2 i' b1)
      · exact absurd a3 (b2 i a1)
      · have : i = i' := by
          rcases Nat.lt_trichotomy i i' with z | z | z
          · exact absurd a3 (b4 i z)
          · exact z
          · exact absurd b3 (a4 i' z)
        rw [a2, b2, this]
    have xu : ∀ x', (y.1.2.2.2.2.1 = 0 → lastS (fun i => ¬ h.bi (M + 25) j < h.bi (M + 35) i ∧ nowF Lo mp (h.bi (M + 35) i) ≠ none) m x') → (y.1.2.2.2.2.1 ≠ 0 → firstS (fun i => ¬ h.bi (M + 35) i < h.bi (M + 25) j ∧ nowF Lo mp (h.bi (M + 35) i) ≠ none) m x') → x' = x := by
      intro x' g0 g1
      by_cases z : y.1.2.2.2.2.1 = 0
      · exact (g0 z).uniq (f0 z)
      · exact lastU (g1 z) (f1 z)
    have body : same3 d e ↔ ((x = -1 ∧ h.bi (M + 29) j = 0) ∨ ∃ j', x = nI j' ∧ j' < m ∧ h.bi (M + 29) j ≠ 0 ∧ h.bi (M + 35) j' = h.bi (M + 30) j ∧ nowF Lo mp (h.bi (M + 35) j') = some (h.bw (M + 31) j)) := by
      unfold same3
      rw [e3]
      rcases ng with ⟨x1, g1, g2, g3⟩ | ⟨j0, z, x1, x2, x3, g1, g2, g3⟩
      · rw [g1, g2, g3]
        rcases ae with ⟨a1, a2, a3⟩ | ⟨a1, a2, a3⟩
        · rw [a1, a2]
          exact ⟨fun _ => Or.inl ⟨x1, a3⟩, fun _ => ⟨rfl, rfl, rfl⟩⟩
        · rw [a1, a2]
          refine ⟨fun u => absurd u.1 (by decide), fun u => ?_⟩
          rcases u with ⟨_, u⟩ | ⟨j', u1, u2, _, _, u5⟩
          · exact absurd u (by decide)
          · rw [x1] at u1
            exact absurd u1.symm (ni_m1 (by omega))
      · rw [g1, g2, g3]
        rcases ae with ⟨a1, a2, a3⟩ | ⟨a1, a2, a3⟩
        · rw [a1, a3]
          refine ⟨fun u => absurd u.1 (by decide), fun u => ?_⟩
          rcases u with ⟨u, _⟩ | ⟨j', _, _, u, _⟩
          · rw [x2] at u; exact absurd u (ni_m1 (by omega))
          · exact absurd rfl u
        · rw [a1, a2, a3]
          constructor
          · rintro ⟨_, u, _⟩
            have u : (h.bi (M + 35) j0, z) = (h.bi (M + 30) j, h.bw (M + 31) j) := Option.some.inj u
            refine Or.inr ⟨j0, x2, x1, by decide, congrArg Prod.fst u, ?_⟩
            rw [x3]; exact congrArg some (congrArg Prod.snd u)
          · rintro (⟨_, u⟩ | ⟨j', u1, u2, _, u4, u5⟩)
            · exact absurd u (by decide)
            · rw [(ni_inj (by omega) (by omega)).mp (u1.symm.trans x2)] at u4 u5
              rw [x3] at u5
              rw [u4, Option.some.inj u5]
              exact ⟨rfl, rfl, rfl⟩
    rw [body]
    constructor
    · intro u; exact ⟨x, f0, f1, u⟩
    · rintro ⟨x', g0, g1, u⟩
      rw [xu x' g0 g1] at u
      exact u
  · obtain ⟨R, sr, dR⟩ : ∃ R, ScanR (visL L W st) y.1.2.2.1 mo y.1.2.1.toInt R ∧ d = (nI R.length, none, R, some (y.1.2.1, lastK R mo y.1.2.2.1)) := by
      rcases cr with ⟨z, _⟩ | ⟨z, _⟩ | ⟨_, _, _, _, mo', z1, z2, z3, R, z4, z5⟩ | ⟨z, _⟩ | ⟨z, _⟩ | ⟨z, _⟩
      · rw [k0] at z; exact absurd z (by decide)
      · rw [k0] at z; exact absurd z (by decide)
      · have em : mo' = mo := (ni_inj (by omega) (by omega)).mp (z1.symm.trans s1)
        rw [em] at z4 z5
        exact ⟨R, z4, z5⟩
      all_goals rw [k0] at z; exact absurd z (by decide)
    rw [vs] at sr
    refine fin e ye ?_
    have sm : same3 d e ↔ R = e.2.2.1 := by
      unfold same3
      rw [dR, e1, e2]
      exact ⟨fun u => u.2.2, fun u => ⟨by show nI R.length = _; rw [u], rfl, u⟩⟩
    have sg := scan_gen (A := h.bi (M + 35)) (m := m) (an := e.2.2.1.length) (E := e.2.2.1) (kA := fun i => h.bi (M + 33) (rr + i)) (kV := fun i => h.bw (M + 34) (rr + i)) so inA sr rfl (fun i z hz => rows i z hz)
    rw [sm, sg]
    have gd : gdR h M m Lo mp j ↔ SgR h M m Lo mp j mo e.2.2.1.length rr := by
      constructor
      · intro g
        obtain ⟨mo', an', rr', t1, t2, t3, t4, t5, t6, t7⟩ := g.2.2.2 r0
        have em : mo' = mo := (ni_inj (by omega) (by omega)).mp (t1.symm.trans (r3.trans s1))
        have ea : an' = e.2.2.1.length := (ni_inj (by omega) (by omega)).mp (t2.symm.trans b29)
        have er : rr' = rr := (ni_inj (by omega) (by omega)).mp (t3.symm.trans b32)
        rw [em, ea, er] at t7
        exact t7
      · intro g
        exact ⟨fun u => absurd (r0.symm.trans u) (by decide), fun u => absurd (r0.symm.trans u) (by decide), fun u => absurd (r0.symm.trans u) (by decide), fun _ => ⟨mo, e.2.2.1.length, rr, r3.trans s1, b29, b32, s3, e4, by omega, g⟩⟩
    rw [gd]
    unfold SgR sgS
    have pe : sgP h M Lo mp j = fun x => ¬ h.bi (M + 35) x < y.1.2.1 ∧ ¬ y.1.2.2.1 < h.bi (M + 35) x ∧ nowF Lo mp (h.bi (M + 35) x) ≠ none := by
      funext x
      unfold sgP
      rw [r1, r2]
    rw [pe]
  · exact quiet z (by rcases fl with u | u
                      · rw [if_pos u] at r0; rw [r0]; decide
                      · rw [if_neg (by rw [u]; decide)] at r0; rw [r0]; decide)
  · exact quiet z (by rw [r0]; decide)
  · exact quiet z (by rw [r0]; decide)
end RPL
