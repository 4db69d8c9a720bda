/-! a transaction -/
/-- a call kept: what it was, and what it answered -/
abbrev Ck : Type := Clq × Option AnD
def CA (g : Nat → Nat) (h : Hp) (scr c : Nat) (d : Ck) : Prop := Cr h c d.1 ∧ g c = c ∧ (match d.2 with
  | none => h.fr 506 c = none
  | some e => ∃ a ka va, h.fr 506 c = some a ∧ a ≠ scr ∧ An g h a e.2.2.1.length ka va (e.1, e.2.1, e.2.2.1, none))
/-- what may change as a whole: a root that is no entry, no call, no answer but the scratch -/
def Rt (g : Nat → Nat) (h : Hp) (scr p : Nat) : Prop := g p = p ∧ h.kd p ≠ 7 ∧ h.kd p ≠ 5 ∧ (h.kd p = 3 → p = scr)
theorem rt_new {g : Nat → Nat} {h : Hp} {scr p : Nat} (w : Wf g h) (hp : h.nx ≤ p) : Rt g h scr p := by
  have := w.1 p hp
  exact ⟨w.2.2.2.2 p hp, by omega, by omega, fun z => by omega⟩
theorem Rt.fr {g g' : Nat → Nat} {q : Nat} {h h' : Hp} {scr p : Nat} (r : Rt g h scr p) (hp : p < h.nx) (F : Fr g g' q h h') : Rt g' h' scr p := by
  have hk := F.2.2.1.1 p hp
  exact ⟨(F.1 p hp).trans r.1, by rw [hk]; exact r.2.1, by rw [hk]; exact r.2.2.1, by rw [hk]; exact r.2.2.2⟩
theorem CA.fr1 {g g' : Nat → Nat} {p : Nat} {h h' : Hp} {scr c : Nat} {d : Ck} (q : CA g h scr c d) (w : Wf g h) (F : Fr g g' p h h') (hr : g p = p) (n1 : c ≠ p) (hs : h.kd p = 3 → p = scr) : CA g' h' scr c d := by
  obtain ⟨q1, q2, q3⟩ := q
  have u1 := nun_root q2 n1
  have ag := F.ag w q1.1 (by decide) u1
  refine ⟨q1.fr w F u1, (F.gg w q1.1 (by decide)).trans q2, ?_⟩
  cases e : d.2 with
  | none => rw [e] at q3; exact (ag.fr _).trans q3
  | some e2 =>
    rw [e] at q3
    obtain ⟨a, ka, va, z1, z2, z3⟩ := q3
    have n2 : a ≠ p := fun z => z2 (by rw [z]; exact hs (by rw [← z]; exact z3.1))
    have n3 : p ≠ ka := fun z => by
      have h1 := z3.2.2.2.2.2.2.1
      rw [← z, hr] at h1
      exact n2 h1.symm
    have n4 : p ≠ va := fun z => by
      have h1 := z3.2.2.2.2.2.2.2.1
      rw [← z, hr] at h1
      exact n2 h1.symm
    exact ⟨a, ka, va, (ag.fr _).trans z1, z2, z3.fr w F (nun_root z3.2.1 n2) ⟨n3, n4⟩⟩
theorem CA.fr {g g' : Nat → Nat} {p : Nat} {h h' : Hp} {scr c : Nat} {d : Ck} (q : CA g h scr c d) (w : Wf g h) (F : Fr g g' p h h') (r : Rt g h scr p) : CA g' h' scr c d := q.fr1 w F r.1 (fun z => r.2.2.1 (by rw [← z]; exact q.1.1)) r.2.2.2
/-- the calls of a transaction, in the list l -/
def CsL (g : Nat → Nat) (h : Hp) (scr l : Nat) (cs : List (Nat × Ck)) : Prop := Al g h l (cs.map (fun y => y.1)) ∧ ∀ y ∈ cs, CA g h scr y.1 y.2
theorem CsL.fr {g g' : Nat → Nat} {p : Nat} {h h' : Hp} {scr l : Nat} {cs : List (Nat × Ck)} (q : CsL g h scr l cs) (w : Wf g h) (F : Fr g g' p h h') (r : Rt g h scr p) (s : Sep g p l) : CsL g' h' scr l cs := ⟨q.1.fr w F s, fun y hy => (q.2 y hy).fr w F r⟩
/-- where the parts of a transaction lie: view, own shelf, its list, places, spans, lows, highs, calls -/
abbrev Ad : Type := Nat × Nat × Nat × Nat × Nat × Nat × Nat × Nat
/-- what a transaction holds beside its fields: own shelf, own writes, places, count of writes, spans, calls -/
abbrev Td : Type := Shf × List Kv × List Nat × Nat × List Iv × List (Nat × Ck)
def Tr (g : Nat → Nat) (h : Hp) (S scr t : Nat) (F : Nat → Int32) (a : Ad) (d : Td) : Prop :=
  h.kd t = 10 ∧ g t = t ∧ (∀ f, h.fi f t = F f) ∧
  (h.fr 1002 t = some a.1 ∧ g a.1 = a.1 ∧ VW g h a.1 S a.2.1 a.2.2.1 a.2.2.2.1 (F 1001) (F 1000) d.1 d.2.2.1 d.2.2.2.1 ∧ BkL d.1 d.2.1 ∧ Asc d.2.1) ∧
  (h.fr 1003 t = some a.2.2.2.2.1 ∧ g a.2.2.2.2.1 = t ∧ Sn g h a.2.2.2.2.1 a.2.2.2.2.2.1 a.2.2.2.2.2.2.1 d.2.2.2.2.1 ∧ Can d.2.2.2.2.1) ∧
  h.fr 1004 t = some a.2.2.2.2.2.2.2 ∧ g a.2.2.2.2.2.2.2 = t ∧ CsL g h scr a.2.2.2.2.2.2.2 d.2.2.2.2.2
theorem Tr.fr {g g' : Nat → Nat} {p : Nat} {h h' : Hp} {S scr t : Nat} {F : Nat → Int32} {a : Ad} {d : Td} (q : Tr g h S scr t F a d) (w : Wf g h) (Fp : Fr g g' p h h') (r : Rt g h scr p) (n : t ≠ p) (n2 : a.1 ≠ p) : Tr g' h' S scr t F a d := by
  obtain ⟨q1, q2, q3, ⟨v1, v2, v3, v4, v5⟩, ⟨s1, s2, s3, s4⟩, c1, c2, c3⟩ := q
  have sp := sep_roots r.1 q2 (Ne.symm n)
  have ag := Fp.ag w q1 (by decide) sp.1
  have kl : h.kd a.2.2.2.2.2.2.2 = 2 := c3.1.1
  exact ⟨Fp.kd w q1 (by decide), (Fp.gg w q1 (by decide)).trans q2, fun f => (ag.fi f).trans (q3 f), ⟨(ag.fr _).trans v1, (Fp.gg w v3.1.1 (by decide)).trans v2, v3.fr w Fp r.2.1 (sep_roots r.1 v2 (Ne.symm n2)), v4, v5⟩, ⟨(ag.fr _).trans s1, (Fp.gg w s3.1 (by decide)).trans s2, s3.fr w Fp (sp.ch s2), s4⟩, (ag.fr _).trans c1, (Fp.gg w kl (by decide)).trans c2, c3.fr w Fp r (sp.ch c2)⟩
/-- a field of it written -/
theorem Cr.sfi {h : Hp} {c : Nat} {d : Clq} (q : Cr h c d) (f a : Nat) (v : Int32) (n : 1000 ≤ f) : Cr (h.sfi f a v) c d := by
  obtain ⟨q1, q2, q3, q4, q5, q6, q7⟩ := q
  exact ⟨q1, (fi_oth (by omega)).trans q2, (fi_oth (by omega)).trans q3, (fi_oth (by omega)).trans q4, (fi_oth (by omega)).trans q5, (fi_oth (by omega)).trans q6, q7⟩
theorem An.sfi {g : Nat → Nat} {h : Hp} {a n ka va : Nat} {d : AnD} (q : An g h a n ka va d) (f b : Nat) (v : Int32) (hf : 1000 ≤ f) : An g (h.sfi f b v) a n ka va d := by
  have e : ∀ f', f' < 1000 → (h.sfi f b v).fi f' a = h.fi f' a := fun f' z => fi_oth (by omega)
  refine an_field q rfl rfl rfl rfl rfl ?_ ?_ ?_ (Or.inl rfl) ?_
  · rw [e _ (by decide)]; exact q.2.2.2.2.2.2.2.2.2.2.2.1
  · have h1 := q.2.2.2.2.2.2.2.2.2.2.2.2.1
    unfold Fo at *
    cases hd : d.2.1 with
    | none => rw [hd] at h1; simp only [e _ (show 301 < 1000 by decide), e _ (show 302 < 1000 by decide)]; exact h1
    | some y => rw [hd] at h1; simp only [e _ (show 301 < 1000 by decide), e _ (show 302 < 1000 by decide)]; exact h1
  · rw [e _ (by decide)]; exact q.2.2.2.2.2.2.2.2.2.2.2.2.2.1
  · have h1 := q.2.2.2.2.2.2.2.2.2.2.2.2.2.2.2.2
    unfold Lo at *
    cases hd : d.2.2.2 with
    | none => rw [hd] at h1; simp only [e _ (show 304 < 1000 by decide)]; exact h1
    | some y => rw [hd] at h1; simp only [e _ (show 304 < 1000 by decide), e _ (show 305 < 1000 by decide), e _ (show 306 < 1000 by decide)]; exact h1
theorem CA.sfi {g : Nat → Nat} {h : Hp} {scr c : Nat} {d : Ck} (q : CA g h scr c d) (f a : Nat) (v : Int32) (n : 1000 ≤ f) : CA g (h.sfi f a v) scr c d := by
  obtain ⟨q1, q2, q3⟩ := q
  refine ⟨q1.sfi f a v n, q2, ?_⟩
  cases e : d.2 with
  | none => rw [e] at q3; exact q3
  | some e2 =>
    rw [e] at q3
    obtain ⟨b, ka, va, z1, z2, z3⟩ := q3
    exact ⟨b, ka, va, z1, z2, z3.sfi f a v n⟩
theorem CsL.sfi {g : Nat → Nat} {h : Hp} {scr l : Nat} {cs : List (Nat × Ck)} (q : CsL g h scr l cs) (f a : Nat) (v : Int32) (n : 1000 ≤ f) : CsL g (h.sfi f a v) scr l cs := ⟨q.1.sfi f a v (by omega), fun y hy => (q.2 y hy).sfi f a v n⟩
theorem VW.sfi {g : Nat → Nat} {h : Hp} {v S O lO pl : Nat} {st ow : Int32} {A : Shf} {P : List Nat} {n : Nat} (q : VW g h v S O lO pl st ow A P n) (f a : Nat) (x : Int32) (h1 : 1000 ≤ f) (h2 : f < 1100 ∨ 1200 ≤ f) : VW g (h.sfi f a x) v S O lO pl st ow A P n := by
  obtain ⟨⟨a1, a2, a3, a4, a5, a6, a7, a8, a9, a10, a11, a12, a13, a14, a15, a16, a17⟩, s⟩ := q
  exact ⟨⟨a1, a2, a3, (fi_oth (by omega)).trans a4, (fi_oth (by omega)).trans a5, a6, a7, a8, a9, a10, a11, a12, (fi_oth (by omega)).trans a13, a14, (fi_oth (by omega)).trans a15, a16, a17⟩, s.sfi f a x (by omega)⟩
theorem Sn.sfi {g : Nat → Nat} {h : Hp} {s la ha : Nat} {sp : List Iv} (q : Sn g h s la ha sp) (f a : Nat) (v : Int32) (n : f ≠ 902) : Sn g (h.sfi f a v) s la ha sp := by
  obtain ⟨a1, a2, a3, a4, a5, a6, a7, a8, a9, a10, a11, a12, a13, a14⟩ := q
  exact ⟨a1, a2, a3, a4, a5, a6, a7, a8, a9, a10, a11, a12, (fi_oth (Ne.symm n)).trans a13, a14⟩
theorem Tr.sfi {g : Nat → Nat} {h : Hp} {S scr t : Nat} {F : Nat → Int32} {a : Ad} {d : Td} (q : Tr g h S scr t F a d) (f : Nat) (v : Int32) (h1 : 1002 ≤ f) (h2 : f < 1100) : Tr g (h.sfi f t v) S scr t (va_up F f v) a d := by
  obtain ⟨q1, q2, q3, ⟨v1, v2, v3, v4, v5⟩, ⟨s1, s2, s3, s4⟩, c1, c2, c3⟩ := q
  refine ⟨q1, q2, ?_, ⟨v1, v2, ?_, v4, v5⟩, ⟨s1, s2, s3.sfi f t v (by omega), s4⟩, c1, c2, c3.sfi f t v (by omega)⟩
  · intro f'
    by_cases z : f' = f
    · rw [z, fi_same, va_up_self]
    · rw [fi_oth z, va_up_ne _ _ z]; exact q3 f'
  · rw [va_up_ne _ _ (by omega), va_up_ne _ _ (by omega)]
    exact v3.sfi f t v (by omega) (by omega)
