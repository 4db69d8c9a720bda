/-! scan: the rows are the same -/
/-- a full list of what can be seen in a range -/
def FulK (vs : Int32 → Option Int64) (nx : Int) (to : Int32) (K : List (Int32 × Int64)) : Prop := K.Pairwise (fun x y => x.1.toInt < y.1.toInt) ∧ (∀ y ∈ K, vs y.1 = some y.2 ∧ nx ≤ y.1.toInt ∧ y.1.toInt ≤ to.toInt) ∧ ∀ z : Int32, nx ≤ z.toInt → z.toInt ≤ to.toInt → vs z ≠ none → ∃ x, (z, x) ∈ K
theorem scan_pre {vs : Int32 → Option Int64} {to : Int32} : ∀ (most : Nat) (nx : Int) (R K : List (Int32 × Int64)), ScanR vs to most nx R → FulK vs nx to K → R = K.take most := by
  intro most
  induction most with
  | zero => intro nx R K s _; exact s
  | succ m ih =>
    intro nx R K s f
    rcases s with ⟨s1, s2⟩ | ⟨y, x, R', s1, s2, s3, s4, s5, s6⟩
    · rw [s1]
      cases K with
      | nil => rfl
      | cons k0 K' =>
        obtain ⟨a1, a2, a3⟩ := f.2.1 k0 List.mem_cons_self
        exact absurd (s2 k0.1 a2 a3) (by rw [a1]; exact fun u => nomatch u)
    · obtain ⟨x', hx'⟩ := f.2.2 y s3 s4 (by rw [s2]; exact fun u => nomatch u)
      cases K with
      | nil => cases hx'
      | cons k0 K' =>
        obtain ⟨p1, p2⟩ := List.pairwise_cons.mp f.1
        obtain ⟨a1, a2, a3⟩ := f.2.1 k0 List.mem_cons_self
        have le := s5 k0.1 a2 (by rw [a1]; exact fun u => nomatch u)
        have ey : y = k0.1 := by
          rcases List.mem_cons.mp hx' with z | z
          · rw [← z]
          · have : k0.1.toInt < y.toInt := p1 _ z
            omega
        have ex : x = k0.2 := by
          rw [ey, a1] at s2
          exact (Option.some.inj s2).symm
        have f' : FulK vs (y.toInt + 1) to K' := by
          refine ⟨p2, fun z hz => ?_, fun z z1 z2 z3 => ?_⟩
          · obtain ⟨b1, b2, b3⟩ := f.2.1 z (List.mem_cons_of_mem _ hz)
            have := p1 z hz
            exact ⟨b1, by rw [ey]; omega, b3⟩
          · obtain ⟨x2, hx2⟩ := f.2.2 z (by omega) z2 z3
            rcases List.mem_cons.mp hx2 with u | u
            · have : z = k0.1 := by rw [← u]
              rw [this, ← ey] at z1
              omega
            · exact ⟨x2, u⟩
        rw [s1, ih _ _ _ s6 f', List.take_succ_cons]
        congr 1
        rw [ey, ex]
def kL (vs : Int32 → Option Int64) (A : Nat → Int32) (a z : Int32) : Nat → List (Int32 × Int64)
  | 0 => []
  | n + 1 => kL vs A a z n ++ (match vs (A n) with | some x => if ¬ A n < a ∧ ¬ z < A n then [(A n, x)] else [] | none => [])
section SCA
variable {h h1 h2 h' : Hp} {M b c w l v k r clk : Nat} {G G' : Nat → Int32} {fv fv' : Int64} {V : List Kv} {ts : List Nat} {D D' : Nat → TD} {ac cm : List Nat} {ct rs : Nat → Int32} {R R' : List (Int32 × Int64)}
theorem kL_s {vs : Int32 → Option Int64} {A : Nat → Int32} {a z : Int32} (n : Nat) : ((¬ A n < a ∧ ¬ z < A n ∧ vs (A n) ≠ none) ∧ ∃ x, vs (A n) = some x ∧ kL vs A a z (n + 1) = kL vs A a z n ++ [(A n, x)]) ∨ (¬ (¬ A n < a ∧ ¬ z < A n ∧ vs (A n) ≠ none) ∧ kL vs A a z (n + 1) = kL vs A a z n) := by
  have e : kL vs A a z (n + 1) = kL vs A a z n ++ (match vs (A n) with | some x => if ¬ A n < a ∧ ¬ z < A n then [(A n, x)] else [] | none => []) := rfl
  rw [e]
  cases y : vs (A n) with
  | none =>
    refine Or.inr ⟨fun u => u.2.2 rfl, ?_⟩
    exact List.append_nil _
  | some x =>
    by_cases c : ¬ A n < a ∧ ¬ z < A n
    · refine Or.inl ⟨⟨c.1, c.2, fun u => (nomatch u)⟩, x, rfl, ?_⟩
      show _ ++ (if ¬ A n < a ∧ ¬ z < A n then [(A n, x)] else []) = _
      rw [if_pos c]
    · refine Or.inr ⟨fun u => c ⟨u.1, u.2.1⟩, ?_⟩
      show _ ++ (if ¬ A n < a ∧ ¬ z < A n then [(A n, x)] else []) = _
      rw [if_neg c, List.append_nil]
theorem kL_len {vs : Int32 → Option Int64} {A : Nat → Int32} {a z : Int32} : ∀ n, (kL vs A a z n).length = cntQ (fun j => ¬ A j < a ∧ ¬ z < A j ∧ vs (A j) ≠ none) n := by
  intro n
  induction n with
  | zero => rfl
  | succ n ih =>
    have cs : cntQ (fun j => ¬ A j < a ∧ ¬ z < A j ∧ vs (A j) ≠ none) (n + 1) = cntQ (fun j => ¬ A j < a ∧ ¬ z < A j ∧ vs (A j) ≠ none) n + @ite Nat (¬ A n < a ∧ ¬ z < A n ∧ vs (A n) ≠ none) (Classical.propDecidable _) 1 0 := rfl
    rcases kL_s (vs := vs) (A := A) (a := a) (z := z) n with ⟨y1, x, _, y2⟩ | ⟨y1, y2⟩
    · rw [if_pos y1] at cs
      rw [y2, cs, List.length_append, ih]; rfl
    · rw [if_neg y1] at cs
      rw [y2, cs, ih]; rfl
theorem kL_mem {vs : Int32 → Option Int64} {A : Nat → Int32} {a z : Int32} (y : Int32 × Int64) : ∀ n, y ∈ kL vs A a z n ↔ ∃ j, j < n ∧ (¬ A j < a ∧ ¬ z < A j) ∧ vs (A j) = some y.2 ∧ A j = y.1 := by
  intro n
  induction n with
  | zero => exact ⟨fun u => (nomatch u), fun ⟨j, hj, _⟩ => by omega⟩
  | succ n ih =>
    rcases kL_s (vs := vs) (A := A) (a := a) (z := z) n with ⟨y1, x, y3, y2⟩ | ⟨y1, y2⟩
    · rw [y2, List.mem_append, ih, List.mem_singleton]
      constructor
      · rintro (⟨j, j1, j2⟩ | e)
        · exact ⟨j, by omega, j2⟩
        · rw [e]; exact ⟨n, by omega, ⟨y1.1, y1.2.1⟩, y3, rfl⟩
      · rintro ⟨j, j1, j2, j3, j4⟩
        by_cases e : j = n
        · rw [e] at j3 j4
          rw [y3] at j3
          exact Or.inr (Prod.ext j4.symm (Option.some.inj j3).symm)
        · exact Or.inl ⟨j, by omega, j2, j3, j4⟩
    · rw [y2, ih]
      constructor
      · rintro ⟨j, j1, j2⟩; exact ⟨j, by omega, j2⟩
      · rintro ⟨j, j1, j2, j3, j4⟩
        by_cases e : j = n
        · rw [e] at j2 j3
          exact absurd ⟨j2.1, j2.2, by rw [j3]; exact fun u => nomatch u⟩ y1
        · exact ⟨j, by omega, j2, j3, j4⟩
theorem kL_ful {vs : Int32 → Option Int64} {A : Nat → Int32} {a z : Int32} {m : Nat} (so : ∀ i j, i < j → j < m → A i < A j) (inA : ∀ y, vs y ≠ none → ∃ j, j < m ∧ A j = y) : FulK vs a.toInt z (kL vs A a z m) := by
  refine ⟨?_, fun y hy => ?_, fun y y1 y2 y3 => ?_⟩
  · have : ∀ n, n ≤ m → (kL vs A a z n).Pairwise (fun x y => x.1.toInt < y.1.toInt) := by
      intro n
      induction n with
      | zero => intro _; exact List.Pairwise.nil
      | succ n ih =>
        intro hn
        rcases kL_s (vs := vs) (A := A) (a := a) (z := z) n with ⟨y1, x, y3, y2⟩ | ⟨y1, y2⟩
        · rw [y2]
          refine List.pairwise_append.mpr ⟨ih (by omega), List.pairwise_singleton _ _, fun x hx y hy => ?_⟩
          rw [List.mem_singleton.mp hy]
          obtain ⟨j, j1, _, _, j4⟩ := (kL_mem x n).mp hx
          have := so j n j1 (by omega)
          rw [j4, Int32.lt_iff_toInt_lt] at this
          exact this
        · rw [y2]; exact ih (by omega)
    exact this m (Nat.le_refl _)
  · obtain ⟨j, j1, ⟨j2, j3⟩, j4, j5⟩ := (kL_mem y m).mp hy
    rw [j5] at j2 j3 j4
    rw [Int32.lt_iff_toInt_lt] at j2 j3
    exact ⟨j4, by omega, by omega⟩
  · obtain ⟨j, j1, j2⟩ := inA y y3
    cases e : vs y with
    | none => exact absurd e y3
    | some x =>
      refine ⟨x, (kL_mem (y, x) m).mpr ⟨j, j1, ⟨?_, ?_⟩, by rw [j2]; exact e, j2⟩⟩
      · rw [j2, Int32.lt_iff_toInt_lt]; omega
      · rw [j2, Int32.lt_iff_toInt_lt]; omega
theorem kL_pre {vs : Int32 → Option Int64} {A : Nat → Int32} {a z : Int32} {i : Nat} : ∀ m, i ≤ m → ∃ T, kL vs A a z m = kL vs A a z i ++ T := by
  intro m
  induction m with
  | zero => intro hi; rw [show i = 0 by omega]; exact ⟨[], rfl⟩
  | succ m ih =>
    intro hi
    by_cases e : i = m + 1
    · rw [e]; exact ⟨[], (List.append_nil _).symm⟩
    · obtain ⟨T, hT⟩ := ih (by omega)
      exact ⟨_, by show kL vs A a z m ++ _ = _; rw [hT, List.append_assoc]⟩
theorem kL_get {vs : Int32 → Option Int64} {A : Nat → Int32} {a z : Int32} {x : Nat} {y : Int32 × Int64} : ∀ n, (kL vs A a z n)[x]? = some y → ∃ j, j < n ∧ (¬ A j < a ∧ ¬ z < A j ∧ vs (A j) ≠ none) ∧ cntQ (fun j => ¬ A j < a ∧ ¬ z < A j ∧ vs (A j) ≠ none) j = x ∧ A j = y.1 ∧ vs (A j) = some y.2 := by
  intro n
  induction n with
  | zero => intro e; exact nomatch e
  | succ n ih =>
    intro e
    rcases kL_s (vs := vs) (A := A) (a := a) (z := z) n with ⟨y1, u, y3, y2⟩ | ⟨y1, y2⟩
    · rw [y2] at e
      by_cases xl : x < (kL vs A a z n).length
      · rw [List.getElem?_append_left xl] at e
        obtain ⟨j, j1, j2⟩ := ih e
        exact ⟨j, by omega, j2⟩
      · have xx : x = (kL vs A a z n).length := by
          have : x < (kL vs A a z n ++ [(A n, u)]).length := by
            rcases Nat.lt_or_ge x (kL vs A a z n ++ [(A n, u)]).length with q | q
            · exact q
            · rw [List.getElem?_eq_none q] at e; cases e
          rw [List.length_append, List.length_singleton] at this
          omega
        rw [xx, List.getElem?_append_right (Nat.le_refl _), Nat.sub_self] at e
        have ey : (A n, u) = y := Option.some.inj e
        exact ⟨n, by omega, y1, by rw [xx, kL_len], by rw [← ey], by rw [← ey]; exact y3⟩
    · rw [y2] at e
      obtain ⟨j, j1, j2⟩ := ih e
      exact ⟨j, by omega, j2⟩
theorem scan_eq {t n0 m i most : Nat} {L : List Kv} {P : List Nat} {a z : Int32} {s : Hp × Int32 × Int32} {d : AnD} {n : Nat} (hw : w ≤ 512) (hv : v ≤ 512) (ow : OwnR h M w t L P n0) (ve : Veq h M b w v V) (gs : GkS (h.bi (M + 12)) w m (h.bi (M + 35))) (sa : ScanA (visL L V (h.bi (M + 3) t)) a z most d) (im : i ≤ m) (sc : ScI h M w v r t (h.bi (M + 35)) a z most i s) (en : s.2.1 = nI n) (nm : n ≤ most) (m100 : most ≤ 100) (fin : n = most ∨ i = m) : ∃ R, d = (nI n, none, R, some (a, s.2.2)) ∧ R.length = n ∧ ∀ (x : Nat) (y : Int32 × Int64), R[x]? = some y → s.1.bi (M + 33) (r + x) = y.1 ∧ s.1.bw (M + 34) (r + x) = y.2 := by
  obtain ⟨vs, evs⟩ : ∃ vs, vs = visL L V (h.bi (M + 3) t) := ⟨_, rfl⟩
  have see : ∀ y, seeB h M w v t y ↔ vs y ≠ none := by
    intro y
    rw [evs]
    rcases vis_eq hw hv ow ve y with ⟨a1, a2⟩ | ⟨x, a1, a2, _⟩
    · rw [a1]; exact ⟨fun u => absurd u a2, fun u => absurd rfl u⟩
    · rw [a1]; exact ⟨fun _ u => (nomatch u), fun _ => a2⟩
  have val : ∀ y x x', vs y = some x → seeV h M w v t y x' → x = x' := by
    intro y x x' e1 e2
    rw [evs] at e1
    rcases vis_eq hw hv ow ve y with ⟨a1, a2⟩ | ⟨x2, a1, a2, a3⟩
    · rw [a1] at e1; cases e1
    · rw [a1] at e1
      rw [← Option.some.inj e1]
      exact seeV.uniq hw hv a3 e2
  have inA : ∀ y, vs y ≠ none → ∃ j, j < m ∧ h.bi (M + 35) j = y := fun y hy => (gs.2 y).mpr (seeB_key hw hv ve ((see y).mpr hy))
  have Qe : scP h M w v t (h.bi (M + 35)) a z = fun j => ¬ h.bi (M + 35) j < a ∧ ¬ z < h.bi (M + 35) j ∧ vs (h.bi (M + 35) j) ≠ none := by
    funext j
    unfold scP
    rw [propext (see (h.bi (M + 35) j))]
  obtain ⟨f, d0, d1, d2, d3, d4, d5⟩ := sc
  rw [Qe] at d2 d3
  have dn : d0 = n := by
    have : d0 ≤ most := by rcases d5 with y | y <;> omega
    exact (ni_inj (by omega) (by omega)).mp (d1.symm.trans en)
  rw [dn] at d2 d5
  rw [← evs] at sa
  obtain ⟨R, r1, r2⟩ := sa
  have rp := scan_pre most a.toInt R _ r1 (kL_ful (A := h.bi (M + 35)) (m := m) gs.1 inA)
  have li := kL_len (vs := vs) (A := h.bi (M + 35)) (a := a) (z := z) i
  have lm := kL_len (vs := vs) (A := h.bi (M + 35)) (a := a) (z := z) m
  rw [← d2] at li
  have Rk : R = kL vs (h.bi (M + 35)) a z i := by
    rw [rp]
    rcases fin with y | y
    · obtain ⟨T, hT⟩ := kL_pre (vs := vs) (A := h.bi (M + 35)) (a := a) (z := z) m im
      rw [hT, List.take_append_of_le_length (by omega), List.take_of_length_le (by omega)]
    · rw [← y, List.take_of_length_le (by omega)]
  have Rl : R.length = n := by rw [Rk, li]
  have lk : lastK R most z = s.2.2 := by
    unfold lastK
    rcases d5 with ⟨y1, y2⟩ | ⟨y1, i', y2, y3, y4⟩
    · rw [if_neg (by omega), y2]
    · rw [if_pos (by omega), Rk, y2]
      have y3' : ¬ h.bi (M + 35) i' < a ∧ ¬ z < h.bi (M + 35) i' ∧ vs (h.bi (M + 35) i') ≠ none := by
        have := y3
        rw [Qe] at this
        exact this
      rcases kL_s (vs := vs) (A := h.bi (M + 35)) (a := a) (z := z) i' with ⟨_, x, _, u2⟩ | ⟨u1, _⟩
      · rw [u2, List.getLast?_append]
        exact y4.symm
      · exact absurd y3' u1
  refine ⟨R, by rw [r2, Rl, lk], Rl, fun x y hy => ?_⟩
  rw [Rk] at hy
  obtain ⟨j, j1, j2, j3, j4, j5⟩ := kL_get i hy
  obtain ⟨e1, e2⟩ := d3 j j1 j2
  rw [j3] at e1 e2
  refine ⟨e1.trans j4, ?_⟩
  exact (val _ _ _ j5 e2).symm
end SCA
