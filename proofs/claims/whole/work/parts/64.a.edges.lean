/-! astray: what is drawn, on both sides -/
theorem snoc_of {α : Type} {V : List α} {n : Nat} (hl : V.length = n + 1) : ∃ V0 x, V = V0 ++ [x] ∧ V0.length = n := by
  rcases List.eq_nil_or_concat V with z | ⟨V0, x, z⟩
  · rw [z] at hl; cases hl
  · refine ⟨V0, x, by rw [z, List.concat_eq_append], ?_⟩
    rw [z, List.concat_eq_append, List.length_append, List.length_singleton] at hl
    omega
theorem get_lt {α : Type} {V : List α} {j : Nat} {y : α} (hy : V[j]? = some y) : j < V.length := by
  rcases Nat.lt_or_ge j V.length with q | q
  · exact q
  · rw [List.getElem?_eq_none q] at hy; cases hy
theorem get_up {α : Type} {V : List α} {x y : α} {j : Nat} (hy : V[j]? = some y) : (V ++ [x])[j]? = some y := by
  rw [List.getElem?_append_left (get_lt hy)]; exact hy
theorem get_new {α : Type} {V : List α} {x : α} : (V ++ [x])[V.length]? = some x := by
  rw [List.getElem?_append_right (Nat.le_refl _), Nat.sub_self]; rfl
theorem get_dn {α : Type} {V : List α} {x y : α} {j : Nat} (hy : (V ++ [x])[j]? = some y) : (j < V.length ∧ V[j]? = some y) ∨ (j = V.length ∧ y = x) := by
  rcases Nat.lt_or_ge j V.length with q | q
  · left; rw [List.getElem?_append_left q] at hy; exact ⟨q, hy⟩
  · right
    have := get_lt hy
    rw [List.length_append, List.length_singleton] at this
    have e : j = V.length := by omega
    rw [e, get_new] at hy
    exact ⟨e, (Option.some.inj hy).symm⟩
theorem chn_head (key : Int32) : ∀ (n : Nat) (V : List Kv), V.length = n → (chn V key = [] ∧ ∀ (u : Nat) (z : Kv), V[u]? = some z → z.1 ≠ key) ∨ ∃ (i : Nat) (e : Ent) (L : List Ent), chn V key = e :: L ∧ V[i]? = some (key, e) ∧ ∀ (u : Nat) (z : Kv), i < u → V[u]? = some z → z.1 ≠ key := by
  intro n
  induction n with
  | zero =>
    intro V hl
    rw [List.length_eq_zero_iff.mp hl]
    exact Or.inl ⟨rfl, fun u z hz => nomatch hz⟩
  | succ n ih =>
    intro V hl
    obtain ⟨V0, x, eV, l0⟩ := snoc_of hl
    have ex : x = (x.1, x.2) := rfl
    have ec : chn V key = if key = x.1 then x.2 :: chn V0 x.1 else chn V0 key := by
      rw [eV, ex, chn_add]
    by_cases zk : key = x.1
    · rw [if_pos zk] at ec
      refine Or.inr ⟨V0.length, x.2, _, ec, by rw [eV, get_new, zk], fun u z hu hz => ?_⟩
      have := get_lt hz
      rw [eV, List.length_append, List.length_singleton] at this
      omega
    · rw [if_neg zk] at ec
      rcases ih V0 l0 with ⟨a, b⟩ | ⟨i, e, L, a, b, c⟩
      · refine Or.inl ⟨ec.trans a, fun u z hz => ?_⟩
        rw [eV] at hz
        rcases get_dn hz with ⟨_, y⟩ | ⟨_, y⟩
        · exact b u z y
        · rw [y]; exact fun w => zk w.symm
      · refine Or.inr ⟨i, e, L, ec.trans a, by rw [eV]; exact get_up b, fun u z hu hz => ?_⟩
        rw [eV] at hz
        rcases get_dn hz with ⟨_, y⟩ | ⟨_, y⟩
        · exact c u z hu y
        · rw [y]; exact fun w => zk w.symm
/-- two versions of a key, one behind the other -/
def Adj (V : List Kv) (key : Int32) (i j : Nat) (x y : Kv) : Prop := i < j ∧ V[i]? = some x ∧ V[j]? = some y ∧ x.1 = key ∧ y.1 = key ∧ ∀ (u : Nat) (z : Kv), i < u → u < j → V[u]? = some z → z.1 ≠ key
theorem dr_ix (key : Int32) (a b : Nat) : ∀ (n : Nat) (V : List Kv), V.length = n → (DrP (chn V key) a b ↔ ∃ i j x y, Adj V key i j x y ∧ Sp x.2.1 a ∧ Sp y.2.1 b ∧ a ≠ b) := by
  intro n
  induction n with
  | zero =>
    intro V hl
    rw [List.length_eq_zero_iff.mp hl]
    exact ⟨fun z => z.elim, fun ⟨i, j, x, y, ⟨_, z, _⟩, _⟩ => nomatch z⟩
  | succ n ih =>
    intro V hl
    obtain ⟨V0, x, eV, l0⟩ := snoc_of hl
    have ex : x = (x.1, x.2) := rfl
    have ec : chn V key = if key = x.1 then x.2 :: chn V0 x.1 else chn V0 key := by
      rw [eV, ex, chn_add]
    have up : ∀ i j y z, Adj V0 key i j y z → Adj V key i j y z := by
      rintro i j y z ⟨a1, a2, a3, a4, a5, a6⟩
      rw [eV]
      refine ⟨a1, get_up a2, get_up a3, a4, a5, fun u t h1 h2 h3 => ?_⟩
      rcases get_dn h3 with ⟨_, y⟩ | ⟨y, _⟩
      · exact a6 u t h1 h2 y
      · have := get_lt a3; omega
    have dn : ∀ i j y z, Adj V key i j y z → j < V0.length → Adj V0 key i j y z := by
      rintro i j y z ⟨a1, a2, a3, a4, a5, a6⟩ jl
      rw [eV] at a2 a3 a6
      rcases get_dn a2 with ⟨_, b2⟩ | ⟨y, _⟩
      · rcases get_dn a3 with ⟨_, b3⟩ | ⟨y, _⟩
        · exact ⟨a1, b2, b3, a4, a5, fun u t h1 h2 h3 => a6 u t h1 h2 (get_up h3)⟩
        · omega
      · omega
    by_cases zk : key = x.1
    · rw [if_pos zk, ← zk] at ec
      rcases chn_head key V0.length V0 rfl with ⟨h1, h2⟩ | ⟨i0, e, L, h1, h2, h3⟩
      · rw [ec, h1]
        refine ⟨fun z => z.elim, fun ⟨i, j, y, z, ad, _⟩ => ?_⟩
        obtain ⟨a1, a2, a3, a4, _⟩ := ad
        rw [eV] at a2
        rcases get_dn a2 with ⟨_, b2⟩ | ⟨u, _⟩
        · exact absurd a4 (h2 i y b2)
        · rw [eV] at a3
          have := get_lt a3
          rw [List.length_append, List.length_singleton] at this
          omega
      · have e2 : DrP (chn V key) a b ↔ ((Sp e.1 a ∧ Sp x.2.1 b ∧ a ≠ b) ∨ DrP (chn V0 key) a b) := by
          rw [ec, h1]
          exact Iff.rfl
        rw [e2, ih V0 l0]
        constructor
        · rintro (⟨s1, s2, s3⟩ | ⟨i, j, y, z, ad, s⟩)
          · refine ⟨i0, V0.length, (key, e), x, ⟨get_lt h2, by rw [eV]; exact get_up h2, by rw [eV]; exact get_new, rfl, zk.symm, fun u t u1 u2 u3 => ?_⟩, s1, s2, s3⟩
            rw [eV] at u3
            rcases get_dn u3 with ⟨_, y⟩ | ⟨y, _⟩
            · exact h3 u t u1 y
            · omega
          · exact ⟨i, j, y, z, up i j y z ad, s⟩
        · rintro ⟨i, j, y, z, ad, s⟩
          have ad' := ad
          obtain ⟨a1, a2, a3, a4, a5, a6⟩ := ad'
          rw [eV] at a3
          rcases get_dn a3 with ⟨jl, _⟩ | ⟨jl, ez⟩
          · exact Or.inr ⟨i, j, y, z, dn i j y z ad jl, s⟩
          · left
            rw [eV] at a2
            rcases get_dn a2 with ⟨_, b2⟩ | ⟨u, _⟩
            · have ii : i = i0 := by
                rcases Nat.lt_trichotomy i i0 with w | w | w
                · exact absurd rfl (a6 i0 (key, e) w (by have := get_lt h2; omega) (by rw [eV]; exact get_up h2))
                · exact w
                · exact absurd a4 (h3 i y w b2)
              rw [ii, h2] at b2
              have ey : (key, e) = y := Option.some.inj b2
              rw [← ey, ez] at s
              exact s
            · omega
    · rw [if_neg zk] at ec
      rw [ec, ih V0 l0]
      constructor
      · rintro ⟨i, j, y, z, ad, s⟩
        exact ⟨i, j, y, z, up i j y z ad, s⟩
      · rintro ⟨i, j, y, z, ad, s⟩
        refine ⟨i, j, y, z, dn i j y z ad ?_, s⟩
        obtain ⟨a1, a2, a3, a4, a5, a6⟩ := ad
        rw [eV] at a3
        rcases get_dn a3 with ⟨jl, _⟩ | ⟨_, ez⟩
        · exact jl
        · rw [ez] at a5; exact absurd a5.symm zk
theorem last_ex (P : Nat → Prop) : ∀ n, lastS P n (-1) ∨ ∃ j, j < n ∧ lastS P n (nI j) ∧ P j := by
  intro n
  induction n with
  | zero => exact Or.inl (Or.inl ⟨rfl, fun i hi => by omega⟩)
  | succ n ih =>
    by_cases z : P n
    · exact Or.inr ⟨n, by omega, Or.inr ⟨n, by omega, rfl, z, fun j h1 h2 => by omega⟩, z⟩
    · rcases ih with a | ⟨j, j1, a, p⟩
      · left
        rcases a with ⟨_, a⟩ | ⟨i, i1, i2, i3, i4⟩
        · refine Or.inl ⟨rfl, fun i hi => ?_⟩
          by_cases e : i = n
          · rw [e]; exact z
          · exact a i (by omega)
        · refine Or.inr ⟨i, by omega, i2, i3, fun j h1 h2 => ?_⟩
          by_cases e : j = n
          · rw [e]; exact z
          · exact i4 j h1 (by omega)
      · refine Or.inr ⟨j, by omega, ?_, p⟩
        rcases a with ⟨y, a⟩ | ⟨i, i1, i2, i3, i4⟩
        · exact absurd p (a j j1)
        · refine Or.inr ⟨i, by omega, i2, i3, fun j h1 h2 => ?_⟩
          by_cases e : j = n
          · rw [e]; exact z
          · exact i4 j h1 (by omega)
theorem nxt_ex (A : Nat → Int32) (i : Nat) : ∀ v, nxtS A v i (-1) ∨ ∃ j, i < j ∧ j < v ∧ nxtS A v i (nI j) ∧ A j = A i := by
  intro v
  induction v with
  | zero => exact Or.inl (Or.inl ⟨rfl, fun j _ hj => by omega⟩)
  | succ v ih =>
    by_cases ex : ∃ j, i < j ∧ j < v ∧ A j = A i ∧ ∀ u, i < u → u < j → A u ≠ A i
    · obtain ⟨j, j1, j2, j3, j4⟩ := ex
      exact Or.inr ⟨j, j1, by omega, Or.inr ⟨j, j1, by omega, rfl, j3, j4⟩, j3⟩
    · have none_ : ∀ j, i < j → j < v → A j ≠ A i := by
        intro j
        induction j using Nat.strongRecOn with
        | ind j ih2 =>
          intro h1 h2 h3
          exact ex ⟨j, h1, h2, h3, fun u u1 u2 => ih2 u u2 u1 (by omega)⟩
      by_cases z : i < v ∧ A v = A i
      · exact Or.inr ⟨v, z.1, by omega, Or.inr ⟨v, z.1, by omega, rfl, z.2, fun u u1 u2 => none_ u u1 u2⟩, z.2⟩
      · refine Or.inl (Or.inl ⟨rfl, fun j h1 h2 h3 => ?_⟩)
        by_cases e : j = v
        · rw [e] at h1 h3; exact z ⟨h1, h3⟩
        · exact none_ j h1 (by omega) h3
section EDG
variable {h : Hp} {M b c w l v k r clk : Nat} {G : Nat → Int32} {fv : Int64} {B : Shf} {V : List Kv} {ts : List Nat} {D : Nat → TD} {ac cm : List Nat} {ct rs : Nat → Int32} {R : List (Int32 × Int64)}
/-- whose version it is -/
theorem ver_own (q : Cpl h M b c w l v k r clk G fv V ts D ac cm ct rs R) {i : Nat} (hi : i < v) : ∃ m j, cm[m]? = some j ∧ h.bi (M + 20) i = nI (j + 1) ∧ vMo h M i = nI (m + 1) ∧ j < b ∧ m < c := by
  obtain ⟨q1, q2, q3, q4, q5, q6, q7, q8, q9, q10, q11, q12, q13, q14, q15, q16⟩ := q
  have hb := q1.2.2.2.2.2.2.2.1
  obtain ⟨x, hx⟩ : ∃ x, V[i]? = some x := ⟨_, List.getElem?_eq_getElem (by rw [q11.1]; exact hi)⟩
  obtain ⟨_, _, _, _, _, ⟨u, u1, u2, u3, u4⟩, _⟩ := q11.2.2 i x hx
  obtain ⟨j, rfl⟩ : ∃ j, u = j + 1 := ⟨u - 1, by omega⟩
  obtain ⟨m, hm⟩ := q7.2.2 j (by omega) u4
  refine ⟨m, j, hm, u3, ?_, by omega, by have := get_lt hm; omega⟩
  unfold vMo
  rw [u3, ni_clp (by omega), (q7.2.1 m j hm).2.2]
theorem sp_row (q : Cpl h M b c w l v k r clk G fv V ts D ac cm ct rs R) {i a : Nat} (hi : i < v) : Sp (vMo h M i) a ↔ ∃ j, cm[a]? = some j ∧ h.bi (M + 20) i = nI (j + 1) := by
  obtain ⟨m, j, h1, h2, h3, h4, h5⟩ := ver_own q hi
  have hb := q.1.2.2.2.2.2.2.2.1
  have hc := q.1.2.2.2.2.2.2.2.2.1
  constructor
  · rintro ⟨s1, s2⟩
    have : a = m := by
      have := (ni_inj (by omega) (by omega)).mp (s1.symm.trans h3)
      omega
    rw [this]
    exact ⟨j, h1, h2⟩
  · rintro ⟨j', g1, g2⟩
    have q7 := q.2.2.2.2.2.2.1
    have gb := (q7.2.1 a j' g1)
    have e : j' = j := by
      have := (ni_inj (by omega) (by omega)).mp (g2.symm.trans h2)
      omega
    rw [e] at gb
    have al := get_lt g1
    rw [q.2.2.1] at al
    refine ⟨?_, by omega⟩
    rw [h3, ← (q7.2.1 m j h1).2.2, gb.2.2]
theorem sp_com (q : Cpl h M b c w l v k r clk G fv V ts D ac cm ct rs R) {i a : Nat} (hi : i ∈ cm) : Sp ((D i).1 1007) a ↔ cm[a]? = some i := by
  obtain ⟨m, hm⟩ := List.getElem?_of_mem hi
  have q7 := q.2.2.2.2.2.2.1
  have q4 := q.2.2.2.1
  obtain ⟨z1, z2, z3⟩ := q7.2.1 m i hm
  have ml := get_lt hm
  have hc := q.1.2.2.2.2.2.2.2.2.1
  have e3 := q.2.2.1
  rw [(q4 i z1).2.2.2.2.1, z3]
  constructor
  · rintro ⟨s1, s2⟩
    have : m + 1 = a + 1 := (ni_inj (by omega) (by omega)).mp s1
    rw [show a = m by omega]; exact hm
  · intro ha
    have := (q7.2.1 a i ha).2.2
    have al := get_lt ha
    refine ⟨?_, by omega⟩
    rw [← z3, this]
theorem asc_ix (as : Asc V) {i j : Nat} {x y : Kv} (ij : i ≤ j) (hi : V[i]? = some x) (hj : V[j]? = some y) : x.2.1.toInt ≤ y.2.1.toInt := by
  by_cases e : i = j
  · rw [e, hj] at hi
    rw [Option.some.inj hi]; exact Int.le_refl _
  · have hl := get_lt hj
    have := List.pairwise_iff_getElem.mp as i j (by omega) hl (by omega)
    rw [Int32.le_iff_toInt_le] at this
    rw [List.getElem?_eq_getElem (by omega)] at hi
    rw [List.getElem?_eq_getElem hl] at hj
    rw [← Option.some.inj hi, ← Option.some.inj hj]
    exact this
theorem ed_eq (q : Cpl h M b c w l v k r clk G fv V ts D ac cm ct rs R) (pu : Pu B V ts D) (x y : Nat) : Ahd B D cm x y ↔ ∃ j j', cm[x]? = some j ∧ cm[y]? = some j' ∧ eD h M l v v (j + 1) (j' + 1) := by
  have q' := q
  obtain ⟨q1, q2, q3, q4, q5, q6, q7, q8, q9, q10, q11, q12, q13, q14, q15, q16⟩ := q'
  have hb := q1.2.2.2.2.2.2.2.1
  have hc := q1.2.2.2.2.2.2.2.2.1
  have hv := q1.2.2.2.2.2.2.2.2.2.2.2.1
  have hl := q1.2.2.2.2.2.2.2.2.2.2.1
  have as := pu.2.2.2.1
  have rows := ver_rows q11
  have bk : ∀ y ∈ B, y.2 = chn V y.1 := fun y hy => by rw [← pu.2.2.1, look_mem pu.1 (by rw [Prod.eta]; exact hy)]
  have vl : ∀ {i : Nat} {z : Kv}, V[i]? = some z → i < v := fun hz => by rw [← q11.1]; exact get_lt hz
  have vg : ∀ {i : Nat}, i < v → ∃ z, V[i]? = some z := fun hi => ⟨_, List.getElem?_eq_getElem (by rw [q11.1]; exact hi)⟩
  have ninj : ∀ {a a' j j' : Nat}, cm[a]? = some j → cm[a']? = some j' → (a ≠ a' ↔ j + 1 ≠ j' + 1) := by
    intro a a' j j' h1 h2
    constructor
    · intro ne e
      have : j = j' := by omega
      rw [this] at h1
      have z1 := (q7.2.1 a j' h1).2.2
      have z2 := (q7.2.1 a' j' h2).2.2
      have l1 := get_lt h1
      have l2 := get_lt h2
      have := (ni_inj (by omega) (by omega)).mp (z1.symm.trans z2)
      omega
    · intro ne e
      rw [e, h2] at h1
      exact ne (by rw [Option.some.inj h1])
  have jb : ∀ {a j : Nat}, cm[a]? = some j → j < b := fun h1 => (q7.2.1 _ _ h1).1
  have mono : ∀ {i j : Nat}, i ≤ j → j < v → (vMo h M i).toInt ≤ (vMo h M j).toInt := by
    intro i j ij hj
    obtain ⟨z1, hz1⟩ := vg (show i < v by omega)
    obtain ⟨z2, hz2⟩ := vg hj
    have := asc_ix as ij hz1 hz2
    rw [(rows i z1 hz1).2.1, (rows j z2 hz2).2.1] at this
    exact this
  have vrl := ver_last (h := h) (M := M)
  constructor
  · rintro (⟨z, z1, z2⟩ | ⟨i, i1, z, z1, z2, z3⟩)
    · rw [bk z z1] at z2
      obtain ⟨i, j, p, p', ⟨a1, a2, a3, a4, a5, a6⟩, s1, s2, s3⟩ := (dr_ix z.1 x y V.length V rfl).mp z2
      rw [(rows i p a2).2.1] at s1
      rw [(rows j p' a3).2.1] at s2
      obtain ⟨j1, c1, o1⟩ := (sp_row q (vl a2)).mp s1
      obtain ⟨j2, c2, o2⟩ := (sp_row q (vl a3)).mp s2
      have b1 := jb c1
      have b2 := jb c2
      refine ⟨j1, j2, c1, c2, i, vl a2, Or.inl ⟨by omega, by omega, (ninj c1 c2).mp s3, o1, j, Or.inr ⟨j, a1, vl a3, rfl, ?_, fun u u1 u2 => ?_⟩, vl a3, o2⟩⟩
      · rw [← (rows i p a2).1, ← (rows j p' a3).1, a4, a5]
      · obtain ⟨t, ht⟩ := vg (show u < v by have := vl a3; omega)
        rw [← (rows u t ht).1, ← (rows i p a2).1, a4]
        exact a6 u t u1 u2 ht
    · obtain ⟨m, hm⟩ := List.getElem?_of_mem i1
      obtain ⟨ib, ih2, ih3⟩ := q7.2.1 m i hm
      obtain ⟨u, u1, u2, u3, u4⟩ := (q10.1 i ib z.1).mp z2
      have ist : (D i).1 1001 = h.bi (M + 3) (i + 1) := (q4 i ib).2.1
      rw [bk z z1, ist] at z3
      rcases z3 with ⟨e, e1, e2, e3, e4⟩ | ⟨e, e1, e2, e3, e4⟩
      · rcases vrl z.1 (h.bi (M + 3) (i + 1)) v V q11.1 (fun j x hx => ⟨(rows j x hx).1, (rows j x hx).2.1⟩) with ⟨n1, _⟩ | ⟨e', j, n1, n2, n3, n4⟩
        · rw [n1] at e1; cases e1
        · rw [n1] at e1
          rw [Option.some.inj e1] at n4
          have rj := rows j _ n4
          have sp : Sp (vMo h M j) x := by rw [← rj.2.1]; exact e2
          obtain ⟨j1, c1, o1⟩ := (sp_row q n2).mp sp
          have c2 : cm[y]? = some i := (sp_com q i1).mp e3
          have b1 := jb c1
          have k19 : h.bi (M + 19) j = z.1 := rj.1.symm
          have vat : vatC h M z.1 (h.bi (M + 3) (i + 1)) j ∧ ∀ j', j < j' → j' < v → ¬ vatC h M z.1 (h.bi (M + 3) (i + 1)) j' := by
            rcases n3 with ⟨w1, _⟩ | ⟨j0, w1, w2, w3, w4⟩
            · exact absurd w1 (ni_m1 (by omega))
            · rw [← (ni_inj (by omega) (by omega)).mp w2] at w3 w4
              exact ⟨w3, w4⟩
          refine ⟨j1, i, c1, c2, j, n2, Or.inr ⟨u, u1, Or.inl ⟨by omega, by omega, (ninj c1 c2).mp e4, o1, ⟨u2, ih2, ?_, by rw [k19]; exact u4⟩, ?_, ?_⟩⟩⟩
          · rw [k19, Int32.lt_iff_toInt_lt]
            rw [Int32.le_iff_toInt_le] at u3
            omega
          · have := vat.1.2
            rw [Int32.lt_iff_toInt_lt]
            rw [Int32.le_iff_toInt_le] at this
            omega
          · rcases nxt_ex (h.bi (M + 19)) j v with a | ⟨j', a1, a2, a3, a4⟩
            · exact ⟨-1, a, Or.inl rfl⟩
            · exact ⟨nI j', a3, Or.inr ⟨j', rfl, a2, fun le => vat.2 j' a1 a2 ⟨a4.trans k19, le⟩⟩⟩
      · obtain ⟨j, n1, n2, n3⟩ := tw_last V.length V rfl as e e1
        have rj := rows j _ n1
        have jv := vl n1
        have sp : Sp (vMo h M j) y := by rw [← rj.2.1]; exact e3
        obtain ⟨j1, c1, o1⟩ := (sp_row q jv).mp sp
        have c2 : cm[x]? = some i := (sp_com q i1).mp e2
        have b1 := jb c1
        have k19 : h.bi (M + 19) j = z.1 := rj.1.symm
        refine ⟨i, j1, c2, c1, j, jv, Or.inr ⟨u, u1, Or.inr ⟨by omega, by omega, (ninj c2 c1).mp e4, o1, ⟨u2, ih2, ?_, by rw [k19]; exact u4⟩, ?_, ?_⟩⟩⟩
        · rw [k19, Int32.lt_iff_toInt_lt]
          rw [Int32.le_iff_toInt_le] at u3
          omega
        · rw [← rj.2.1]; exact n2
        · rcases last_ex (fun j' => h.bi (M + 19) j' = h.bi (M + 19) j) j with a | ⟨j', a1, a2, a3⟩
          · exact ⟨-1, a, Or.inl rfl⟩
          · refine ⟨nI j', a2, Or.inr ⟨j', rfl, a1, ?_⟩⟩
            obtain ⟨t, ht⟩ := vg (show j' < v by omega)
            rw [← (rows j' t ht).2.1]
            exact n3 j' t a1 ht (by rw [(rows j' t ht).1, a3, k19])
  · rintro ⟨j1, j2, c1, c2, i, iv, ed⟩
    have b1 := jb c1
    have b2 := jb c2
    obtain ⟨z, z1, z2⟩ := has_key q11 pu iv
    obtain ⟨t, ht⟩ := vg iv
    have rt := rows i t ht
    rcases ed with ⟨_, _, ne, o1, j, nx, jv, o2⟩ | ⟨u, ul, ⟨_, _, ne, o1, lk, st, d, nx, dd⟩ | ⟨_, _, ne, o1, lk, st, d, nx, dd⟩⟩
    · left
      refine ⟨z, z1, ?_⟩
      rw [bk z z1, z2, dr_ix _ x y V.length V rfl]
      obtain ⟨t', ht'⟩ := vg jv
      have rt' := rows j t' ht'
      rcases nx with ⟨w, _⟩ | ⟨j', w1, w2, w3, w4, w5⟩
      · exact absurd w (ni_m1 (by omega))
      · rw [← (ni_inj (by omega) (by omega)).mp w3] at w1 w4 w5
        refine ⟨i, j, t, t', ⟨w1, ht, ht', rt.1, rt'.1.trans w4, fun u s u1 u2 hs => ?_⟩, ?_, ?_, (ninj c1 c2).mpr ne⟩
        · rw [(rows u s hs).1]; exact w5 u u1 u2
        · rw [rt.2.1]; exact (sp_row q iv).mpr ⟨j1, c1, o1⟩
        · rw [rt'.2.1]; exact (sp_row q jv).mpr ⟨j2, c2, o2⟩
    · right
      obtain ⟨k1, k2, k3, k4⟩ := lk
      have im : j2 ∈ cm := List.mem_of_getElem? c2
      refine ⟨j2, im, z, z1, ?_, Or.inl ?_⟩
      · rw [q10.1 j2 b2, z2]
        refine ⟨u, ul, k1, ?_, k4⟩
        rw [Int32.lt_iff_toInt_lt] at k3
        rw [Int32.le_iff_toInt_le]
        omega
      · have ls : lastS (vatC h M (h.bi (M + 19) i) (h.bi (M + 3) (j2 + 1))) v (nI i) := by
          refine Or.inr ⟨i, iv, rfl, ⟨rfl, ?_⟩, fun j' h1 h2 h3 => ?_⟩
          · rw [Int32.lt_iff_toInt_lt] at st
            rw [Int32.le_iff_toInt_le]
            omega
          · rcases nx with ⟨w1, w2⟩ | ⟨j0, w1, w2, w3, w4, w5⟩
            · exact w2 j' h1 h2 h3.1
            · rcases dd with dd | ⟨jd, d1, d2, d3⟩
              · rw [w3] at dd; exact absurd dd (ni_m1 (by omega))
              · rw [← (ni_inj (by omega) (by omega)).mp (w3.symm.trans d1)] at d3
                have jj : j0 ≤ j' := Nat.le_of_not_lt (fun w => w5 j' h1 w h3.1)
                have m1 := mono jj h2
                have h4 := h3.2
                rw [Int32.le_iff_toInt_le] at d3 h4
                omega
        rw [bk z z1, z2, (q4 j2 b2).2.1]
        rcases vrl (h.bi (M + 19) i) (h.bi (M + 3) (j2 + 1)) v V q11.1 (fun j x hx => ⟨(rows j x hx).1, (rows j x hx).2.1⟩) with ⟨_, n1⟩ | ⟨e', j, n1, n2, n3, n4⟩
        · exact absurd (n1.uniq ls).symm (ni_m1 (by omega))
        · have ij := (ni_inj (by omega) (by omega)).mp (n3.uniq ls)
          rw [ij] at n4
          refine ⟨e', n1, ?_, (sp_com q im).mpr c2, (ninj c1 c2).mpr ne⟩
          rw [show e'.1 = vMo h M i from (rows i _ n4).2.1]
          exact (sp_row q iv).mpr ⟨j1, c1, o1⟩
    · right
      obtain ⟨k1, k2, k3, k4⟩ := lk
      have im : j1 ∈ cm := List.mem_of_getElem? c1
      refine ⟨j1, im, z, z1, ?_, Or.inr ?_⟩
      · rw [q10.1 j1 b1, z2]
        refine ⟨u, ul, k1, ?_, k4⟩
        rw [Int32.lt_iff_toInt_lt] at k3
        rw [Int32.le_iff_toInt_le]
        omega
      · rw [bk z z1, z2, (q4 j1 b1).2.1]
        have before : ∀ j', j' < i → h.bi (M + 19) j' = h.bi (M + 19) i → ¬ h.bi (M + 3) (j1 + 1) < vMo h M j' := by
          intro j' h1 h2
          rcases nx with ⟨_, w2⟩ | ⟨j0, w1, w2, w3, w4⟩
          · exact absurd h2 (w2 j' h1)
          · rcases dd with dd | ⟨jd, d1, d2, d3⟩
            · rw [w2] at dd; exact absurd dd (ni_m1 (by omega))
            · rw [← (ni_inj (by omega) (by omega)).mp (w2.symm.trans d1)] at d3
              have jj : j' ≤ j0 := Nat.le_of_not_lt (fun w => w4 j' w h1 h2)
              have m1 := mono jj (by omega)
              rw [Int32.lt_iff_toInt_lt] at d3 ⊢
              omega
        have mem : t.2 ∈ takeW (h.bi (M + 3) (j1 + 1)) (chn V (h.bi (M + 19) i)) := by
          rw [takeW_mem _ _ (chn_asc as _), chn_mem, ← rt.1, Prod.eta, rt.2.1]
          exact ⟨List.mem_of_getElem? ht, st⟩
        cases e1 : (takeW (h.bi (M + 3) (j1 + 1)) (chn V (h.bi (M + 19) i))).getLast? with
        | none =>
          rw [List.getLast?_eq_none_iff] at e1
          rw [e1] at mem
          exact nomatch mem
        | some e =>
          obtain ⟨j, n1, n2, n3⟩ := tw_last V.length V rfl as e e1
          have rj := rows j _ n1
          have ij : i = j := by
            rcases Nat.lt_trichotomy i j with w | w | w
            · have := n3 i t w ht rt.1
              rw [rt.2.1] at this
              exact absurd st this
            · exact w
            · have := before j w rj.1.symm
              rw [← rj.2.1] at this
              exact absurd n2 this
          refine ⟨e, rfl, (sp_com q im).mpr c1, ?_, (ninj c1 c2).mpr ne⟩
          rw [← ij] at rj
          rw [show e.1 = vMo h M i from rj.2.1]
          exact (sp_row q iv).mpr ⟨j2, c2, o1⟩
/-- who is drawn has committed -/
theorem ed_dom (q : Cpl h M b c w l v k r clk G fv V ts D ac cm ct rs R) {x y : Nat} (e : eD h M l v v x y) : ∃ a a' j j' : Nat, x = j + 1 ∧ y = j' + 1 ∧ cm[a]? = some j ∧ cm[a']? = some j' := by
  have q' := q
  obtain ⟨q1, q2, q3, q4, q5, q6, q7, q8, q9, q10, q11, q12, q13, q14, q15, q16⟩ := q'
  have hb := q1.2.2.2.2.2.2.2.1
  have own : ∀ {i x : Nat}, i < v → x < 514 → h.bi (M + 20) i = nI x → ∃ a j : Nat, x = j + 1 ∧ cm[a]? = some j := by
    intro i x hi hx e
    obtain ⟨m, j, h1, h2, _, h4, _⟩ := ver_own q hi
    exact ⟨m, j, (ni_inj (by omega) (by omega)).mp (e.symm.trans h2), h1⟩
  have lok : ∀ {i u x : Nat}, u < l → x < 514 → lkV h M i u x → ∃ a j : Nat, x = j + 1 ∧ cm[a]? = some j := by
    intro i u x hu hx lk
    obtain ⟨t, t1, t2, t3⟩ := q10.2.2 u hu
    have e := (ni_inj (by omega) (by omega)).mp (lk.1.symm.trans t3)
    obtain ⟨j, rfl⟩ : ∃ j, x = j + 1 := ⟨x - 1, by omega⟩
    obtain ⟨m, hm⟩ := q7.2.2 j (by omega) lk.2.1
    exact ⟨m, j, rfl, hm⟩
  obtain ⟨i, iv, ed⟩ := e
  rcases ed with ⟨x1, y1, _, o1, j, nx, jv, o2⟩ | ⟨u, ul, ⟨x1, y1, _, o1, lk, _⟩ | ⟨x1, y1, _, o1, lk, _⟩⟩
  · obtain ⟨a, j, e1, e2⟩ := own iv x1 o1
    obtain ⟨a', j', e3, e4⟩ := own jv y1 o2
    exact ⟨a, a', j, j', e1, e3, e2, e4⟩
  · obtain ⟨a, j, e1, e2⟩ := own iv x1 o1
    obtain ⟨a', j', e3, e4⟩ := lok ul y1 lk
    exact ⟨a, a', j, j', e1, e3, e2, e4⟩
  · obtain ⟨a, j, e1, e2⟩ := lok ul x1 lk
    obtain ⟨a', j', e3, e4⟩ := own iv y1 o1
    exact ⟨a, a', j, j', e1, e3, e2, e4⟩
end EDG
