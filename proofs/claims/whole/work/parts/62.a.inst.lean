/-! what a commit lays into the store -/
theorem sorted_eq : ∀ (xs ys : List Int32), xs.Pairwise (fun a b => a.toInt < b.toInt) → ys.Pairwise (fun a b => a.toInt < b.toInt) → (∀ z, z ∈ xs ↔ z ∈ ys) → xs = ys := by
  intro xs
  induction xs with
  | nil =>
    intro ys _ _ e
    cases ys with
    | nil => rfl
    | cons y ys => exact nomatch (e y).mpr List.mem_cons_self
  | cons x xs ih =>
    intro ys px py e
    cases ys with
    | nil => exact nomatch (e x).mp List.mem_cons_self
    | cons y ys =>
      obtain ⟨p1, p2⟩ := List.pairwise_cons.mp px
      obtain ⟨r1, r2⟩ := List.pairwise_cons.mp py
      have xy : x = y := by
        rcases List.mem_cons.mp ((e x).mp List.mem_cons_self) with z | z
        · exact z
        · rcases List.mem_cons.mp ((e y).mpr List.mem_cons_self) with u | u
          · exact u.symm
          · have a1 := r1 x z
            have a2 := p1 y u
            omega
      rw [xy] at p1 e ⊢
      congr 1
      refine ih ys p2 r2 (fun z => ⟨fun u => ?_, fun u => ?_⟩)
      · rcases List.mem_cons.mp ((e z).mp (List.mem_cons_of_mem _ u)) with w | w
        · have := p1 z u
          rw [w] at this; omega
        · exact w
      · rcases List.mem_cons.mp ((e z).mpr (List.mem_cons_of_mem _ u)) with w | w
        · have := r1 z u
          rw [w] at this; omega
        · exact w
section INS
variable {h h1 h2 h' : Hp} {M b c w l v k r clk : Nat}
/-- the own keys, in order -/
noncomputable def okL (h : Hp) (M w t : Nat) (A : Nat → Int32) : Nat → List Int32
  | 0 => []
  | n + 1 => okL h M w t A n ++ (@ite (List Int32) (owns h M w t (A n)) (Classical.propDecidable _) [A n] [])
theorem ownN_s (t : Nat) (A : Nat → Int32) (n : Nat) : ownN h M w t A (n + 1) = ownN h M w t A n + @ite Nat (owns h M w t (A n)) (Classical.propDecidable _) 1 0 := rfl
theorem okL_len (t : Nat) (A : Nat → Int32) : ∀ n, (okL h M w t A n).length = ownN h M w t A n := by
  intro n
  induction n with
  | zero => rfl
  | succ n ih =>
    rw [ownN_s]
    show (okL h M w t A n ++ _).length = _
    rw [List.length_append, ih]
    congr 1
    by_cases z : owns h M w t (A n)
    · rw [if_pos z, if_pos z]; rfl
    · rw [if_neg z, if_neg z]; rfl
theorem okL_mem (t : Nat) (A : Nat → Int32) (x : Int32) : ∀ n, x ∈ okL h M w t A n ↔ ∃ j, j < n ∧ owns h M w t (A j) ∧ A j = x := by
  intro n
  induction n with
  | zero => exact ⟨fun u => (nomatch u), fun ⟨j, hj, _⟩ => by omega⟩
  | succ n ih =>
    show x ∈ okL h M w t A n ++ _ ↔ _
    rw [List.mem_append, ih]
    by_cases z : owns h M w t (A n)
    · rw [if_pos z, List.mem_singleton]
      constructor
      · rintro (⟨j, j1, j2⟩ | e)
        · exact ⟨j, by omega, j2⟩
        · exact ⟨n, by omega, z, e.symm⟩
      · rintro ⟨j, j1, j2, j3⟩
        by_cases e : j = n
        · rw [e] at j3; exact Or.inr j3.symm
        · exact Or.inl ⟨j, by omega, j2, j3⟩
    · rw [if_neg z]
      constructor
      · rintro (⟨j, j1, j2⟩ | e)
        · exact ⟨j, by omega, j2⟩
        · exact nomatch e
      · rintro ⟨j, j1, j2, j3⟩
        by_cases e : j = n
        · rw [e] at j2; exact absurd j2 z
        · exact Or.inl ⟨j, by omega, j2, j3⟩
theorem okL_srt (t : Nat) {A : Nat → Int32} {m : Nat} (so : ∀ i j, i < j → j < m → A i < A j) : ∀ n, n ≤ m → (okL h M w t A n).Pairwise (fun a b => a.toInt < b.toInt) := by
  intro n
  induction n with
  | zero => intro _; exact List.Pairwise.nil
  | succ n ih =>
    intro hn
    show (okL h M w t A n ++ _).Pairwise _
    by_cases z : owns h M w t (A n)
    · rw [if_pos z]
      refine List.pairwise_append.mpr ⟨ih (by omega), List.pairwise_singleton _ _, fun x hx y hy => ?_⟩
      rw [List.mem_singleton.mp hy]
      obtain ⟨j, j1, _, j3⟩ := (okL_mem t A x n).mp hx
      have := so j n j1 (by omega)
      rw [j3, Int32.lt_iff_toInt_lt] at this
      exact this
    · rw [if_neg z, List.append_nil]
      exact ih (by omega)
theorem okL_get (t : Nat) {A : Nat → Int32} {x : Nat} {y : Int32} : ∀ n, (okL h M w t A n)[x]? = some y → ∃ j, j < n ∧ owns h M w t (A j) ∧ ownN h M w t A j = x ∧ A j = y := by
  intro n
  induction n with
  | zero => intro e; exact nomatch e
  | succ n ih =>
    intro e
    have e : (okL h M w t A n ++ (@ite (List Int32) (owns h M w t (A n)) (Classical.propDecidable _) [A n] []))[x]? = some y := e
    by_cases xl : x < (okL h M w t A n).length
    · rw [List.getElem?_append_left xl] at e
      obtain ⟨j, j1, j2⟩ := ih e
      exact ⟨j, by omega, j2⟩
    · rw [List.getElem?_append_right (by omega)] at e
      by_cases z : owns h M w t (A n)
      · rw [if_pos z] at e
        have x0 : x - (okL h M w t A n).length = 0 := by
          rcases Nat.lt_or_ge (x - (okL h M w t A n).length) 1 with q | q
          · omega
          · rw [List.getElem?_eq_none (by rw [List.length_singleton]; exact q)] at e; cases e
        rw [x0] at e
        exact ⟨n, by omega, z, by rw [← okL_len]; omega, Option.some.inj e⟩
      · rw [if_neg z] at e
        exact nomatch e
/-- the new versions are those that the class installs -/
theorem ver_new {t n m y : Nat} {L : List Kv} {P : List Nat} {As : Shf} {Ak : Nat → Int32} {mo : Int32} (hw : w ≤ 512) (ow : OwnR h M w t L P n) (hs : Srt As) (hn : ∀ y ∈ As, y.2 ≠ []) (bk : BkL As L) (gs : GkS (h.bi (M + 12)) w m Ak) (vr : VerR h M w v t Ak m y h') : y = v + As.length ∧ ∀ (x : Nat) (z : Kv), (inst As mo (nI t))[x]? = some z → z.1 = h'.bi (M + 19) (v + x) ∧ z.2.1 = mo ∧ z.2.2.1 = nI t ∧ h'.bi (M + 20) (v + x) = nI t ∧ z.2.2.2.1 = h'.bi (M + 22) (v + x) ∧ z.2.2.2.2 = h'.bw (M + 21) (v + x) ∧ owns h M w t z.1 := by
  obtain ⟨f, v1, v2, v3, v4⟩ := vr
  have ownsI : ∀ k, owns h M w t k ↔ chn L k ≠ [] := fun k => own_eq hw ow k
  have ke : As.map (fun y => y.1) = okL h M w t Ak m := by
    refine sorted_eq _ _ ?_ (okL_srt t gs.1 m (Nat.le_refl _)) (fun z => ?_)
    · rw [List.pairwise_map]
      refine List.pairwise_iff_getElem.mpr (fun i j hi hj hij => ?_)
      have := hs i j As[i] As[j] hij (List.getElem?_eq_getElem hi) (List.getElem?_eq_getElem hj)
      rw [Int32.lt_iff_toInt_lt] at this
      exact this
    · rw [okL_mem, List.mem_map]
      constructor
      · rintro ⟨y, y1, y2⟩
        have lk : look As y.1 = y.2 := look_mem hs (by rw [Prod.eta]; exact y1)
        have ne : chn L z ≠ [] := by
          rw [← bk, ← y2, lk]
          exact hn y y1
        have o := (ownsI z).mpr ne
        obtain ⟨e, e1, e2⟩ := o
        obtain ⟨j, j1, j2⟩ := (gs.2 z).mpr ⟨e, e1, e2.2.1⟩
        exact ⟨j, j1, by rw [j2]; exact ⟨e, e1, e2⟩, j2⟩
      · rintro ⟨j, j1, j2, j3⟩
        rw [j3, ownsI, ← bk] at j2
        obtain ⟨i, hi⟩ := look_some hs j2
        exact ⟨_, List.mem_of_getElem? hi, rfl⟩
  have le : As.length = ownN h M w t Ak m := by
    rw [← okL_len, ← ke, List.length_map]
  refine ⟨by rw [v2, le], fun x z hz => ?_⟩
  unfold inst at hz
  rw [List.getElem?_map] at hz
  cases hx : As[x]? with
  | none => rw [hx] at hz; cases hz
  | some yx =>
    rw [hx] at hz
    have ez : instE mo (nI t) yx = z := Option.some.inj hz
    have kx : (okL h M w t Ak m)[x]? = some yx.1 := by
      rw [← ke, List.getElem?_map, hx]; rfl
    obtain ⟨j, j1, j2, j3, j4⟩ := okL_get t m kx
    obtain ⟨e, e1, e2, e3, e4, e5, e6⟩ := v4 j j1 j2
    rw [j3, j4] at e3
    rw [j3] at e4 e5 e6
    have lk : look As yx.1 = yx.2 := look_get hs hx
    have f0 := ow.1.mono (S := fun (x : Kv) (j : Nat) => x.1 = h.bi (M + 12) j ∧ x.2.2.2.1 = h.bi (M + 14) j ∧ x.2.2.2.2 = h.bw (M + 13) j) (fun x j r => ⟨r.1, r.2.2.1, r.2.2.2.1⟩)
    rcases own_last t yx.1 w L f0 with ⟨a1, _⟩ | ⟨e', L', j', a1, a2, a3, a4, a5⟩
    · exact absurd (by rw [← lk, bk]; exact a1) (hn yx (List.mem_of_getElem? hx))
    · rw [j4] at e2
      have ee : e = j' := (ni_inj (by omega) (by omega)).mp (e2.uniq a3)
      have y2 : yx.2 = e' :: L' := by rw [← lk, bk]; exact a1
      rw [← ez]
      unfold instE
      rw [y2]
      refine ⟨e3.symm, rfl, rfl, e4, ?_, ?_, by rw [← j4]; exact j2⟩
      · show e'.2.2.1 = _
        rw [a4, e6, ee]
      · show e'.2.2.2 = _
        rw [a5, e5, ee]
end INS
