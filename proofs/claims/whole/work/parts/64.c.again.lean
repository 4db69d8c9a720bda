/-! astray: a call done again, on both sides -/
theorem near_gen {vs : Int32 → Option Int64} {m : Nat} {A : Nat → Int32} {key f x : Int32} {d : AnD} (so : ∀ i j, i < j → j < m → A i < A j) (inA : ∀ z, vs z ≠ none → ∃ j, j < m ∧ A j = z) (hf : f = 0 ∨ f = 1) (na : NearA f vs key d) (n0 : f = 0 → lastS (fun i => ¬ key < A i ∧ vs (A i) ≠ none) m x) (n1 : f ≠ 0 → firstS (fun i => ¬ A i < key ∧ vs (A i) ≠ none) m x) : (x = -1 ∧ d.1 = 0 ∧ d.2.1 = none ∧ d.2.2.1 = []) ∨ ∃ j y, j < m ∧ x = nI j ∧ vs (A j) = some y ∧ d.1 = 1 ∧ d.2.1 = some (A j, y) ∧ d.2.2.1 = [] := by
  have mono : ∀ i j, i ≤ j → j < m → (A i).toInt ≤ (A j).toInt := by
    intro i j hij hj
    by_cases e : i = j
    · rw [e]; exact Int.le_refl _
    · have := so i j (by omega) hj
      rw [Int32.lt_iff_toInt_lt] at this
      omega
  rcases hf with hf | hf
  · have ls := n0 hf
    have sgf : ∀ z : Int, sg f z = -z := fun z => by unfold sg; rw [if_pos hf]
    have cond : ∀ z : Int32, (sg f key.toInt ≤ sg f z.toInt ↔ ¬ key < z) := by
      intro z
      rw [sgf, sgf, Int32.lt_iff_toInt_lt]
      omega
    rcases na with ⟨d1, d2⟩ | ⟨y, y0, y1, y2, y3, y4⟩
    · rcases ls with ⟨x1, _⟩ | ⟨i, i1, i2, i3, _⟩
      · rw [d1]; exact Or.inl ⟨x1, rfl, rfl, rfl⟩
      · exact absurd (d2 (A i) ((cond _).mpr i3.1)) i3.2
    · obtain ⟨j, j1, j2⟩ := inA y (by rw [y1]; exact fun u => nomatch u)
      have pj : ¬ key < A j ∧ vs (A j) ≠ none := ⟨by rw [j2]; exact (cond y).mp y2, by rw [j2, y1]; exact fun u => nomatch u⟩
      rcases ls with ⟨_, x2⟩ | ⟨i, i1, i2, i3, i4⟩
      · exact absurd pj (x2 j j1)
      · have ji : j ≤ i := Nat.le_of_not_lt (fun z => i4 j z j1 pj)
        have a1 := mono j i ji i1
        have a2 := y3 (A i) ((cond _).mpr i3.1) i3.2
        rw [sgf, sgf] at a2
        have ey : A i = y := Int32.toInt_inj.mp (by rw [j2] at a1; omega)
        refine Or.inr ⟨i, y0, i1, i2, by rw [ey]; exact y1, ?_⟩
        rw [y4, ey]; exact ⟨rfl, rfl, rfl⟩
  · have f0 : f ≠ 0 := by rw [hf]; decide
    have ls := n1 f0
    have sgf : ∀ z : Int, sg f z = z := fun z => by unfold sg; rw [if_neg f0]
    have cond : ∀ z : Int32, (sg f key.toInt ≤ sg f z.toInt ↔ ¬ z < key) := by
      intro z
      rw [sgf, sgf, Int32.lt_iff_toInt_lt]
      omega
    rcases na with ⟨d1, d2⟩ | ⟨y, y0, y1, y2, y3, y4⟩
    · rcases ls with ⟨x1, _⟩ | ⟨i, i1, i2, i3, _⟩
      · rw [d1]; exact Or.inl ⟨x1, rfl, rfl, rfl⟩
      · exact absurd (d2 (A i) ((cond _).mpr i3.1)) i3.2
    · obtain ⟨j, j1, j2⟩ := inA y (by rw [y1]; exact fun u => nomatch u)
      have pj : ¬ A j < key ∧ vs (A j) ≠ none := ⟨by rw [j2]; exact (cond y).mp y2, by rw [j2, y1]; exact fun u => nomatch u⟩
      rcases ls with ⟨_, x2⟩ | ⟨i, i1, i2, i3, i4⟩
      · exact absurd pj (x2 j j1)
      · have ji : i ≤ j := Nat.le_of_not_lt (fun z => i4 j z pj)
        have a1 := mono i j ji j1
        have a2 := y3 (A i) ((cond _).mpr i3.1) i3.2
        rw [sgf, sgf] at a2
        have ey : A i = y := Int32.toInt_inj.mp (by rw [j2] at a1; omega)
        refine Or.inr ⟨i, y0, i1, i2, by rw [ey]; exact y1, ?_⟩
        rw [y4, ey]; exact ⟨rfl, rfl, rfl⟩
theorem kL_at {vs : Int32 → Option Int64} {A : Nat → Int32} {a z : Int32} {j : Nat} {x : Int64} (pj : ¬ A j < a ∧ ¬ z < A j ∧ vs (A j) ≠ none) (hx : vs (A j) = some x) : ∀ i, j < i → (kL vs A a z i)[cntQ (fun j => ¬ A j < a ∧ ¬ z < A j ∧ vs (A j) ≠ none) j]? = some (A j, x) := by
  intro i
  induction i with
  | zero => intro hj; omega
  | succ i ih =>
    intro hj
    by_cases e : j = i
    · rcases kL_s (vs := vs) (A := A) (a := a) (z := z) i with ⟨y1, u, y3, y2⟩ | ⟨y1, y2⟩
      · rw [y2, e, ← kL_len, get_new]
        rw [e, y3] at hx
        rw [Option.some.inj hx]
      · rw [e] at pj; exact absurd pj y1
    · have := ih (by omega)
      rcases kL_s (vs := vs) (A := A) (a := a) (z := z) i with ⟨y1, u, y3, y2⟩ | ⟨y1, y2⟩
      · rw [y2]; exact get_up this
      · rw [y2]; exact this
theorem cnt_hit {P : Nat → Prop} {mo : Nat} : ∀ m, mo ≤ cntQ P m → ∃ i, i ≤ m ∧ cntQ P i = mo ∧ ∀ j, j < i → cntQ P j < mo := by
  intro m
  induction m with
  | zero =>
    intro z
    exact ⟨0, Nat.le_refl _, by have : cntQ P 0 = 0 := rfl; omega, fun j hj => by omega⟩
  | succ m ih =>
    intro z
    by_cases y : mo ≤ cntQ P m
    · obtain ⟨i, i1, i2⟩ := ih y
      exact ⟨i, by omega, i2⟩
    · refine ⟨m + 1, Nat.le_refl _, ?_, fun j hj => ?_⟩
      · have cs : cntQ P (m + 1) = cntQ P m + @ite Nat (P m) (Classical.propDecidable _) 1 0 := rfl
        by_cases u : P m
        · rw [if_pos u] at cs; omega
        · rw [if_neg u] at cs; omega
      · have := cntQ_mono (P := P) (show j ≤ m by omega)
        omega
/-- how a row's scan stands to what is seen now -/
theorem scan_gen {vs : Int32 → Option Int64} {m : Nat} {A : Nat → Int32} {a z : Int32} {mo an : Nat} {E R : List (Int32 × Int64)} {kA : Nat → Int32} {kV : Nat → Int64} (so : ∀ i j, i < j → j < m → A i < A j) (inA : ∀ y, vs y ≠ none → ∃ j, j < m ∧ A j = y) (sr : ScanR vs z mo a.toInt R) (El : E.length = an) (Er : ∀ (i : Nat) (y : Int32 × Int64), E[i]? = some y → kA i = y.1 ∧ kV i = y.2) : R = E ↔ ∃ i, i ≤ m ∧ (i = m ∨ cntQ (fun j => ¬ A j < a ∧ ¬ z < A j ∧ vs (A j) ≠ none) i = mo) ∧ (∀ j, j < i → cntQ (fun j => ¬ A j < a ∧ ¬ z < A j ∧ vs (A j) ≠ none) j < mo) ∧ (∀ j, j < i → (¬ A j < a ∧ ¬ z < A j ∧ vs (A j) ≠ none) → cntQ (fun j => ¬ A j < a ∧ ¬ z < A j ∧ vs (A j) ≠ none) j < an ∧ kA (cntQ (fun j => ¬ A j < a ∧ ¬ z < A j ∧ vs (A j) ≠ none) j) = A j ∧ vs (A j) = some (kV (cntQ (fun j => ¬ A j < a ∧ ¬ z < A j ∧ vs (A j) ≠ none) j))) ∧ cntQ (fun j => ¬ A j < a ∧ ¬ z < A j ∧ vs (A j) ≠ none) i = an := by
  have rp := scan_pre mo a.toInt R _ sr (kL_ful (A := A) (m := m) so inA)
  have li := fun i => kL_len (vs := vs) (A := A) (a := a) (z := z) i
  have rk : ∀ i, i ≤ m → (i = m ∨ cntQ (fun j => ¬ A j < a ∧ ¬ z < A j ∧ vs (A j) ≠ none) i = mo) → cntQ (fun j => ¬ A j < a ∧ ¬ z < A j ∧ vs (A j) ≠ none) i ≤ mo → R = kL vs A a z i := by
    intro i im fin le
    rw [rp]
    have := li i
    rcases fin with y | y
    · rw [← y, List.take_of_length_le (by omega)]
    · obtain ⟨T, hT⟩ := kL_pre (vs := vs) (A := A) (a := a) (z := z) m im
      rw [hT, List.take_append_of_le_length (by omega), List.take_of_length_le (by omega)]
  constructor
  · intro e
    obtain ⟨i, i1, i2, i3, i4⟩ : ∃ i, i ≤ m ∧ (i = m ∨ cntQ (fun j => ¬ A j < a ∧ ¬ z < A j ∧ vs (A j) ≠ none) i = mo) ∧ (∀ j, j < i → cntQ (fun j => ¬ A j < a ∧ ¬ z < A j ∧ vs (A j) ≠ none) j < mo) ∧ cntQ (fun j => ¬ A j < a ∧ ¬ z < A j ∧ vs (A j) ≠ none) i ≤ mo := by
      by_cases y : mo ≤ cntQ (fun j => ¬ A j < a ∧ ¬ z < A j ∧ vs (A j) ≠ none) m
      · obtain ⟨i, i1, i2, i3⟩ := cnt_hit m y
        exact ⟨i, i1, Or.inr i2, i3, by omega⟩
      · refine ⟨m, Nat.le_refl _, Or.inl rfl, fun j hj => ?_, by omega⟩
        have := cntQ_mono (P := fun j => ¬ A j < a ∧ ¬ z < A j ∧ vs (A j) ≠ none) (show j ≤ m by omega)
        omega
    have ri := rk i i1 i2 i4
    have an_ : cntQ (fun j => ¬ A j < a ∧ ¬ z < A j ∧ vs (A j) ≠ none) i = an := by rw [← li i, ← ri, e, El]
    refine ⟨i, i1, i2, i3, fun j j1 j2 => ?_, an_⟩
    have lt := cntQ_lt (P := fun j => ¬ A j < a ∧ ¬ z < A j ∧ vs (A j) ≠ none) j1 j2
    cases x0 : vs (A j) with
    | none => exact absurd x0 j2.2.2
    | some x =>
      have g := kL_at j2 x0 i j1
      rw [← ri, e] at g
      obtain ⟨g1, g2⟩ := Er _ _ g
      exact ⟨by omega, g1, by rw [g2]⟩
  · rintro ⟨i, i1, i2, i3, i4, i5⟩
    have le : cntQ (fun j => ¬ A j < a ∧ ¬ z < A j ∧ vs (A j) ≠ none) i ≤ mo := by
      rcases i2 with y | y
      · cases i with
        | zero => exact Nat.zero_le _
        | succ i =>
          have := i3 i (by omega)
          have cs : cntQ (fun j => ¬ A j < a ∧ ¬ z < A j ∧ vs (A j) ≠ none) (i + 1) = cntQ (fun j => ¬ A j < a ∧ ¬ z < A j ∧ vs (A j) ≠ none) i + @ite Nat (¬ A i < a ∧ ¬ z < A i ∧ vs (A i) ≠ none) (Classical.propDecidable _) 1 0 := rfl
          by_cases u : ¬ A i < a ∧ ¬ z < A i ∧ vs (A i) ≠ none
          · rw [if_pos u] at cs; omega
          · rw [if_neg u] at cs; omega
      · omega
    have ri := rk i i1 i2 le
    have Rl : R.length = an := by rw [ri, li, i5]
    refine List.ext_getElem? (fun x => ?_)
    cases gr : R[x]? with
    | none =>
      rw [List.getElem?_eq_none_iff] at gr
      exact (List.getElem?_eq_none (by omega)).symm
    | some y =>
      have xl := get_lt gr
      obtain ⟨y', gy⟩ : ∃ y', E[x]? = some y' := ⟨_, List.getElem?_eq_getElem (by omega)⟩
      rw [ri] at gr
      obtain ⟨j, j1, j2, j3, j4, j5⟩ := kL_get i gr
      obtain ⟨_, e1, e2⟩ := i4 j j1 j2
      rw [j3] at e1 e2
      obtain ⟨g1, g2⟩ := Er x y' gy
      rw [gy]
      congr 1
      refine Prod.ext ?_ ?_
      · rw [← g1, e1, j4]
      · rw [← g2]
        exact Option.some.inj (j5.symm.trans e2)
