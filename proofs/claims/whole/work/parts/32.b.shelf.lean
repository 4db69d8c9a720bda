/-! what a shelf has under a key -/
def look (L : List (Int32 × List Ent)) (k : Int32) : List Ent := match L.find? (fun y => y.1 == k) with
  | none => []
  | some y => y.2
theorem look_get {L : List (Int32 × List Ent)} (hs : Srt L) {i : Nat} {y : Int32 × List Ent} (hi : L[i]? = some y) : look L y.1 = y.2 := by
  unfold look
  cases e : L.find? (fun z => z.1 == y.1) with
  | none =>
    have := List.find?_eq_none.mp e y (List.mem_of_getElem? hi)
    simp at this
  | some z =>
    have h1 : z.1 = y.1 := by have := List.find?_some e; simpa using this
    obtain ⟨j, hj⟩ := List.getElem?_of_mem (List.mem_of_find?_eq_some e)
    by_cases c : i = j
    · rw [c, hj] at hi
      rw [Option.some.inj hi]
    · exfalso
      rcases Nat.lt_or_gt_of_ne c with c | c
      · have := hs i j _ _ c hi hj
        rw [h1] at this
        exact Int32.lt_irrefl this
      · have := hs j i _ _ c hj hi
        rw [h1] at this
        exact Int32.lt_irrefl this
theorem look_none {L : List (Int32 × List Ent)} {k : Int32} (hn : ∀ (i : Nat) (y : Int32 × List Ent), L[i]? = some y → y.1 ≠ k) : look L k = [] := by
  unfold look
  cases e : L.find? (fun z => z.1 == k) with
  | none => rfl
  | some z =>
    have h1 : z.1 = k := by have := List.find?_some e; simpa using this
    obtain ⟨j, hj⟩ := List.getElem?_of_mem (List.mem_of_find?_eq_some e)
    exact absurd h1 (hn j z hj)
theorem look_some {L : List (Int32 × List Ent)} (hs : Srt L) {k : Int32} (hn : look L k ≠ []) : ∃ i : Nat, L[i]? = some (k, look L k) := by
  by_cases c : ∃ (i : Nat) (y : Int32 × List Ent), L[i]? = some y ∧ y.1 = k
  · obtain ⟨i, y, h1, h2⟩ := c
    refine ⟨i, ?_⟩
    rw [← h2, look_get hs h1, h1]
  · exact absurd (look_none (fun i y h1 h2 => c ⟨i, y, h1, h2⟩)) hn
theorem look_get' {L : List (Int32 × List Ent)} (hs : Srt L) {i : Nat} {k : Int32} {ch : List Ent} (hi : L[i]? = some (k, ch)) : look L k = ch := look_get hs hi
theorem sh_nonempty {g : Nat → Nat} {h : Hp} {s l : Nat} {L : List (Int32 × List Ent)} (q : Sh g h s l L) {i : Nat} {y : Int32 × List Ent} (hi : L[i]? = some y) : y.2 ≠ [] := q.2.2.2.2.1 y (List.mem_of_getElem? hi)
theorem toInt_ne {a b : Int32} (h : a.toInt ≠ b.toInt) : a ≠ b := fun e => h (by rw [e])
theorem toInt_eq {a b : Int32} (h : a.toInt = b.toInt) : a = b := Int32.toInt_inj.mp h
/-- find -/
theorem sh_find {g : Nat → Nat} {h : Hp} {s l : Nat} {L : List (Int32 × List Ent)} (q : Sh g h s l L) (N : Nat) (hN : 100000 < N) (k : Int32) : ∃ x, J_X5_find N s h k = some (h, x) ∧ ((x = none ∧ look L k = []) ∨ ∃ c, x = some c ∧ look L k ≠ [] ∧ Chq g h s c k (look L k) ∧ ∃ i : Nat, L[i]? = some (k, look L k) ∧ ∀ cs, Al g h l cs → cs[i]? = some c) := by
  obtain ⟨i, e1, i1, i2, i3⟩ := sh_index q N hN k.toInt64
  rw [toI64] at i2 i3
  have hcl : L.length < 100000 := by
    obtain ⟨_, _, _, _, _, cs, q6, q7, _⟩ := q
    have := q6.2.1
    omega
  by_cases c1 : i < L.length
  · have hy : L[i]? = some L[i] := List.getElem?_eq_getElem c1
    obtain ⟨c, e2, e3, e4⟩ := sh_chainAt q N hy
    by_cases c2 : L[i].1 = k
    · refine ⟨some c, ?_, Or.inr ⟨c, rfl, ?_⟩⟩
      · unfold J_X5_find B_X5_find_0
        refine (bnd (by exact e1)).trans ?_
        unfold B_X5_find_7
        refine (dr_e (by exact rfl) (by exact q.1)).trans ?_
        refine (bnd (by exact e2)).trans ?_
        unfold B_X5_find_10
        refine (nl_so (by exact rfl)).trans ?_
        refine (ck_eq (by exact e3.1)).trans ?_
        refine (if_pos (by rw [e3.2.2.1]; exact c2)).trans ?_
        rfl
      · rw [← c2, look_get q.2.2.2.1 hy]
        exact ⟨sh_nonempty q hy, e3, i, hy, e4⟩
    · refine ⟨none, ?_, Or.inl ⟨rfl, look_none (fun j y hj e => ?_)⟩⟩
      · unfold J_X5_find B_X5_find_0
        refine (bnd (by exact e1)).trans ?_
        unfold B_X5_find_7
        refine (dr_e (by exact rfl) (by exact q.1)).trans ?_
        refine (bnd (by exact e2)).trans ?_
        unfold B_X5_find_10
        refine (nl_so (by exact rfl)).trans ?_
        refine (ck_eq (by exact e3.1)).trans ?_
        refine (if_neg (by rw [e3.2.2.1]; exact c2)).trans ?_
        rfl
      · by_cases c3 : j < i
        · have := i2 j y c3 hj
          rw [e] at this
          omega
        · by_cases c4 : j = i
          · rw [c4, hy] at hj
            rw [← Option.some.inj hj] at e
            exact c2 e
          · have h1 := i3 i _ (Nat.le_refl _) hy
            have h2 := Int32.lt_iff_toInt_lt.mp (q.2.2.2.1 _ _ _ _ (show i < j by omega) hy hj)
            rw [e] at h2
            omega
  · refine ⟨none, ?_, Or.inl ⟨rfl, look_none (fun j y hj e => ?_)⟩⟩
    · unfold J_X5_find B_X5_find_0
      refine (bnd (by exact e1)).trans ?_
      unfold B_X5_find_7
      refine (dr_e (by exact rfl) (by exact q.1)).trans ?_
      refine (bnd (by exact sh_chainAtN q N (Or.inr ⟨i, rfl, by omega, by omega⟩))).trans ?_
      unfold B_X5_find_10
      refine (nl_ne (by exact rfl)).trans ?_
      rfl
    · have := i2 j y (by have := (List.getElem?_eq_some_iff.mp hj).1; omega) hj
      rw [e] at this
      omega
/-- the next chain upwards -/
theorem sh_up {g : Nat → Nat} {h : Hp} {s l : Nat} {L : List (Int32 × List Ent)} (q : Sh g h s l L) (N : Nat) (hN : 100000 < N) (k : Int64) {f : Int32} (hf : f ≠ 0) : ∃ x, J_X5_nextChain N s h k f = some (h, x) ∧ ((x = none ∧ ∀ z, look L z ≠ [] → z.toInt < k.toInt) ∨ ∃ c y, x = some c ∧ look L y ≠ [] ∧ Chq g h s c y (look L y) ∧ k.toInt ≤ y.toInt ∧ ∀ z, look L z ≠ [] → k.toInt ≤ z.toInt → y.toInt ≤ z.toInt) := by
  obtain ⟨i, e1, i1, i2, i3⟩ := sh_index q N hN k
  have hcl : L.length < 100000 := by
    obtain ⟨_, _, _, _, _, cs, q6, q7, _⟩ := q
    have := q6.2.1
    omega
  by_cases c1 : i < L.length
  · have hy : L[i]? = some L[i] := List.getElem?_eq_getElem c1
    obtain ⟨c, e2, e3, e4⟩ := sh_chainAt q N hy
    refine ⟨some c, ?_, Or.inr ⟨c, L[i].1, rfl, ?_⟩⟩
    · unfold J_X5_nextChain B_X5_nextChain_0
      refine (if_neg (by exact hf)).trans ?_
      refine (bnd (by exact e1)).trans ?_
      unfold B_X5_nextChain_10 B_X5_nextChain_22
      refine (dr_e (by exact rfl) (by exact q.1)).trans ?_
      refine (bnd (by exact e2)).trans ?_
      rfl
    · rw [look_get q.2.2.2.1 hy]
      refine ⟨sh_nonempty q hy, e3, i3 i _ (Nat.le_refl _) hy, fun z hz hk => ?_⟩
      obtain ⟨j, hj⟩ := look_some q.2.2.2.1 hz
      by_cases c3 : j < i
      · have := i2 j _ c3 hj
        simp only at this
        omega
      · by_cases c4 : j = i
        · rw [c4, hy] at hj
          rw [Option.some.inj hj]
          exact Int.le_refl _
        · have h2 := Int32.lt_iff_toInt_lt.mp (q.2.2.2.1 _ _ _ _ (show i < j by omega) hy hj)
          simp only at h2
          omega
  · refine ⟨none, ?_, Or.inl ⟨rfl, fun z hz => ?_⟩⟩
    · unfold J_X5_nextChain B_X5_nextChain_0
      refine (if_neg (by exact hf)).trans ?_
      refine (bnd (by exact e1)).trans ?_
      unfold B_X5_nextChain_10 B_X5_nextChain_22
      refine (dr_e (by exact rfl) (by exact q.1)).trans ?_
      refine (bnd (by exact sh_chainAtN q N (Or.inr ⟨i, rfl, by omega, by omega⟩))).trans ?_
      rfl
    · obtain ⟨j, hj⟩ := look_some q.2.2.2.1 hz
      exact i2 j _ (by have := (List.getElem?_eq_some_iff.mp hj).1; omega) hj
/-- the next chain downwards -/
theorem sh_dn {g : Nat → Nat} {h : Hp} {s l : Nat} {L : List (Int32 × List Ent)} (q : Sh g h s l L) (N : Nat) (hN : 100000 < N) (k : Int64) (hk : (k + 1).toInt = k.toInt + 1) : ∃ x, J_X5_nextChain N s h k 0 = some (h, x) ∧ ((x = none ∧ ∀ z, look L z ≠ [] → k.toInt < z.toInt) ∨ ∃ c y, x = some c ∧ look L y ≠ [] ∧ Chq g h s c y (look L y) ∧ y.toInt ≤ k.toInt ∧ ∀ z, look L z ≠ [] → z.toInt ≤ k.toInt → z.toInt ≤ y.toInt) := by
  obtain ⟨i, e1, i1, i2, i3⟩ := sh_index q N hN (k + 1)
  rw [hk] at i2 i3
  have hcl : L.length < 100000 := by
    obtain ⟨_, _, _, _, _, cs, q6, q7, _⟩ := q
    have := q6.2.1
    omega
  by_cases c1 : 0 < i
  · have hy : L[i - 1]? = some (L[i - 1]'(by omega)) := List.getElem?_eq_getElem (by omega)
    obtain ⟨c, e2, e3, e4⟩ := sh_chainAt q N hy
    refine ⟨some c, ?_, Or.inr ⟨c, (L[i - 1]'(by omega)).1, rfl, ?_⟩⟩
    · unfold J_X5_nextChain B_X5_nextChain_0
      refine (if_pos (by rfl)).trans ?_
      refine (bnd (by exact e1)).trans ?_
      unfold B_X5_nextChain_20 B_X5_nextChain_22
      refine (dr_e (by exact rfl) (by exact q.1)).trans ?_
      rw [show nI i - (1 : Int32) = nI (i - 1) from ni_sub (a := i) (b := 1) (by omega)]
      refine (bnd (by exact e2)).trans ?_
      rfl
    · rw [look_get q.2.2.2.1 hy]
      refine ⟨sh_nonempty q hy, e3, by have := i2 (i - 1) _ (by omega) hy; omega, fun z hz hk => ?_⟩
      obtain ⟨j, hj⟩ := look_some q.2.2.2.1 hz
      by_cases c3 : i ≤ j
      · have := i3 j _ c3 hj
        simp only at this
        omega
      · by_cases c4 : j = i - 1
        · rw [c4, hy] at hj
          rw [Option.some.inj hj]
          exact Int.le_refl _
        · have h2 := Int32.lt_iff_toInt_lt.mp (q.2.2.2.1 _ _ _ _ (show j < i - 1 by omega) hj hy)
          simp only at h2
          omega
  · refine ⟨none, ?_, Or.inl ⟨rfl, fun z hz => ?_⟩⟩
    · unfold J_X5_nextChain B_X5_nextChain_0
      refine (if_pos (by rfl)).trans ?_
      refine (bnd (by exact e1)).trans ?_
      unfold B_X5_nextChain_20 B_X5_nextChain_22
      refine (dr_e (by exact rfl) (by exact q.1)).trans ?_
      rw [show i = 0 by omega]
      refine (bnd (by exact sh_chainAtN q N (x := nI 0 - 1) (Or.inl (by decide)))).trans ?_
      rfl
    · obtain ⟨j, hj⟩ := look_some q.2.2.2.1 hz
      have := i3 j _ (by omega) hj
      simp only at this
      omega
