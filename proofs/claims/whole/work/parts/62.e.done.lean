/-! a commit that goes through -/
theorem noteOut_r (F : Nat → Int32) (x : Int32) : (noteOutF F x) 1008 = (if F 1008 = 0 then x else if F 1008 ≤ x then F 1008 else x) ∧ ∀ f, f ≠ 1008 → noteOutF F x f = F f := by
  unfold noteOutF
  by_cases z : F 1008 = 0
  · rw [if_pos z, if_pos z]
    exact ⟨va_up_self _ _ _, fun f hf => va_up_ne _ _ hf⟩
  · rw [if_neg z, if_neg z]
    by_cases y : F 1008 ≤ x
    · rw [if_pos y, if_pos y]
      exact ⟨rfl, fun _ _ => rfl⟩
    · rw [if_neg y, if_neg y]
      exact ⟨va_up_self _ _ _, fun f hf => va_up_ne _ _ hf⟩
theorem noteOut_2 (F : Nat → Int32) (x : Int32) : noteOutF (noteOutF F x) x = noteOutF F x := by
  funext f
  by_cases e : f = 1008
  · rw [e, (noteOut_r _ x).1, (noteOut_r F x).1]
    by_cases z : F 1008 = 0
    · rw [if_pos z]
      by_cases y : x = 0
      · rw [if_pos y]
      · rw [if_neg y, if_pos (Int32.le_refl _)]
    · rw [if_neg z]
      by_cases y : F 1008 ≤ x
      · rw [if_pos y, if_neg z, if_pos y]
      · rw [if_neg y]
        by_cases u : x = 0
        · rw [if_pos u]
        · rw [if_neg u, if_pos (Int32.le_refl _)]
  · rw [(noteOut_r _ x).2 f e]
theorem nrD_at (i : Nat) : ∀ (xs : List Nat) (D : Nat → TD), i ∉ xs → (∀ j, j ≠ i → nrD D i xs j = if j ∈ xs ∧ (D j).1 1006 = 1 then (noteOutF (D j).1 ((D i).1 1007), (D j).2) else D j) ∧ nrD D i xs i = if xs = [] then D i else (va_up (D i).1 1009 1, (D i).2) := by
  intro xs
  induction xs with
  | nil =>
    intro D _
    exact ⟨fun j _ => by rw [if_neg (fun z => nomatch z.1)]; rfl, by rw [if_pos rfl]; rfl⟩
  | cons x xs ih =>
    intro D no
    have nx : i ≠ x := fun e => no (by rw [e]; exact List.mem_cons_self)
    have nxs : i ∉ xs := fun e => no (List.mem_cons_of_mem _ e)
    have e : nrD D i (x :: xs) = nrD (nr1 D i x) i xs := rfl
    have l1 : ∀ j, j ≠ i → j ≠ x → nr1 D i x j = D j := fun j h1 h2 => by
      unfold nr1
      by_cases z : (D x).1 1006 = 1
      · rw [if_pos z, va_up_ne _ _ h2, va_up_ne _ _ h1]
      · rw [if_neg z, va_up_ne _ _ h1]
    have l2 : nr1 D i x x = if (D x).1 1006 = 1 then (noteOutF (D x).1 ((D i).1 1007), (D x).2) else D x := by
      unfold nr1
      by_cases z : (D x).1 1006 = 1
      · rw [if_pos z, if_pos z, va_up_self]
      · rw [if_neg z, if_neg z, va_up_ne _ _ (Ne.symm nx)]
    have l3 : nr1 D i x i = (va_up (D i).1 1009 1, (D i).2) := by
      unfold nr1
      by_cases z : (D x).1 1006 = 1
      · rw [if_pos z, va_up_ne _ _ nx, va_up_self]
      · rw [if_neg z, va_up_self]
    obtain ⟨a1, a2⟩ := ih (nr1 D i x) nxs
    have m7 : (nr1 D i x i).1 1007 = (D i).1 1007 := by
      rw [l3]
      show va_up (D i).1 1009 1 1007 = _
      rw [va_up_ne _ _ (by decide)]
    rw [e]
    refine ⟨fun j hj => ?_, ?_⟩
    · rw [a1 j hj, m7]
      by_cases y : j = x
      · rw [y, l2]
        by_cases z : (D x).1 1006 = 1
        · have z' : noteOutF (D x).1 ((D i).1 1007) 1006 = 1 := by rw [(noteOut_r _ _).2 1006 (by decide)]; exact z
          rw [if_pos z, if_pos (show x ∈ x :: xs ∧ _ from ⟨List.mem_cons_self, z⟩)]
          by_cases u : x ∈ xs
          · rw [if_pos ⟨u, z'⟩, noteOut_2]
          · rw [if_neg (fun w => u w.1)]
        · rw [if_neg z, if_neg (fun w => z w.2), if_neg (fun w => z w.2)]
      · rw [l1 j hj y]
        by_cases u : j ∈ xs ∧ (D j).1 1006 = 1
        · rw [if_pos u, if_pos ⟨List.mem_cons_of_mem _ u.1, u.2⟩]
        · rw [if_neg u, if_neg (fun w => u ⟨(List.mem_cons.mp w.1).resolve_left y, w.2⟩)]
    · rw [a2, l3, if_neg (show ¬ (x :: xs = []) from fun z => nomatch z)]
      by_cases z : xs = []
      · rw [if_pos z]
      · rw [if_neg z]
        show (va_up (va_up (D i).1 1009 1) 1009 1, (D i).2) = _
        congr 1
        funext f
        by_cases y : f = 1009
        · rw [y, va_up_self, va_up_self]
        · rw [va_up_ne _ _ y]
section DONE
variable {h hc h1 h2 h' : Hp} {M b c w l v k r clk y : Nat} {G G' : Nat → Int32} {fv : Int64} {V : List Kv} {ts : List Nat} {D D' : Nat → TD} {ac cm : List Nat} {ct rs : Nat → Int32} {R : List (Int32 × Int64)}
theorem F2.mem {α β : Type} {R : α → β → Prop} {a : α} : ∀ {as : List α} {bs : List β}, F2 R as bs → a ∈ as → ∃ b ∈ bs, R a b := by
  intro as
  induction as with
  | nil => intro bs _ m; exact nomatch m
  | cons x as ih =>
    intro bs f m
    cases bs with
    | nil => exact f.elim
    | cons z bs =>
      rcases List.mem_cons.mp m with e | e
      · exact ⟨z, List.mem_cons_self, by rw [e]; exact f.1⟩
      · obtain ⟨u, u1, u2⟩ := ih f.2 e
        exact ⟨u, List.mem_cons_of_mem _ u1, u2⟩
theorem inst_flag {t n : Nat} {L : List Kv} {P : List Nat} {As : Shf} (ow : OwnR h M w t L P n) (hs : Srt As) (hn : ∀ y ∈ As, y.2 ≠ []) (bk : BkL As L) (b01 : ∀ j, j < w → h.bi (M + 14) j = 0 ∨ h.bi (M + 14) j = 1) {mo o : Int32} {z : Kv} (hz : z ∈ inst As mo o) : z.2.2.2.1 = 0 ∨ z.2.2.2.1 = 1 := by
  obtain ⟨⟨key, ch⟩, y1, rfl⟩ := List.mem_map.mp hz
  cases ch with
  | nil => exact Or.inl rfl
  | cons e ch =>
    show e.2.2.1 = 0 ∨ e.2.2.1 = 1
    have m : e ∈ chn L key := by
      rw [← bk, look_mem hs y1]
      exact List.mem_cons_self
    obtain ⟨j, j1, j2⟩ := F2.mem ow.1 (chn_mem.mp m)
    have := j2.2.2.1
    show e.2.2.1 = 0 ∨ e.2.2.1 = 1
    rw [show e.2.2.1 = h.bi (M + 14) j from this]
    exact b01 j (ownI_lt j1)
end DONE
