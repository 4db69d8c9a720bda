/-! the counts, within their bounds -/
def Ex (G : Nat → Int32) (B : Shf) (V : List Kv) (ts : List Nat) (D : Nat → TD) (ac cm ot : List Nat) (b c w l k r clk nr j a a0 sc : Nat) : Prop :=
  (G 1208 = nI nr ∧ b ≤ nr ∧ nr + c + a ≤ j ∧ w + sc ≤ nr ∧ l ≤ nr ∧ k ≤ nr ∧ clk ≤ j ∧ r ≤ sc * min w 100 ∧ c + ac.length ≤ b ∧ j ≤ 512) ∧
  (ac.Pairwise (fun a b => a < b) ∧ ac.length ≤ 24 ∧ ∀ u ∈ ot, u < ts.length) ∧
  (V.length + (ac.map (fun i => tN (D i))).sum ≤ nr ∧ sumF (fun i => (tC (D i)).length) b + b ≤ nr) ∧
  (∀ i, i < b → (tL (D i)).length ≤ tN (D i) ∧ tN (D i) ≤ nr ∧ StB (tL (D i)) (tN (D i)) ∧ (tS (D i)).length ≤ nr) ∧
  (∀ i, i < b → runL ((D i).1 1000) (tC (D i)) ([], [], 0) = (tL (D i), tP (D i), tN (D i))) ∧
  (∀ i ∈ cm, ∀ key, chn (tL (D i)) key ≠ [] → chn V key ≠ []) ∧
  (G 1212 = nI a0 ∧ a ≤ a0 ∧ a0 ≤ c ∧ (a0 = c → AstR B D cm (Ahd B D cm) (G 1213)))
theorem sum_idx (f : Nat → Nat) {i : Nat} : ∀ {xs : List Nat} {j : Nat}, xs[j]? = some i → ((xs.eraseIdx j).map f).sum + f i = (xs.map f).sum := by
  intro xs
  induction xs with
  | nil => intro j e; exact nomatch e
  | cons x r ih =>
    intro j e
    cases j with
    | zero =>
      have e : some x = some i := e
      have e := Option.some.inj e
      show (r.map f).sum + f i = f x + (r.map f).sum
      rw [e]; omega
    | succ j =>
      have := ih (j := j) e
      show f x + ((r.eraseIdx j).map f).sum + f i = f x + (r.map f).sum
      omega
theorem smc_con (f f' : Nat → Nat) : ∀ {xs : List Nat}, (∀ u ∈ xs, f' u = f u) → (xs.map f').sum = (xs.map f).sum := by
  intro xs e
  rw [List.map_congr_left e]
theorem smc_one (f f' : Nat → Nat) {i : Nat} (e : ∀ u, u ≠ i → f' u = f u) (e1 : f' i ≤ f i + 1) : ∀ {xs : List Nat}, xs.Nodup → (xs.map f').sum ≤ (xs.map f).sum + 1 := by
  intro xs
  induction xs with
  | nil => intro _; exact Nat.zero_le _
  | cons x r ih =>
    intro nd
    have nd := List.nodup_cons.mp nd
    show f' x + (r.map f').sum ≤ f x + (r.map f).sum + 1
    by_cases z : x = i
    · have := smc_con f f' (xs := r) (fun u hu => e u (fun y => nd.1 (by rw [z, ← y]; exact hu)))
      rw [z, this]; omega
    · have := ih nd.2
      rw [e x z]; omega
theorem smc_sub (f : Nat → Nat) : ∀ {xs ys : List Nat}, xs.Sublist ys → (xs.map f).sum ≤ (ys.map f).sum := by
  intro xs ys s
  induction s with
  | slnil => exact Nat.le_refl _
  | cons a _ ih => rw [List.map_cons, List.sum_cons]; omega
  | cons_cons a _ ih => rw [List.map_cons, List.sum_cons, List.map_cons, List.sum_cons]; omega
theorem sumF_one (f f' : Nat → Nat) {i : Nat} (e : ∀ u, u ≠ i → f' u = f u) (e1 : f' i ≤ f i + 1) : ∀ n, sumF f' n ≤ sumF f n + 1 ∧ (n ≤ i → sumF f' n = sumF f n) := by
  intro n
  induction n with
  | zero => exact ⟨Nat.zero_le _, fun _ => rfl⟩
  | succ n ih =>
    show sumF f' n + f' n ≤ sumF f n + f n + 1 ∧ (n + 1 ≤ i → sumF f' n + f' n = sumF f n + f n)
    by_cases z : n = i
    · have := ih.2 (by omega)
      rw [z] at this ⊢
      exact ⟨by omega, fun y => by omega⟩
    · rw [e n z]
      exact ⟨by have := ih.1; omega, fun y => by rw [ih.2 (by omega)]⟩
theorem sumF_ge (f : Nat → Nat) {i : Nat} : ∀ n, i < n → f i ≤ sumF f n := by
  intro n
  induction n with
  | zero => intro h; omega
  | succ n ih =>
    intro h
    show f i ≤ sumF f n + f n
    by_cases z : i = n
    · rw [z]; omega
    · have := ih (by omega); omega
theorem sumF_mono (f : Nat → Nat) {n m : Nat} (h : n ≤ m) : sumF f n ≤ sumF f m := by
  induction m with
  | zero => rw [show n = 0 by omega]; exact Nat.le_refl _
  | succ m ih =>
    by_cases z : n = m + 1
    · rw [z]; exact Nat.le_refl _
    · have := ih (by omega)
      show _ ≤ sumF f m + f m
      omega
theorem ahd_con {B : Shf} {D D' : Nat → TD} {cm : List Nat} (e : ∀ u ∈ cm, (D' u).2 = (D u).2 ∧ (D' u).1 1000 = (D u).1 1000 ∧ (D' u).1 1001 = (D u).1 1001 ∧ (D' u).1 1007 = (D u).1 1007) : Ahd B D' cm = Ahd B D cm := by
  funext x y
  unfold Ahd
  refine propext ⟨fun z => ?_, fun z => ?_⟩
  · rcases z with z | ⟨i, hi, z, hz, a, b⟩
    · exact Or.inl z
    · obtain ⟨e1, _, e3, e4⟩ := e i hi
      rw [e1] at a
      rw [e3, e4] at b
      exact Or.inr ⟨i, hi, z, hz, a, b⟩
  · rcases z with z | ⟨i, hi, z, hz, a, b⟩
    · exact Or.inl z
    · obtain ⟨e1, _, e3, e4⟩ := e i hi
      exact Or.inr ⟨i, hi, z, hz, by rw [e1]; exact a, by rw [e3, e4]; exact b⟩
theorem repA_con {D D' : Nat → TD} {cm : List Nat} (e : ∀ u ∈ cm, (D' u).2 = (D u).2 ∧ (D' u).1 1000 = (D u).1 1000 ∧ (D' u).1 1001 = (D u).1 1001 ∧ (D' u).1 1007 = (D u).1 1007) : ∀ (ord : List Nat) (i : Nat) (W : List Kv) (m : Nat) (W' : List Kv) (m' : Nat), RepA D cm ord i W m W' m' → RepA D' cm ord i W m W' m' := by
  intro ord
  induction ord with
  | nil => intro i W m W' m' q; exact q
  | cons x r ih =>
    intro i W m W' m' q
    obtain ⟨j, L, A, m1, h1, h2, h3, h4, h5, h6⟩ := q
    obtain ⟨e1, e2, _, _⟩ := e j (List.mem_of_getElem? h1)
    refine ⟨j, L, A, m1, h1, by rw [e1, e2]; exact h2, h3, h4, h5, ?_⟩
    rw [e2]
    exact ih _ _ _ _ _ h6
theorem astR_con {B : Shf} {D D' : Nat → TD} {cm : List Nat} {x : Int32} (e : ∀ u ∈ cm, (D' u).2 = (D u).2 ∧ (D' u).1 1000 = (D u).1 1000 ∧ (D' u).1 1001 = (D u).1 1001 ∧ (D' u).1 1007 = (D u).1 1007) (q : AstR B D cm (Ahd B D cm) x) : AstR B D' cm (Ahd B D' cm) x := by
  rw [ahd_con e]
  obtain ⟨ord, o1, o2 | ⟨o3, W, m, o4, o5⟩⟩ := q
  · exact ⟨ord, o1, Or.inl o2⟩
  · exact ⟨ord, o1, Or.inr ⟨o3, W, m, repA_con e _ _ _ _ _ _ o4, o5⟩⟩
theorem stepL_len {ow : Int32} {L : List Kv} {P : List Nat} {n : Nat} {d : Clq} (hL : L.length ≤ n) : (stepL ow (L, P, n) d).1.length ≤ (stepL ow (L, P, n) d).2.2 ∧ (stepL ow (L, P, n) d).2.2 ≤ n + 1 := by
  unfold stepL
  by_cases d3 : d.1 = 3
  · rw [if_pos d3]
    refine ⟨?_, Nat.le_refl _⟩
    show (L ++ [_]).length ≤ n + 1
    rw [List.length_append]
    exact Nat.succ_le_succ hL
  · rw [if_neg d3]
    by_cases d4 : d.1 = 4
    · rw [if_pos d4]
      exact ⟨hL, Nat.le_succ _⟩
    · rw [if_neg d4]
      by_cases d5 : d.1 = 5
      · rw [if_pos d5]
        exact ⟨Nat.le_trans (List.length_filter_le _ _) hL, Nat.le_succ _⟩
      · rw [if_neg d5]
        exact ⟨hL, Nat.le_succ _⟩
section PUR
variable {h h' hR : Hp} {M b c w l v k r clk nr : Nat} {G G' : Nat → Int32} {fv fv' : Int64} {B : Shf} {V : List Kv} {ts : List Nat} {D D' : Nat → TD} {ac ac' cm ot ot' : List Nat} {ct ct' rs rs' : Nat → Int32} {R R' : List (Int32 × Int64)} {j a a0 sc : Nat}
theorem fld_cm {w' l' v' k' r' clk' : Nat} {V' : List Kv} (q : Cpl h M b c w l v k r clk G fv V ts D ac cm ct rs R) (q' : Cpl hR M b c w' l' v' k' r' clk' G' fv' V' ts D' ac' cm ct' rs' R') (e3 : hR.bi (M + 3) = h.bi (M + 3)) (e : ∀ u ∈ cm, (D' u).2 = (D u).2) : ∀ u ∈ cm, (D' u).2 = (D u).2 ∧ (D' u).1 1000 = (D u).1 1000 ∧ (D' u).1 1001 = (D u).1 1001 ∧ (D' u).1 1007 = (D u).1 1007 := by
  intro u hu
  obtain ⟨m, hm⟩ := mem_iff_get.mp hu
  obtain ⟨u1, u2, u3⟩ := q.2.2.2.2.2.2.1.2.1 m u hm
  obtain ⟨_, _, u6⟩ := q'.2.2.2.2.2.2.1.2.1 m u hm
  have f := q.2.2.2.1 u u1
  have f' := q'.2.2.2.1 u u1
  exact ⟨e u hu, f'.1.trans f.1.symm, by rw [f'.2.1, f.2.1, e3], by rw [f'.2.2.2.2.1, f.2.2.2.2.1, u3, u6]⟩
theorem ex_ki (q : Cpl h M b c w l v k r clk G fv V ts D ac cm ct rs R) (x : Ex G B V ts D ac cm ot b c w l k r clk nr j a a0 sc) : Ki nr G B V ts D ac cm := by
  obtain ⟨⟨x1, x2, x3, x4, x5, x6, x7, x8, x9, x10⟩, ⟨y1, y2, y3⟩, ⟨z1, z2⟩, x11, x12, x13, x14⟩ := x
  have ls := q.2.2.2.2.2.2.1
  refine ⟨x1, by rw [q.2.1]; exact x2, fun i hi => by rw [q.2.1]; exact ((ls.1 i).mp hi).1, y1, fun i hi => ?_, cm_nd q, fun i hi hc => ?_, fun x hx => ?_, z1, fun i hi => ?_⟩
  · obtain ⟨m, hm⟩ := mem_iff_get.mp hi
    rw [q.2.1]; exact (ls.2.1 m i hm).1
  · obtain ⟨m, hm⟩ := mem_iff_get.mp hc
    have a1 := (ls.2.1 m i hm).2.1
    have a2 := ((ls.1 i).mp hi).2
    rw [a1] at a2
    exact absurd a2 (by decide)
  · obtain ⟨y, hy⟩ := mem_iff_get.mp hx
    have vy := q.2.2.2.2.2.2.2.2.2.2.1.2.2 y x hy
    have yv : y < v := by
      have := (List.getElem?_eq_some_iff.mp hy).1
      rw [q.2.2.2.2.2.2.2.2.2.2.1.1] at this
      exact this
    obtain ⟨m, j', g1, g2, g3, g4, g5⟩ := ver_own q yv
    have := (List.getElem?_eq_some_iff.mp g1).1
    refine ⟨m + 1, by omega, by omega, ?_⟩
    rw [vy.2.1]
    exact g3
  · rw [q.2.1] at hi
    obtain ⟨a1, a2, a3, a4⟩ := x11 i hi
    have sg : (tC (D i)).length ≤ sumF (fun i => (tC (D i)).length) b := sumF_ge (fun i => (tC (D i)).length) b hi
    exact ⟨a1, a2, a3, a4, by show (tC (D i)).length ≤ nr; omega⟩
end PUR
