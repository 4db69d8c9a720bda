section PUR2
variable {h h' hR : Hp} {M b c w l v k r clk nr : Nat} {G G' : Nat → Int32} {fv fv' : Int64} {B : Shf} {V : List Kv} {ts : List Nat} {D D' : Nat → TD} {ac ac' cm ot ot' : List Nat} {ct ct' rs rs' : Nat → Int32} {R R' : List (Int32 × Int64)} {j a a0 sc : Nat}
theorem ex_call {clk0 w' l' k' r' i jj n' : Nat} {d : Clq} {L' : List Kv} {P' : List Nat} (q : Cpl h M b c w l v k r clk G fv V ts D ac cm ct rs R) (x : Ex G B V ts D ac cm ot b c w l k r clk0 nr j a a0 sc) (hj1 : j + 1 ≤ 512) (hclk : clk ≤ j + 1) (hi : i < b) (ai : h.bi (M + 1) (i + 1) = 1) (q' : Cpl hR M b c w' l' v k' r' clk G' fv' V ts D' ac' cm ct' rs' R') (f : RfO cA cG M h hR) (gg : G' 1208 = nI (nr + 1) ∧ G' 1212 = G 1212 ∧ G' 1213 = G 1213) (hac : ac' = ac ∨ ac' = ac.eraseIdx jj) (bd : w ≤ w' ∧ w' ≤ w + (if d.1 = 3 then 1 else 0) ∧ l' ≤ l + 1 ∧ k' ≤ k + 1 ∧ r' ≤ r + (if d.1 = 2 then min w 100 else 0)) (hot : ∀ u ∈ ot', u < ts.length) (oth : ∀ u, u ≠ i → (D' u).2 = (D u).2) (ts1 : (tS (D' i)).length ≤ (tS (D i)).length + 1) (alt : (tL (D' i) = tL (D i) ∧ tP (D' i) = tP (D i) ∧ tN (D' i) = tN (D i) ∧ tC (D' i) = tC (D i)) ∨ ∃ c0 a, (tL (D' i), tP (D' i), tN (D' i)) = stepL ((D i).1 1000) (tL (D i), tP (D i), tN (D i)) d ∧ tC (D' i) = tC (D i) ++ [(c0, d, a)]) (sb : StB L' n') (sl : (L', P', n') = stepL ((D i).1 1000) (tL (D i), tP (D i), tN (D i)) d) : Ex G' B V ts D' ac' cm ot' b c w' l' k' r' clk (nr + 1) (j + 1) a a0 (sc + (if d.1 = 2 then 1 else 0)) ∧ (ac'.map (fun i => tN (D' i))).sum ≤ (ac.map (fun i => tN (D i))).sum + 1 := by
  obtain ⟨⟨x1, x2, x3, x4, x5, x6, x7, x8, x9, x10⟩, ⟨y1, y2, y3⟩, ⟨z1, z2⟩, x11, x12, x13, x14, x15, x16, x17⟩ := x
  have sub : ac'.Sublist ac := by
    rcases hac with e | e
    · rw [e]; exact List.Sublist.refl _
    · rw [e]; exact List.eraseIdx_sublist _ _
  have nd : ac.Nodup := y1.imp (fun z => Nat.ne_of_lt z)
  obtain ⟨a1, a2, a3, a4⟩ := x11 i hi
  have sle := stepL_len (ow := (D i).1 1000) (P := tP (D i)) (d := d) a1
  rw [← sl] at sle
  have cmi : ∀ u ∈ cm, u ≠ i := by
    intro u hu e
    obtain ⟨m, hm⟩ := mem_iff_get.mp hu
    have a5 := (q.2.2.2.2.2.2.1.2.1 m u hm).2.1
    rw [e, ai] at a5
    exact absurd a5 (by decide)
  have own : (tL (D' i)).length ≤ tN (D' i) ∧ tN (D' i) ≤ tN (D i) + 1 ∧ StB (tL (D' i)) (tN (D' i)) ∧ (tC (D' i)).length ≤ (tC (D i)).length + 1 ∧ runL ((D i).1 1000) (tC (D' i)) ([], [], 0) = (tL (D' i), tP (D' i), tN (D' i)) := by
    rcases alt with ⟨e1, e2, e3, e4⟩ | ⟨c0, an, e1, e2⟩
    · rw [e1, e2, e3, e4]
      exact ⟨a1, Nat.le_succ _, a3, Nat.le_succ _, x12 i hi⟩
    · have e3 := e1.trans sl.symm
      have eL : tL (D' i) = L' := congrArg Prod.fst e3
      have eN : tN (D' i) = n' := congrArg (fun z => z.2.2) e3
      refine ⟨by rw [eL, eN]; exact sle.1, by rw [eN]; exact sle.2, by rw [eL, eN]; exact sb, ?_, ?_⟩
      · rw [e2, List.length_append]; exact Nat.le_refl _
      · rw [e2, runL_snoc, x12 i hi]
        exact e1.symm
  have sm1 : (ac'.map (fun i => tN (D' i))).sum ≤ (ac.map (fun i => tN (D i))).sum + 1 := by
    refine Nat.le_trans (smc_sub _ sub) (smc_one _ _ (i := i) (fun u hu => ?_) own.2.1 nd)
    show (D' u).2.2.2.2.2.1 = (D u).2.2.2.2.2.1
    rw [oth u hu]
  have sm2 : sumF (fun i => (tC (D' i)).length) b ≤ sumF (fun i => (tC (D i)).length) b + 1 := by
    refine (sumF_one _ _ (i := i) (fun u hu => ?_) own.2.2.2.1 b).1
    show (D' u).2.2.2.2.2.2.2.length = (D u).2.2.2.2.2.2.2.length
    rw [oth u hu]
  obtain ⟨b1, b2, b3, b4, b5⟩ := bd
  have acl := sub.length_le
  refine ⟨⟨⟨gg.1, by omega, by omega, ?_, by omega, by omega, hclk, ?_, by omega, hj1⟩, ⟨y1.sublist sub, by omega, hot⟩, ⟨by omega, by omega⟩, fun u hu => ?_, fun u hu => ?_, fun u hu => ?_, gg.2.1.trans x14, x15, x16, fun e => ?_⟩, sm1⟩
  · by_cases d3 : d.1 = 3
    · rw [if_pos d3] at b2
      rw [d3, if_neg (by decide)]
      omega
    · rw [if_neg d3] at b2
      by_cases d2 : d.1 = 2
      · rw [if_pos d2]; omega
      · rw [if_neg d2]; omega
  · have mm : min w 100 ≤ min w' 100 := by omega
    have m2 := Nat.mul_le_mul_left sc mm
    by_cases d2 : d.1 = 2
    · rw [if_pos d2] at b5 ⊢
      rw [Nat.add_mul]
      omega
    · rw [if_neg d2] at b5 ⊢
      rw [Nat.add_zero]
      omega
  · by_cases e : u = i
    · rw [e]
      exact ⟨own.1, by omega, own.2.2.1, by omega⟩
    · obtain ⟨c1, c2, c3, c4⟩ := x11 u hu
      have e2 := oth u e
      show (D' u).2.2.2.1.length ≤ (D' u).2.2.2.2.2.1 ∧ (D' u).2.2.2.2.2.1 ≤ nr + 1 ∧ StB (D' u).2.2.2.1 (D' u).2.2.2.2.2.1 ∧ (D' u).2.2.2.2.2.2.1.length ≤ nr + 1
      rw [e2]
      exact ⟨c1, Nat.le_succ_of_le c2, c3, Nat.le_succ_of_le c4⟩
  · have f1 : (D' u).1 1000 = (D u).1 1000 := (q'.2.2.2.1 u hu).1.trans (q.2.2.2.1 u hu).1.symm
    rw [f1]
    by_cases e : u = i
    · rw [e]; exact own.2.2.2.2
    · show runL ((D u).1 1000) (D' u).2.2.2.2.2.2.2 ([], [], 0) = ((D' u).2.2.2.1, (D' u).2.2.2.2.1, (D' u).2.2.2.2.2.1)
      rw [oth u e]
      exact x12 u hu
  · show ∀ key, chn (D' u).2.2.2.1 key ≠ [] → chn V key ≠ []
    rw [oth u (cmi u hu)]
    exact x13 u hu
  · rw [gg.2.2]
    exact astR_con (fld_cm q q' (f.bi (by decide)) (fun u hu => oth u (cmi u hu))) (x17 e)
end PUR2
