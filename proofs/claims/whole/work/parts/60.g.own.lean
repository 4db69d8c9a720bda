section OW3
variable {h h' : Hp} {M b c w l v k r clk : Nat} {G G' : Nat → Int32} {fv : Int64} {V : List Kv} {ts : List Nat} {D D' : Nat → TD} {ac cm : List Nat} {ct rs : Nat → Int32} {R : List (Int32 × Int64)}
/-- rows of a log that only adds kind, transaction, key -/
theorem RwK.log {A Gf : List Nat} {kind t key : Int32} {s : Hp} (f : RfO A Gf M h s) (hA : ∀ x ∈ [12, 23, 24, 25, 26, 27, 28, 29, 30, 31, 32, 33, 34], x ∉ A) : RwK h (logH s M k kind t key) M k w r := by
  have f2 := logH.ro (h := s) (M := M) (k := k) (kind := kind) (t := t) (key := key)
  refine ⟨fun j hj => ?_, fun e he => ?_, fun j hj => ?_⟩
  · have lr := log_rows (h := s) (M := M) (k := k) (kind := kind) (t := t) (key := key) j
    rw [lr.1, lr.2.1, lr.2.2, if_neg (by omega), if_neg (by omega), if_neg (by omega), f2.bi (by decide), f2.bi (by decide), f2.bi (by decide), f2.bi (by decide), f2.bi (by decide), f2.bw (by decide), f2.bw (by decide), f.bi (hA 23 (by decide)), f.bi (hA 24 (by decide)), f.bi (hA 25 (by decide)), f.bi (hA 26 (by decide)), f.bi (hA 27 (by decide)), f.bw (hA 28 (by decide)), f.bi (hA 29 (by decide)), f.bi (hA 30 (by decide)), f.bw (hA 31 (by decide)), f.bi (hA 32 (by decide))]
    exact ⟨rfl, rfl, rfl, rfl, rfl, rfl, rfl, rfl, rfl, rfl⟩
  · rw [f2.bi (by decide), f.bi (hA 12 (by decide))]
  · rw [f2.bi (by decide), f2.bw (by decide), f.bi (hA 33 (by decide)), f.bw (hA 34 (by decide))]
    exact ⟨rfl, rfl⟩
theorem OwnR.mono {t n n' : Nat} {L : List Kv} {P : List Nat} (o : OwnR h M w t L P n) (e10 : ∀ q, q < 10 → h'.bi (M + 10) (10 * t + q) = h.bi (M + 10) (10 * t + q)) (e11 : h'.bi (M + 11) = h.bi (M + 11)) (e12 : h'.bi (M + 12) = h.bi (M + 12)) (e13 : h'.bw (M + 13) = h.bw (M + 13)) (e14 : h'.bi (M + 14) = h.bi (M + 14)) (e15 : ∀ j, j < w → h.bi (M + 11) j = nI t → h'.bi (M + 15) j = h.bi (M + 15) j) (hn : n ≤ n') : OwnR h' M w t L P n' := by
  obtain ⟨o1, o2, o3⟩ := o
  have ql : ∀ {q p : Nat}, P[q]? = some p → q < 10 := by
    intro q p hp
    rcases Nat.lt_or_ge q P.length with z | z
    · omega
    · rw [List.getElem?_eq_none z] at hp; cases hp
  have oc : ownI h' M w t = ownI h M w t := by
    unfold ownI
    refine List.filter_congr (fun j hj => ?_)
    rw [e11]
    by_cases z : h.bi (M + 11) j = nI t
    · rw [e15 j (List.mem_range.mp hj) z]
    · rw [decide_eq_false (fun u => z u.1), decide_eq_false (fun u => z u.1)]
  refine ⟨?_, fun q p hp => ?_, o3⟩
  · rw [oc, e12, e13, e14]
    refine F2.mono (fun x j r => ⟨r.1, r.2.1, r.2.2.1, r.2.2.2.1, fun q p hp => ?_⟩) o1
    rw [e10 q (ql hp)]
    exact r.2.2.2.2 q p hp
  · obtain ⟨p1, a, a1, a2⟩ := o2 q p hp
    exact ⟨by omega, a, by rw [e10 q (ql hp)]; exact a1, a2⟩
theorem cpl_save (q : Cpl h M b c w l v k r clk G fv V ts D ac cm ct rs R) {i : Nat} (hi : i < b) (hk : k < 512) (A' : Shf) (c0 : Nat) (hp : (tP (D i)).length < 10) (sb : StB (tL (D i)) (tN (D i))) (hn : tN (D i) < 90000) (hG : G' 1209 = G 1209) : Cpl (savH h M w k (i + 1) (tP (D i)).length) M b c w l v (k + 1) r clk G' fv V ts (ownD D i A' (tL (D i)) (tP (D i) ++ [tN (D i)]) (tN (D i)) (tC (D i) ++ [(c0, (4, 0, 0, 0, 0, 0), none)])) ac cm ct rs R := by
  obtain ⟨q1, q2, q3, q4, q5, q6, q7, q8, q9, q10, q11, q12, q13, q14, q15, q16⟩ := q
  have hb := q1.2.2.2.2.2.2.2.1
  obtain ⟨s, es⟩ : ∃ s, s = (h.sbi (M + 10) (10 * (i + 1) + (tP (D i)).length) (nI w)).sbi (M + 9) (i + 1) (nI ((tP (D i)).length + 1)) := ⟨_, rfl⟩
  have f0 : RfO [9, 10] [] M h s := by rw [es]; exact (RfO.sbi (k := 10) (by decide) _ _).tr (RfO.sbi (k := 9) (by decide) _ _)
  have e9 : ∀ j, s.bi (M + 9) j = if j = i + 1 then nI ((tP (D i)).length + 1) else h.bi (M + 9) j := fun j => by rw [es, bi_at, bi_oth (by omega)]
  have e10 : ∀ j, s.bi (M + 10) j = if j = 10 * (i + 1) + (tP (D i)).length then nI w else h.bi (M + 10) j := fun j => by rw [es, bi_oth (by omega), bi_at]
  have eh : savH h M w k (i + 1) (tP (D i)).length = logH s M k 7 (nI (i + 1)) 0 := by unfold savH; rw [es]
  rw [eh]
  have fl := logH.ro (h := s) (M := M) (k := k) (kind := 7) (t := nI (i + 1)) (key := 0)
  have f : RfO [9, 10, 23, 24, 25] [1339] M h (logH s M k 7 (nI (i + 1)) 0) := (f0.mono (by decide) (fun _ z => nomatch z)).tr (fl.mono (by decide) (fun _ z => z))
  have rk : RwK h (logH s M k 7 (nI (i + 1)) 0) M k w r := RwK.log f0 (by decide)
  have n' := logH.rn (f0.rn q1 (fun _ _ z => nomatch z)) hk (kind := 7) (t := nI (i + 1)) (key := 0)
  have lr := log_rows (h := s) (M := M) (k := k) (kind := 7) (t := nI (i + 1)) (key := 0) k
  have e9' : ∀ j, (logH s M k 7 (nI (i + 1)) 0).bi (M + 9) j = if j = i + 1 then nI ((tP (D i)).length + 1) else h.bi (M + 9) j := fun j => by rw [fl.bi (by decide)]; exact e9 j
  have e10' : ∀ j, (logH s M k 7 (nI (i + 1)) 0).bi (M + 10) j = if j = 10 * (i + 1) + (tP (D i)).length then nI w else h.bi (M + 10) j := fun j => by rw [fl.bi (by decide)]; exact e10 j
  generalize logH s M k 7 (nI (i + 1)) 0 = h2 at f rk n' lr e9' e10' ⊢
  obtain ⟨D', eD⟩ : ∃ D', D' = ownD D i A' (tL (D i)) (tP (D i) ++ [tN (D i)]) (tN (D i)) (tC (D i) ++ [(c0, (4, 0, 0, 0, 0, 0), none)]) := ⟨_, rfl⟩
  rw [← eD]
  have eF : ∀ j, (D' j).1 = (D j).1 ∧ tS (D' j) = tS (D j) := fun j => by rw [eD]; exact ownD_F i _ _ _ _ _ j
  have ei : D' i = ((D i).1, (D i).2.1, A', tL (D i), tP (D i) ++ [tN (D i)], tN (D i), tS (D i), tC (D i) ++ [(c0, (4, 0, 0, 0, 0, 0), none)]) := by rw [eD]; exact ownD_i _ _ _ _ _ _ _
  have ej : ∀ j, j ≠ i → D' j = D j := fun j z => by rw [eD]; exact ownD_j D _ _ _ _ _ z
  refine ⟨n', q2, q3, fun j hj => ?_, Rng.ro f (by decide) q5, ?_, Lsq.ro f (by decide) q7, (Ouq.ro f (by decide) q8).upd (fun j _ => by rw [(eF j).1]), ?_, (Loq.ro f (by decide) q10).upd (fun j _ => (eF j).2), Veq.ro f (by decide) q11, ?_, Cnq.ro f (by decide) q13, (Whq.ro f (by decide) q14).upd hG, Roq.ro f (by decide) (by decide) q15, (Saq.ro f (by decide) (by decide) q16).upd (fun j _ => by rw [(eF j).1])⟩
  · obtain ⟨a1, a2, a3, a4, a5, a6, a7⟩ := q4 j hj
    rw [(eF j).1, f.bi (by decide), f.bi (by decide), f.bi (by decide), f.bi (by decide), f.bi (by decide), f.bi (by decide), e9']
    refine ⟨a1, a2, a3, a4, a5, a6, ?_⟩
    by_cases e : j = i
    · rw [e, if_pos rfl, ei]
      show _ = nI (tP (D i) ++ [tN (D i)]).length
      rw [List.length_append, List.length_singleton]
    · rw [if_neg (by omega), ej j e]
      exact a7
  · refine ⟨fun t t1 t2 => ?_, fun j h1 h2 => by rw [f.bi (by decide)]; exact q6.2.1 j h1 h2, fun j hj => by rw [f.bi (by decide)]; exact q6.2.2.1 j hj, fun j h1 h2 => by rw [f.bi (by decide)]; exact q6.2.2.2.1 j (by omega) h2, fun j hj => by rw [f.bi (by decide)]; exact q6.2.2.2.2 j hj⟩
    rw [f.bi (by decide), f.bi (by decide), f.bi (by decide), e9', if_neg (by omega)]
    exact q6.1 t t1 t2
  · intro j hj
    obtain ⟨o1, o2, o3⟩ := q9 j hj
    by_cases e : j = i
    · rw [e, ei]
      rw [e] at o1 o2 o3
      have gl : ∀ (q p : Nat), (tP (D i) ++ [tN (D i)])[q]? = some p → (q < (tP (D i)).length ∧ (tP (D i))[q]? = some p) ∨ (q = (tP (D i)).length ∧ p = tN (D i)) := by
        intro q p hx
        by_cases e1 : q < (tP (D i)).length
        · rw [List.getElem?_append_left e1] at hx
          exact Or.inl ⟨e1, hx⟩
        · have il : q < (tP (D i) ++ [tN (D i)]).length := by
            rcases Nat.lt_or_ge q (tP (D i) ++ [tN (D i)]).length with z | z
            · exact z
            · rw [List.getElem?_eq_none z] at hx; cases hx
          rw [List.length_append, List.length_singleton] at il
          have ie : q = (tP (D i)).length := by omega
          rw [ie, List.getElem?_append_right (Nat.le_refl _), Nat.sub_self] at hx
          exact Or.inr ⟨ie, by injection hx with z; exact z.symm⟩
      have oc : ownI h2 M w (i + 1) = ownI h M w (i + 1) := ownI_con (i + 1) (fun u _ => ⟨by rw [f.bi (by decide)], by rw [f.bi (by decide)]⟩)
      refine ⟨?_, fun q p hx => ?_, ?_⟩
      · have nf : ∀ x ∈ tL (D i), x.2.1 ≤ nI (tN (D i)) := sb
        rw [oc, f.bi (by decide), f.bi (by decide), f.bw (by decide)]
        have go : ∀ (I : List Nat) (L : List Kv), (∀ u ∈ I, u < w) → (∀ x ∈ L, x.2.1 ≤ nI (tN (D i))) → F2 (fun (x : Kv) (j : Nat) => x.1 = h.bi (M + 12) j ∧ x.2.2.1 = nI (i + 1) ∧ x.2.2.2.1 = h.bi (M + 14) j ∧ x.2.2.2.2 = h.bw (M + 13) j ∧ ∀ (q p : Nat), (tP (D i))[q]? = some p → ∃ a, h.bi (M + 10) (10 * (i + 1) + q) = nI a ∧ a ≤ w ∧ (x.2.1 ≤ nI p ↔ j < a)) L I → F2 (fun (x : Kv) (j : Nat) => x.1 = h.bi (M + 12) j ∧ x.2.2.1 = nI (i + 1) ∧ x.2.2.2.1 = h.bi (M + 14) j ∧ x.2.2.2.2 = h.bw (M + 13) j ∧ ∀ (q p : Nat), (tP (D i) ++ [tN (D i)])[q]? = some p → ∃ a, h2.bi (M + 10) (10 * (i + 1) + q) = nI a ∧ a ≤ w ∧ (x.2.1 ≤ nI p ↔ j < a)) L I := by
          intro I
          induction I with
          | nil =>
            intro L _ _ z
            cases L with
            | nil => trivial
            | cons x L => exact z.elim
          | cons u I ih =>
            intro L h1 h2 z
            cases L with
            | nil => exact z.elim
            | cons x L =>
              refine ⟨⟨z.1.1, z.1.2.1, z.1.2.2.1, z.1.2.2.2.1, fun q p hx => ?_⟩, ih L (fun y hy => h1 y (List.mem_cons_of_mem _ hy)) (fun y hy => h2 y (List.mem_cons_of_mem _ hy)) z.2⟩
              rw [e10']
              rcases gl q p hx with ⟨g1, g2⟩ | ⟨g1, g2⟩
              · rw [if_neg (by omega)]
                exact z.1.2.2.2.2 q p g2
              · rw [if_pos (by omega), g2]
                exact ⟨w, rfl, Nat.le_refl _, fun _ => h1 u List.mem_cons_self, fun _ => h2 x List.mem_cons_self⟩
        exact go _ _ (fun u hu => ownI_lt hu) nf o1
      · show p ≤ tN (D i) ∧ _
        rw [e10']
        rcases gl q p hx with ⟨g1, g2⟩ | ⟨g1, g2⟩
        · rw [if_neg (by omega)]
          exact o2 q p g2
        · rw [if_pos (by omega), g2]
          exact ⟨Nat.le_refl _, w, rfl, Nat.le_refl _⟩
      · show (tP (D i) ++ [tN (D i)]).length ≤ 10
        rw [List.length_append, List.length_singleton]
        omega
    · rw [ej j e]
      exact OwnR.mono ⟨o1, o2, o3⟩ (fun q hq => by rw [e10', if_neg (by omega)]) (f.bi (by decide)) (f.bi (by decide)) (f.bw (by decide)) (f.bi (by decide)) (fun u _ _ => by rw [f.bi (by decide)]) (Nat.le_refl _)
  · refine Caq.log q12 (h' := h2) (i := i) (y := (c0, (4, 0, 0, 0, 0, 0), none)) (p' := 0) rk (Nat.le_refl _) (Nat.le_refl _) hi hb (by rw [lr.2.1, if_pos rfl]) ?_ ?_ (fun j hj e => ?_) ?_
    · exact Or.inr (Or.inr (Or.inr (Or.inr (Or.inl ⟨rfl, by rw [lr.1, if_pos rfl], rfl⟩))))
    · rw [ei]
      refine Or.inl ⟨rfl, hp, ?_⟩
      show (tP (D i) ++ [tN (D i)]).length = _
      rw [List.length_append, List.length_singleton]
    · rw [ej j e]
      exact ⟨rfl, rfl⟩
    · rw [ei]
end OW3
