section OW4
variable {h h' : Hp} {M b c w l v k r clk : Nat} {G G' : Nat → Int32} {fv : Int64} {V : List Kv} {ts : List Nat} {D D' : Nat → TD} {ac cm : List Nat} {ct rs : Nat → Int32} {R : List (Int32 × Int64)}
theorem cpl_saveN (q : Cpl h M b c w l v k r clk G fv V ts D ac cm ct rs R) {i : Nat} (A' : Shf) (c0 : Nat) (hp : (tP (D i)).length = 10) (hG : G' 1209 = G 1209) : Cpl h M b c w l v k r clk G' fv V ts (ownD D i A' (tL (D i)) (tP (D i)) (tN (D i)) (tC (D i) ++ [(c0, (4, 0, 0, 0, 0, 0), none)])) ac cm ct rs R := by
  obtain ⟨q1, q2, q3, q4, q5, q6, q7, q8, q9, q10, q11, q12, q13, q14, q15, q16⟩ := q
  obtain ⟨D', eD⟩ : ∃ D', D' = ownD D i A' (tL (D i)) (tP (D i)) (tN (D i)) (tC (D i) ++ [(c0, (4, 0, 0, 0, 0, 0), none)]) := ⟨_, rfl⟩
  rw [← eD]
  have eF : ∀ j, (D' j).1 = (D j).1 ∧ tS (D' j) = tS (D j) := fun j => by rw [eD]; exact ownD_F i _ _ _ _ _ j
  have ei : D' i = ((D i).1, (D i).2.1, A', tL (D i), tP (D i), tN (D i), tS (D i), tC (D i) ++ [(c0, (4, 0, 0, 0, 0, 0), none)]) := by rw [eD]; exact ownD_i _ _ _ _ _ _ _
  have ej : ∀ j, j ≠ i → D' j = D j := fun j z => by rw [eD]; exact ownD_j D _ _ _ _ _ z
  have eO : ∀ j, tP (D' j) = tP (D j) ∧ tL (D' j) = tL (D j) ∧ tN (D' j) = tN (D j) := by
    intro j
    by_cases e : j = i
    · rw [e, ei]; exact ⟨rfl, rfl, rfl⟩
    · rw [ej j e]; exact ⟨rfl, rfl, rfl⟩
  refine ⟨q1, q2, q3, q4.upd (fun j _ => ⟨(eF j).1, by rw [(eO j).1]⟩), q5, q6, q7, q8.upd (fun j _ => by rw [(eF j).1]), fun j hj => ?_, q10.upd (fun j _ => (eF j).2), q11, ⟨fun j hj => ?_, q12.2⟩, q13, q14.upd hG, q15, q16.upd (fun j _ => by rw [(eF j).1])⟩
  · rw [(eO j).1, (eO j).2.1, (eO j).2.2]
    exact q9 j hj
  · rw [(eO j).1]
    by_cases e : j = i
    · rw [e, ei, hp]
      have := q12.1 i (by omega)
      rw [hp] at this
      exact CalQ.rfd this rfl rfl
    · rw [ej j e]
      exact q12.1 j hj
theorem cpl_undo (q : Cpl h M b c w l v k r clk G fv V ts D ac cm ct rs R) {i : Nat} (hi : i < b) (hk : k < 512) (A' : Shf) (c0 : Nat) {m p a : Nat} (m1 : 1 ≤ m) (hp : (tP (D i))[m - 1]? = some p) (ea : h.bi (M + 10) (10 * (i + 1) + m - 1) = nI a) (ha : a < 2147483648) {s : Hp} (us : UndR h M (i + 1) a w s) (hG : G' 1209 = G 1209) : Cpl (undH s M k (i + 1) m) M b c w l v (k + 1) r clk G' fv V ts (ownD D i A' (cutS (nI p) (tL (D i))) ((tP (D i)).take m) (tN (D i)) (tC (D i) ++ [(c0, (5, 0, 0, nI m, 0, 0), none)])) ac cm ct rs R := by
  obtain ⟨q1, q2, q3, q4, q5, q6, q7, q8, q9, q10, q11, q12, q13, q14, q15, q16⟩ := q
  have hb := q1.2.2.2.2.2.2.2.1
  have hw := q1.2.2.2.2.2.2.2.2.2.1
  have ml : m ≤ (tP (D i)).length := by
    rcases Nat.lt_or_ge (m - 1) (tP (D i)).length with z | z
    · omega
    · rw [List.getElem?_eq_none z] at hp; cases hp
  have f0 := us.1
  obtain ⟨s1, es⟩ : ∃ s1, s1 = s.sbi (M + 9) (i + 1) (nI m) := ⟨_, rfl⟩
  have f1 : RfO [9, 15] [] M h s1 := by rw [es]; exact (f0.mono (by decide) (fun _ z => z)).tr (RfO.sbi (k := 9) (by decide) _ _)
  have e9 : ∀ j, s1.bi (M + 9) j = if j = i + 1 then nI m else h.bi (M + 9) j := fun j => by rw [es, bi_at, f0.bi (by decide)]
  have e15 : ∀ j, (a ≤ j ∧ j < w ∧ h.bi (M + 11) j = nI (i + 1) → s1.bi (M + 15) j = 1) ∧ (¬ (a ≤ j ∧ j < w ∧ h.bi (M + 11) j = nI (i + 1)) → s1.bi (M + 15) j = h.bi (M + 15) j) := fun j => by rw [es, bi_oth (by omega)]; exact us.2 j
  have eh : undH s M k (i + 1) m = logH s1 M k 8 (nI (i + 1)) (nI m) := by unfold undH; rw [es]
  rw [eh]
  have fl := logH.ro (h := s1) (M := M) (k := k) (kind := 8) (t := nI (i + 1)) (key := nI m)
  have f : RfO [9, 15, 23, 24, 25] [1339] M h (logH s1 M k 8 (nI (i + 1)) (nI m)) := (f1.mono (by decide) (fun _ z => nomatch z)).tr (fl.mono (by decide) (fun _ z => z))
  have rk : RwK h (logH s1 M k 8 (nI (i + 1)) (nI m)) M k w r := RwK.log f1 (by decide)
  have n' := logH.rn (f1.rn q1 (fun _ _ z => nomatch z)) hk (kind := 8) (t := nI (i + 1)) (key := nI m)
  have lr := log_rows (h := s1) (M := M) (k := k) (kind := 8) (t := nI (i + 1)) (key := nI m) k
  have e9' : ∀ j, (logH s1 M k 8 (nI (i + 1)) (nI m)).bi (M + 9) j = if j = i + 1 then nI m else h.bi (M + 9) j := fun j => by rw [fl.bi (by decide)]; exact e9 j
  have e15' : ∀ j, (a ≤ j ∧ j < w ∧ h.bi (M + 11) j = nI (i + 1) → (logH s1 M k 8 (nI (i + 1)) (nI m)).bi (M + 15) j = 1) ∧ (¬ (a ≤ j ∧ j < w ∧ h.bi (M + 11) j = nI (i + 1)) → (logH s1 M k 8 (nI (i + 1)) (nI m)).bi (M + 15) j = h.bi (M + 15) j) := fun j => by rw [fl.bi (by decide)]; exact e15 j
  generalize logH s1 M k 8 (nI (i + 1)) (nI m) = h2 at f rk n' lr e9' e15' ⊢
  obtain ⟨D', eD⟩ : ∃ D', D' = ownD D i A' (cutS (nI p) (tL (D i))) ((tP (D i)).take m) (tN (D i)) (tC (D i) ++ [(c0, (5, 0, 0, nI m, 0, 0), none)]) := ⟨_, rfl⟩
  rw [← eD]
  have eF : ∀ j, (D' j).1 = (D j).1 ∧ tS (D' j) = tS (D j) := fun j => by rw [eD]; exact ownD_F i _ _ _ _ _ j
  have ei : D' i = ((D i).1, (D i).2.1, A', cutS (nI p) (tL (D i)), (tP (D i)).take m, tN (D i), tS (D i), tC (D i) ++ [(c0, (5, 0, 0, nI m, 0, 0), none)]) := by rw [eD]; exact ownD_i _ _ _ _ _ _ _
  have ej : ∀ j, j ≠ i → D' j = D j := fun j z => by rw [eD]; exact ownD_j D _ _ _ _ _ z
  have ptl : ((tP (D i)).take m).length = m := by rw [List.length_take]; omega
  refine ⟨n', q2, q3, fun j hj => ?_, Rng.ro f (by decide) q5, ?_, Lsq.ro f (by decide) q7, (Ouq.ro f (by decide) q8).upd (fun j _ => by rw [(eF j).1]), ?_, (Loq.ro f (by decide) q10).upd (fun j _ => (eF j).2), Veq.ro f (by decide) q11, ?_, Cnq.ro f (by decide) q13, (Whq.ro f (by decide) q14).upd hG, Roq.ro f (by decide) (by decide) q15, (Saq.ro f (by decide) (by decide) q16).upd (fun j _ => by rw [(eF j).1])⟩
  · obtain ⟨a1, a2, a3, a4, a5, a6, a7⟩ := q4 j hj
    rw [(eF j).1, f.bi (by decide), f.bi (by decide), f.bi (by decide), f.bi (by decide), f.bi (by decide), f.bi (by decide), e9']
    refine ⟨a1, a2, a3, a4, a5, a6, ?_⟩
    by_cases e : j = i
    · rw [e, if_pos rfl, ei]
      show _ = nI ((tP (D i)).take m).length
      rw [ptl]
    · rw [if_neg (by omega), ej j e]
      exact a7
  · refine ⟨fun t t1 t2 => ?_, fun j h1 h2 => ?_, fun j hj => ?_, fun j h1 h2 => by rw [f.bi (by decide)]; exact q6.2.2.2.1 j (by omega) h2, fun j hj => by rw [f.bi (by decide)]; exact q6.2.2.2.2 j hj⟩
    · rw [f.bi (by decide), f.bi (by decide), f.bi (by decide), e9', if_neg (by omega)]
      exact q6.1 t t1 t2
    · rw [(e15' j).2 (fun u => by omega)]
      exact q6.2.1 j h1 h2
    · by_cases z : a ≤ j ∧ j < w ∧ h.bi (M + 11) j = nI (i + 1)
      · exact Or.inr ((e15' j).1 z)
      · rw [(e15' j).2 z]
        exact q6.2.2.1 j hj
  · intro j hj
    obtain ⟨o1, o2, o3⟩ := q9 j hj
    by_cases e : j = i
    · rw [e, ei]
      rw [e] at o1 o2 o3
      have tk : ∀ (q p' : Nat), ((tP (D i)).take m)[q]? = some p' → (tP (D i))[q]? = some p' := by
        intro q p' hx
        have il : q < ((tP (D i)).take m).length := by
          rcases Nat.lt_or_ge q ((tP (D i)).take m).length with z | z
          · exact z
          · rw [List.getElem?_eq_none z] at hx; cases hx
        rw [ptl] at il
        rw [List.getElem?_take_of_lt il] at hx
        exact hx
      have oc : ownI h2 M w (i + 1) = (ownI h M w (i + 1)).filter (fun j => decide (j < a)) := by
        unfold ownI
        rw [List.filter_filter]
        refine List.filter_congr (fun j hj => ?_)
        have jw := List.mem_range.mp hj
        rw [f.bi (show 11 ∉ _ by decide)]
        by_cases z : h.bi (M + 11) j = nI (i + 1)
        · by_cases z2 : j < a
          · rw [(e15' j).2 (fun u => by omega), decide_eq_true z2, Bool.true_and]
          · rw [(e15' j).1 ⟨by omega, jw, z⟩, decide_eq_false z2, Bool.false_and, decide_eq_false (fun u => absurd u.2 (by decide))]
        · rw [decide_eq_false (show ¬ (h.bi (M + 11) j = nI (i + 1) ∧ h2.bi (M + 15) j = 0) from fun u => z u.1), decide_eq_false (show ¬ (h.bi (M + 11) j = nI (i + 1) ∧ h.bi (M + 15) j = 0) from fun u => z u.1), Bool.and_false]
      refine ⟨?_, fun q p' hx => ?_, ?_⟩
      · rw [oc, f.bi (by decide), f.bi (by decide), f.bw (by decide), f.bi (by decide)]
        have g := F2.filter (p := fun x => !decide (nI p < x.2.1)) (q := fun j => decide (j < a)) (fun x j r => by
          obtain ⟨a', b1, b2, b3⟩ := r.2.2.2.2 (m - 1) p hp
          have aa : a' = a := by
            rw [show 10 * (i + 1) + (m - 1) = 10 * (i + 1) + m - 1 by omega, ea] at b1
            exact (ni_inj (by omega) (by omega)).mp b1.symm
          rw [aa] at b3
          by_cases z : j < a
          · have := b3.mpr z
            rw [decide_eq_true z, decide_eq_false (by rw [Int32.lt_iff_toInt_lt]; rw [Int32.le_iff_toInt_le] at this; omega)]
            rfl
          · have : ¬ x.2.1 ≤ nI p := fun u => z (b3.mp u)
            rw [decide_eq_false z, decide_eq_true (by rw [Int32.lt_iff_toInt_lt]; rw [Int32.le_iff_toInt_le] at this; omega)]
            rfl) o1
        refine F2.mono (fun x j r => ⟨r.1, r.2.1, r.2.2.1, r.2.2.2.1, fun q p' hx => r.2.2.2.2 q p' (tk q p' hx)⟩) g
      · rw [f.bi (by decide)]
        exact o2 q p' (tk q p' hx)
      · show ((tP (D i)).take m).length ≤ 10
        omega
    · rw [ej j e]
      exact OwnR.mono ⟨o1, o2, o3⟩ (fun q hq => by rw [f.bi (by decide)]) (f.bi (by decide)) (f.bi (by decide)) (f.bw (by decide)) (f.bi (by decide)) (fun u _ z => (e15' u).2 (fun y => e (by have := (ni_inj (by omega) (by omega)).mp (z.symm.trans y.2.2); omega))) (Nat.le_refl _)
  · refine Caq.log q12 (h' := h2) (i := i) (y := (c0, (5, 0, 0, nI m, 0, 0), none)) (p' := 0) rk (Nat.le_refl _) (Nat.le_refl _) hi hb (by rw [lr.2.1, if_pos rfl]) ?_ ?_ (fun j hj e => ?_) ?_
    · exact Or.inr (Or.inr (Or.inr (Or.inr (Or.inr ⟨rfl, by rw [lr.1, if_pos rfl], by rw [lr.2.2, if_pos rfl], rfl⟩))))
    · rw [ei]
      exact Or.inr (Or.inl ⟨rfl, m, rfl, m1, ml, ptl⟩)
    · rw [ej j e]
      exact ⟨rfl, rfl⟩
    · rw [ei]
theorem cpl_tk (q : Cpl h M b c w l v k r clk G fv V ts D ac cm ct rs R) (x : Int32) : Cpl (tk h M x) M b c w l v k r (clk + 1) G fv V ts D ac cm ct rs R := by
  obtain ⟨q1, q2, q3, q4, q5, q6, q7, q8, q9, q10, q11, q12, q13, q14, q15, q16⟩ := q
  have f := tk.ro (h := h) (M := M) (x := x)
  refine ⟨f.rn q1 (by decide), q2, q3, q4, q5, q6, q7, q8, q9, q10, q11, q12, q13, Whq.ro f (by decide) q14, Roq.ro f (by decide) (by decide) q15, ?_, fun t t1 t2 => ?_, q16.2.2⟩
  · rw [tk.clock, q16.1, ni_inc]
  · obtain ⟨⟨y, y1, y2⟩, y3⟩ := q16.2.1 t t1 t2
    refine ⟨⟨y, y1, by omega⟩, fun z => ?_⟩
    obtain ⟨y', y4, y5⟩ := y3 z
    exact ⟨y', y4, by omega⟩
end OW4
