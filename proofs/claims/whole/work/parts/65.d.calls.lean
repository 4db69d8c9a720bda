section OPS3
variable {g' : Nat → Nat} {h hL hK hR h' : Hp} {p : Nat → Nat} {M b c w l v k r clk nr : Nat} {G G' : Nat → Int32} {fv : Int64} {lr : Option Nat} {B : Shf} {V : List Kv} {ts : List Nat} {D D' : Nat → TD} {ac cm ot : List Nat} {ct rs : Nat → Int32} {R : List (Int32 × Int64)} {cO c' i j c0 : Nat}
/-- a call that looks at nothing -/
theorem car_none {d : Clq} {e : AnD} {vv : Int32} {A' : Shf} {L' : List Kv} {P' : List Nat} {n' : Nat} (hd : d.1 = 3 ∨ d.1 = 4 ∨ d.1 = 5) (e4 : e.2.2.2 = none) (e2 : e.2.1 = none) (car : CarR g' hK p G fv lr B V ts (vwD D i A' L' P' n') ac cm ot ct rs R cO c' i j c0 d e vv) : vv = e.1 ∧ Kr g' hK p G fv lr B V ts (ownD D i A' L' P' n' (tC (D i) ++ [(c0, d, none)])) ac cm ot ct rs e R c' := by
  rcases car with ⟨_, lo', hh', kk, b0, e1, _⟩ | ⟨v1, D2, ot', lk, zz⟩
  · rw [e4] at e1; cases e1
  · rcases lk with ⟨_, y2, y3, y4⟩ | ⟨lo', hh', e1, _⟩
    · rcases zz with ⟨_, kr⟩ | ⟨d3, _⟩
      · refine ⟨v1, ?_⟩
        rw [e2, y2, y3] at kr
        have kc : (vwD D i A' L' P' n' i).2.2.2.2.2.2.2 = tC (D i) := by
          unfold vwD
          rw [va_up_self]
        rw [kc, ownD_eq] at kr
        exact kr
      · exfalso
        rcases hd with z | z | z <;> rw [z] at d3 <;> rcases d3 with y | y | y <;> exact absurd y (by decide)
    · rw [e4] at e1; cases e1
theorem own_at {A' : Shf} {L' : List Kv} {P' : List Nat} {n' : Nat} {cs : List (Nat × Ck)} : tL (ownD D i A' L' P' n' cs i) = L' ∧ tP (ownD D i A' L' P' n' cs i) = P' ∧ tN (ownD D i A' L' P' n' cs i) = n' ∧ tS (ownD D i A' L' P' n' cs i) = tS (D i) ∧ tC (ownD D i A' L' P' n' cs i) = cs := by
  unfold ownD
  rw [va_up_self]
  exact ⟨rfl, rfl, rfl, rfl, rfl⟩
theorem own_oth {A' : Shf} {L' : List Kv} {P' : List Nat} {n' u : Nat} {cs : List (Nat × Ck)} (e : u ≠ i) : ownD D i A' L' P' n' cs u = D u := by
  unfold ownD
  rw [va_up_ne _ _ e]
theorem out_o {d : Clq} {e : AnD} {A' : Shf} {L' : List Kv} {P' : List Nat} {n' w' k' : Nat} (kr : Kr g' hK p (va_up G 1208 (nI (nr + 1))) fv lr B V ts (ownD D i A' L' P' n' (tC (D i) ++ [(c0, d, none)])) ac cm ot ct rs e R c') (q : Cpl hR M b c w' l v k' r clk (va_up G 1208 (nI (nr + 1))) fv V ts (ownD D i A' L' P' n' (tC (D i) ++ [(c0, d, none)])) ac cm ct rs R) (f : RfO cA cG M h hR) (hw : w ≤ w' ∧ w' ≤ w + (if d.1 = 3 then 1 else 0)) (hk : k' ≤ k + 1) (hot : ∀ u ∈ ot, u < ts.length) (sl : (L', P', n') = stepL ((D i).1 1000) (tL (D i), tP (D i), tN (D i)) d) : Out g' h hK hR p M b c w l v k r clk nr G B V ts D ac cm c' i j d := by
  have oa := own_at (D := D) (i := i) (A' := A') (L' := L') (P' := P') (n' := n') (cs := tC (D i) ++ [(c0, d, none)])
  refine ⟨_, _, _, _, _, _, _, _, _, _, w', l, k', r, kr, q, f, ⟨va_up_self _ _ _, va_up_ne _ _ (by decide), va_up_ne _ _ (by decide)⟩, Or.inl rfl, ⟨hw.1, hw.2, Nat.le_add_right _ _, hk, Nat.le_add_right _ _⟩, hot, fun u hu => by rw [own_oth hu], by rw [oa.2.2.2.1]; exact Nat.le_add_right _ _, Or.inr ⟨c0, none, ?_, oa.2.2.2.2⟩⟩
  rw [oa.1, oa.2.1, oa.2.2.1]
  exact sl
theorem op_write {key vv is : Int32} {xv : Int64} {e : AnD} {A' : Shf} {L' : List Kv} {P' : List Nat} {n' : Nat} (his : is = 0 ∨ is = 1) (q : Cpl h M b c w l v k r clk G fv V ts D ac cm ct rs R) (hw : w < 512) (hk : k < 512) (hi : i < b) (hn : tN (D i) < 90000) (hot : ∀ u ∈ ot, u < ts.length) (cr : CallR (tL (D i)) V ((D i).1 1001) ((D i).1 1000) (tP (D i)) (tN (D i)) (3, key, 0, 0, is, xv) L' P' n' e) (car : CarR g' hK p (va_up G 1208 (nI (nr + 1))) fv lr B V ts (vwD D i A' L' P' n') ac cm ot ct rs R cO c' i j c0 (3, key, 0, 0, is, xv) e vv) : vv = nI (cntQ (lstW (wr2H h M w k (nI (i + 1)) key xv is) M (w + 1) (i + 1)) (w + 1)) ∧ Out g' h hK (wr2H h M w k (nI (i + 1)) key xv is) p M b c w l v k r clk nr G B V ts D ac cm c' i j (3, key, 0, 0, is, xv) := by
  have ow := q.2.2.2.2.2.2.2.2.1 i hi
  have sl := callR_step cr ow.2.2
  rcases cr with ⟨z, -⟩ | ⟨z, -⟩ | ⟨z, -⟩ | ⟨-, h1, h2, h3, ee⟩ | ⟨z, -⟩ | ⟨z, -⟩
  case inl | inr.inl | inr.inr.inl | inr.inr.inr.inr.inl | inr.inr.inr.inr.inr => all_goals exact absurd z (by show ¬ ((3 : Int32) = _); decide)
  obtain ⟨v1, kr⟩ := car_none (Or.inl rfl) (by rw [ee]) (by rw [ee]) car
  have h1 : L' = tL (D i) ++ [(key, nI (tN (D i) + 1), (D i).1 1000, is, xv)] := h1
  have q2 := cpl_write (G' := va_up G 1208 (nI (nr + 1))) q hi hw hk key xv his A' c0 hn (va_up_ne _ _ (by decide))
  rw [← h1, ← h2, ← h3] at q2
  have nk := nk_own q2.1.2.2.2.2.2.2.2.2.2.1 (q2.2.2.2.2.2.2.2.2.1 i hi)
  rw [own_at.1] at nk
  refine ⟨?_, out_o kr q2 (wr2H.ro.mono (by decide) (by decide)) ⟨Nat.le_add_right _ _, Nat.le_refl _⟩ (Nat.le_refl _) hot sl⟩
  rw [v1, ee, nk]
theorem op_save {vv : Int32} {e : AnD} {A' : Shf} {L' : List Kv} {P' : List Nat} {n' : Nat} (q : Cpl h M b c w l v k r clk G fv V ts D ac cm ct rs R) (hk : k < 512) (hi : i < b) (hn : tN (D i) < 90000) (sb : StB (tL (D i)) (tN (D i))) (hot : ∀ u ∈ ot, u < ts.length) (cr : CallR (tL (D i)) V ((D i).1 1001) ((D i).1 1000) (tP (D i)) (tN (D i)) (4, 0, 0, 0, 0, 0) L' P' n' e) (car : CarR g' hK p (va_up G 1208 (nI (nr + 1))) fv lr B V ts (vwD D i A' L' P' n') ac cm ot ct rs R cO c' i j c0 (4, 0, 0, 0, 0, 0) e vv) : ((tP (D i)).length < 10 ∧ vv = nI ((tP (D i)).length + 1) ∧ Out g' h hK (savH h M w k (i + 1) (tP (D i)).length) p M b c w l v k r clk nr G B V ts D ac cm c' i j (4, 0, 0, 0, 0, 0)) ∨ ((tP (D i)).length = 10 ∧ vv = -1 ∧ Out g' h hK h p M b c w l v k r clk nr G B V ts D ac cm c' i j (4, 0, 0, 0, 0, 0)) := by
  have ow := q.2.2.2.2.2.2.2.2.1 i hi
  have sl := callR_step cr ow.2.2
  rcases cr with ⟨z, -⟩ | ⟨z, -⟩ | ⟨z, -⟩ | ⟨z, -⟩ | ⟨-, h1, h3, h2, ee⟩ | ⟨z, -⟩
  case inl | inr.inl | inr.inr.inl | inr.inr.inr.inl | inr.inr.inr.inr.inr => all_goals exact absurd z (by show ¬ ((4 : Int32) = _); decide)
  by_cases hp : (tP (D i)).length < 10
  · rw [if_pos hp] at h2 ee
    obtain ⟨v1, kr⟩ := car_none (Or.inr (Or.inl rfl)) (by rw [ee]) (by rw [ee]) car
    have q2 := cpl_save (G' := va_up G 1208 (nI (nr + 1))) q hi hk A' c0 hp sb hn (va_up_ne _ _ (by decide))
    rw [h1, h2, h3] at kr sl
    exact Or.inl ⟨hp, by rw [v1, ee], out_o kr q2 (savH.ro.mono (by decide) (by decide)) ⟨Nat.le_refl _, Nat.le_add_right _ _⟩ (Nat.le_refl _) hot sl⟩
  · have hp2 : (tP (D i)).length = 10 := by have := ow.2.2; omega
    rw [if_neg hp] at h2 ee
    obtain ⟨v1, kr⟩ := car_none (Or.inr (Or.inl rfl)) (by rw [ee]) (by rw [ee]) car
    have q2 := cpl_saveN (G' := va_up G 1208 (nI (nr + 1))) q A' c0 hp2 (va_up_ne _ _ (by decide))
    rw [h1, h2, h3] at kr sl
    exact Or.inr ⟨hp2, by rw [v1, ee], out_o kr q2 (RfO.rf _ _ _ _) ⟨Nat.le_refl _, Nat.le_add_right _ _⟩ (Nat.le_add_right _ _) hot sl⟩
theorem op_undo {vv : Int32} {m a : Nat} {e : AnD} {s : Hp} {A' : Shf} {L' : List Kv} {P' : List Nat} {n' : Nat} (q : Cpl h M b c w l v k r clk G fv V ts D ac cm ct rs R) (hk : k < 512) (hi : i < b) (hot : ∀ u ∈ ot, u < ts.length) (m1 : 1 ≤ m) (m2 : m ≤ 10) (ea : h.bi (M + 10) (10 * (i + 1) + m - 1) = nI a) (ha : a < 2147483648) (us : UndR h M (i + 1) a w s) (cr : CallR (tL (D i)) V ((D i).1 1001) ((D i).1 1000) (tP (D i)) (tN (D i)) (5, 0, 0, nI m, 0, 0) L' P' n' e) (car : CarR g' hK p (va_up G 1208 (nI (nr + 1))) fv lr B V ts (vwD D i A' L' P' n') ac cm ot ct rs R cO c' i j c0 (5, 0, 0, nI m, 0, 0) e vv) : vv = nI (cntQ (lstW (undH s M k (i + 1) m) M w (i + 1)) w) ∧ Out g' h hK (undH s M k (i + 1) m) p M b c w l v k r clk nr G B V ts D ac cm c' i j (5, 0, 0, nI m, 0, 0) := by
  have ow := q.2.2.2.2.2.2.2.2.1 i hi
  have sl := callR_step cr ow.2.2
  rcases cr with ⟨z, -⟩ | ⟨z, -⟩ | ⟨z, -⟩ | ⟨z, -⟩ | ⟨z, -⟩ | ⟨-, h3, mm, s0, mm1, mm2, ps, h1, h2, ee⟩
  case inl | inr.inl | inr.inr.inl | inr.inr.inr.inl | inr.inr.inr.inr.inl => all_goals exact absurd z (by show ¬ ((5 : Int32) = _); decide)
  have pl := (List.getElem?_eq_some_iff.mp ps).1
  have ow3 : (tP (D i)).length ≤ 10 := ow.2.2
  have e5 : m = mm := (ni_inj (by omega) (by omega)).mp mm1
  rw [← e5] at ps h2
  obtain ⟨v1, kr⟩ := car_none (Or.inr (Or.inr rfl)) (by rw [ee]) (by rw [ee]) car
  have q2 := cpl_undo (G' := va_up G 1208 (nI (nr + 1))) q hi hk A' c0 m1 ps ea ha us (va_up_ne _ _ (by decide))
  rw [← h1, ← h2, ← h3] at q2
  have nk := nk_own q2.1.2.2.2.2.2.2.2.2.2.1 (q2.2.2.2.2.2.2.2.2.1 i hi)
  rw [own_at.1] at nk
  refine ⟨?_, out_o kr q2 ((us.1.mono (by decide) (fun _ z => nomatch z)).tr (undH.ro.mono (by decide) (by decide))) ⟨Nat.le_refl _, Nat.le_add_right _ _⟩ (Nat.le_refl _) hot sl⟩
  rw [v1, ee, nk]
end OPS3
