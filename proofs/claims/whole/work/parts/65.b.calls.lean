/-! calls that look: read, near, scan -/
section OPS
variable {g' : Nat → Nat} {h hL hK hR h' : Hp} {p : Nat → Nat} {M b c w l v k r clk nr : Nat} {G G' : Nat → Int32} {fv : Int64} {lr : Option Nat} {B : Shf} {V : List Kv} {ts : List Nat} {D D' : Nat → TD} {ac cm ot : List Nat} {ct rs : Nat → Int32} {R : List (Int32 × Int64)} {cO c' i j c0 : Nat}
theorem loo_ro1 {t : Nat} {a z x : Int32} (lo : LooR h M b l v t a z h' x) : RfO [1, 6, 7, 8, 16, 17, 18] [1323, 1347, 1348, 1349, 1350] M h h' := by
  rcases lo with ⟨_, i, u, h1, _, _, _, dg, jd⟩ | ⟨_, _, pr⟩
  · obtain ⟨o, x, _, _, o3⟩ := dg
    have f4 : RfO [1, 6, 7, 8, 16, 17, 18] [1323, 1347, 1348, 1349, 1350] M h h1 := by
      rw [o3]
      exact rsnH.ro.mono (fun _ z => nomatch z) (by decide)
    exact ((f4.tr (RfO.sbi (k := 1) (by decide) _ _)).tr (RfO.sbi (k := 6) (by decide) _ _)).tr (jd.1.mono (by decide) (fun _ z => nomatch z))
  · exact (lokH.ro.mono (by decide) (by decide)).tr (pr.1.mono (by decide) (fun _ z => nomatch z))
theorem mt_G (e : AnD) (G : Nat → Int32) (f : Nat) (hf : f ≠ 1209) : (match e.2.1 with | none => G | some y => va_up G 1209 y.1) f = G f := by
  cases e.2.1 with
  | none => rfl
  | some y => exact va_up_ne _ _ hf
/-- refused -/
theorem out_r {d : Clq} {e : AnD} {D' : Nat → TD} {ot' : List Nat} {ct' rs' : Nat → Int32} (kr : Kr g' hK p (va_up G 1208 (nI (nr + 1))) fv lr B V ts D' (ac.eraseIdx j) cm ot' ct' rs' e R c') (q : Cpl hR M b c w l v k r clk (va_up G 1208 (nI (nr + 1))) fv V ts D' (ac.eraseIdx j) cm ct' rs' R) (f : RfO cA cG M h hR) (h1 : ∀ u ∈ ot', u < ts.length) (h2 : ∀ u, u ≠ i → (D' u).2 = (D u).2) (h3 : tS (D' i) = tS (D i)) (h4 : tL (D' i) = tL (D i) ∧ tP (D' i) = tP (D i) ∧ tN (D' i) = tN (D i) ∧ tC (D' i) = tC (D i)) : Out g' h hK hR p M b c w l v k r clk nr G B V ts D ac cm c' i j d :=
  ⟨_, _, _, _, _, _, _, _, _, _, w, l, k, r, kr, q, f, ⟨va_up_self _ _ _, va_up_ne _ _ (by decide), va_up_ne _ _ (by decide)⟩, Or.inr rfl, ⟨Nat.le_refl _, Nat.le_add_right _ _, Nat.le_add_right _ _, Nat.le_add_right _ _, Nat.le_add_right _ _⟩, h1, h2, by rw [h3]; exact Nat.le_add_right _ _, Or.inl h4⟩
/-- kept -/
theorem out_k {d : Clq} {e : AnD} {D2 : Nat → TD} {ot' : List Nat} {ct' rs' : Nat → Int32} {lr2 : Option Nat} {fv2 : Int64} {R2 : List (Int32 × Int64)} {l' k' r' : Nat} (hd : d.1 = 0 ∨ d.1 = 1 ∨ d.1 = 2) (kr : Kr g' hK p (match e.2.1 with | none => va_up G 1208 (nI (nr + 1)) | some y => va_up (va_up G 1208 (nI (nr + 1))) 1209 y.1) fv2 lr2 B V ts (clD D2 i (tC (D i) ++ [(c0, d, some e)])) ac cm ot' ct' rs' e R2 c') (q : Cpl hR M b c w l' v k' r' clk (match e.2.1 with | none => va_up G 1208 (nI (nr + 1)) | some y => va_up (va_up G 1208 (nI (nr + 1))) 1209 y.1) fv2 V ts (clD D2 i (tC (D i) ++ [(c0, d, some e)])) ac cm ct' rs' R2) (f : RfO cA cG M h hR) (bd : l' ≤ l + 1 ∧ k' ≤ k + 1 ∧ r' ≤ r + (if d.1 = 2 then min w 100 else 0)) (h1 : ∀ u ∈ ot', u < ts.length) (h2 : ∀ u, u ≠ i → (D2 u).2 = (D u).2) (h3 : (tS (D2 i)).length ≤ (tS (D i)).length + 1) (h4 : tL (D2 i) = tL (D i) ∧ tP (D2 i) = tP (D i) ∧ tN (D2 i) = tN (D i)) : Out g' h hK hR p M b c w l v k r clk nr G B V ts D ac cm c' i j d := by
  have ca := cl_at (D := D2) (i := i) (cs := tC (D i) ++ [(c0, d, some e)])
  have co : ∀ u, u ≠ i → (clD D2 i (tC (D i) ++ [(c0, d, some e)]) u).2 = (D u).2 := fun u hu => by rw [cl_oth hu]; exact h2 u hu
  refine ⟨_, _, _, _, _, _, _, _, _, _, w, l', k', r', kr, q, f, ⟨?_, ?_, ?_⟩, Or.inl rfl, ⟨Nat.le_refl _, Nat.le_add_right _ _, bd.1, bd.2.1, bd.2.2⟩, h1, co, by rw [ca.2.2.2.1]; exact h3, Or.inr ⟨c0, some e, ?_, ca.2.2.2.2⟩⟩
  · rw [mt_G e _ 1208 (by decide)]; exact va_up_self _ _ _
  · rw [mt_G e _ 1212 (by decide)]; exact va_up_ne _ _ (by decide)
  · rw [mt_G e _ 1213 (by decide)]; exact va_up_ne _ _ (by decide)
  · rw [ca.1, ca.2.1, ca.2.2.1, h4.1, h4.2.1, h4.2.2]
    unfold stepL
    rcases hd with z | z | z <;> rw [z, if_neg (by decide), if_neg (by decide), if_neg (by decide)]
theorem own_no {t n : Nat} {L : List Kv} {P : List Nat} {key : Int32} (hw : w ≤ 512) (ow : OwnR h M w t L P n) : chn L key ≠ [] ↔ ∃ j, j < w ∧ ownC h M t key j := by
  rcases own_last t key w L (F2.mono (fun a b z => ⟨z.1, z.2.2.1, z.2.2.2.1⟩) ow.1) with ⟨e, s⟩ | ⟨e, L', j, e1, e2, e3, _⟩
  · refine ⟨fun z => absurd e z, fun ⟨j, j1, j2⟩ => ?_⟩
    rcases s with ⟨_, s⟩ | ⟨i, i1, i2, _⟩
    · exact absurd j2 (s j j1)
    · exact absurd i2.symm (ni_m1 (by omega))
  · refine ⟨fun _ => ?_, fun _ => by rw [e1]; exact List.cons_ne_nil _ _⟩
    rcases e3 with ⟨s, _⟩ | ⟨i, i1, _, i3, _⟩
    · exact absurd s (ni_m1 (by omega))
    · exact ⟨i, i1, i3⟩
theorem op_read {key x vv : Int32} {e : AnD} {A' : Shf} {L' : List Kv} {P' : List Nat} {n' : Nat} (q : Cpl h M b c w l v k r clk G fv V ts D ac cm ct rs R) (pu : Pu B V ts D) (hl : l < 512) (hk : k < 512) (hi : i < b) (ai : h.bi (M + 1) (i + 1) = 1) (hj : ac[j]? = some i) (nd : ac.Nodup) (hot : ∀ u ∈ ot, u < ts.length) (cr : CallR (tL (D i)) V ((D i).1 1001) ((D i).1 1000) (tP (D i)) (tN (D i)) (0, key, 0, 0, 0, 0) L' P' n' e) (car : CarR g' hK p (va_up G 1208 (nI (nr + 1))) fv lr B V ts (vwD D i A' L' P' n') ac cm ot ct rs R cO c' i j c0 (0, key, 0, 0, 0, 0) e vv) (rea : ReaR h M b w l v k (i + 1) key h' x) : vv = x ∧ Out g' h hK h' p M b c w l v k r clk nr G B V ts D ac cm c' i j (0, key, 0, 0, 0, 0) := by
  rcases cr with ⟨-, h1, h2, h3, ee⟩ | ⟨z, -⟩ | ⟨z, -⟩ | ⟨z, -⟩ | ⟨z, -⟩ | ⟨z, -⟩
  case inr.inl | inr.inr.inl | inr.inr.inr.inl | inr.inr.inr.inr.inl | inr.inr.inr.inr.inr => all_goals exact absurd z (by show ¬ ((0 : Int32) = _); decide)
  rw [h1, h2, h3] at car
  have q1 := cpl_G (G' := va_up G 1208 (nI (nr + 1))) q (va_up_ne _ _ (by decide))
  have ow := q.2.2.2.2.2.2.2.2.1 i hi
  have st : (D i).1 1001 = h.bi (M + 3) (i + 1) := (q.2.2.2.1 i hi).2.1
  have oo := own_no (key := key) q.1.2.2.2.2.2.2.2.2.2.1 ow
  rw [st] at ee
  have er : e.1 = (if visL (tL (D i)) V (h.bi (M + 3) (i + 1)) key = none then 0 else 1) ∧ e.2.1 = (visL (tL (D i)) V (h.bi (M + 3) (i + 1)) key).map (fun x => (key, x)) ∧ e.2.2.1 = [] := by
    rw [ee]; exact ⟨rfl, rfl, rfl⟩
  rcases rea with ⟨own, rd⟩ | ⟨own, rd⟩
  · have en : e.2.2.2 = none := by
      rw [ee]
      show (if decide (chn (tL (D i)) key ≠ []) then none else some (key, key)) = none
      rw [if_pos (decide_eq_true (oo.mpr own))]
    rcases car with ⟨_, lo', hh', kk, b0, e1, _⟩ | ⟨v1, D2, ot', lk, zz⟩
    · rw [en] at e1; cases e1
    · rcases lk with ⟨_, e2, e3, e4⟩ | ⟨lo', hh', e1, _⟩
      · rcases zz with ⟨d3, _⟩ | ⟨_, a, kr⟩
        · exfalso
          rcases d3 with y | y | y <;> exact absurd y (by show ¬ ((0 : Int32) = _); decide)
        · have vs := vw_same (D := D) (i := i) A'
          have kc : (vwD D i A' (tL (D i)) (tP (D i)) (tN (D i)) i).2.2.2.2.2.2.2 = tC (D i) := (vs i).2.2.2.2.2
          rw [kc, e2] at kr
          have q2 := cpl_D (D' := vwD D i A' (tL (D i)) (tP (D i)) (tN (D i))) q1 (fun u _ => vs u)
          obtain ⟨x1, f, q3⟩ := cpl_read (c0 := c0) q2 hi hk (by rw [(vs i).2.1]; exact er) rd
          have kc' : tC (vwD D i A' (tL (D i)) (tP (D i)) (tN (D i)) i) = tC (D i) := kc
          rw [kc'] at q3
          refine ⟨v1.trans x1.symm, out_k (l' := l) (k' := k + 1) (r' := r) (Or.inl rfl) kr q3 (f.mono (by decide) (by decide)) ⟨by omega, Nat.le_refl _, Nat.le_add_right _ _⟩ (by rw [e3]; exact hot) (fun u hu => by rw [vw_oth hu]) (by rw [(vs i).2.2.2.2.1]; exact Nat.le_add_right _ _) ⟨(vs i).2.1, (vs i).2.2.1, (vs i).2.2.2.1⟩⟩
      · rw [en] at e1; cases e1
  · have en : e.2.2.2 = some (key, key) := by
      rw [ee]
      show (if decide (chn (tL (D i)) key ≠ []) then none else some (key, key)) = _
      rw [if_neg (by rw [decide_eq_true_iff]; exact fun z => own (oo.mp z))]
    rcases rd with ⟨lo, x1⟩ | ⟨h3, lo, rd⟩
    · rcases car_look q1 pu hl hi ai hj nd (Or.inl rfl) en (Int.le_refl _) car lo with ⟨_, y2, D3, ot', ct', rs', kr, q2, y3, y4, y5, y6⟩ | ⟨y1, _⟩
      · exact ⟨y2.trans x1.symm, out_r kr q2 (loo_ro lo) y3 y4 y5 y6⟩
      · exact absurd y1 (by decide)
    · rcases car_look q1 pu hl hi ai hj nd (Or.inl rfl) en (Int.le_refl _) car lo with ⟨y1, _⟩ | ⟨_, y2, D2, ot', a, kr, q2, y3, y4, y5, y6, y7, y8, y9, y10⟩
      · exact absurd y1 (by decide)
      · obtain ⟨x1, f, q3⟩ := cpl_read (c0 := c0) q2 hi hk (by rw [y6, ← congrFun y10 (i + 1)]; exact er) rd
        rw [y9] at q3
        exact ⟨y2.trans x1.symm, out_k (l' := l + 1) (k' := k + 1) (r' := r) (Or.inl rfl) kr q3 ((loo_ro lo).tr (f.mono (by decide) (by decide))) ⟨Nat.le_refl _, Nat.le_refl _, Nat.le_add_right _ _⟩ y3 y4 y5 ⟨y6, y7, y8⟩⟩
end OPS
