/-! a call, on both sides: what is left -/
abbrev cA : List Nat := [1, 6, 7, 8, 9, 10, 11, 12, 13, 14, 15, 16, 17, 18, 23, 24, 25, 26, 27, 28, 29, 30, 31, 32, 33, 34, 35]
abbrev cG : List Nat := [1319, 1323, 1339, 1342, 1343, 1344, 1345, 1346, 1347, 1348, 1349, 1350, 1351, 1353]
/-- what a call of i leaves -/
def Out (g' : Nat → Nat) (h hK hR : Hp) (p : Nat → Nat) (M b c w l v k r clk nr : Nat) (G : Nat → Int32) (B : Shf) (V : List Kv) (ts : List Nat) (D : Nat → TD) (ac cm : List Nat) (c' i j : Nat) (d : Clq) : Prop :=
  ∃ G' fv' lr' D' ac' ot' ct' rs' d0' R' w' l' k' r', Kr g' hK p G' fv' lr' B V ts D' ac' cm ot' ct' rs' d0' R' c' ∧ Cpl hR M b c w' l' v k' r' clk G' fv' V ts D' ac' cm ct' rs' R' ∧ RfO cA cG M h hR ∧ (G' 1208 = nI (nr + 1) ∧ G' 1212 = G 1212 ∧ G' 1213 = G 1213) ∧ (ac' = ac ∨ ac' = ac.eraseIdx j) ∧ (w ≤ w' ∧ w' ≤ w + (if d.1 = 3 then 1 else 0) ∧ l' ≤ l + 1 ∧ k' ≤ k + 1 ∧ r' ≤ r + (if d.1 = 2 then min w 100 else 0)) ∧ (∀ u ∈ ot', u < ts.length) ∧ (∀ u, u ≠ i → (D' u).2 = (D u).2) ∧ (tS (D' i)).length ≤ (tS (D i)).length + 1 ∧ ((tL (D' i) = tL (D i) ∧ tP (D' i) = tP (D i) ∧ tN (D' i) = tN (D i) ∧ tC (D' i) = tC (D i)) ∨ ∃ c0 a, (tL (D' i), tP (D' i), tN (D' i)) = stepL ((D i).1 1000) (tL (D i), tP (D i), tN (D i)) d ∧ tC (D' i) = tC (D i) ++ [(c0, d, a)])
section OUT
variable {g' : Nat → Nat} {h hL hK hR h' : Hp} {p : Nat → Nat} {M b c w l v k r clk nr : Nat} {G G' : Nat → Int32} {fv : Int64} {lr : Option Nat} {B : Shf} {V : List Kv} {ts : List Nat} {D D' : Nat → TD} {ac cm ot : List Nat} {ct rs : Nat → Int32} {R : List (Int32 × Int64)} {cO c' i j c0 : Nat}
theorem cpl_G (q : Cpl h M b c w l v k r clk G fv V ts D ac cm ct rs R) (e : G' 1209 = G 1209) : Cpl h M b c w l v k r clk G' fv V ts D ac cm ct rs R := by
  obtain ⟨q1, q2, q3, q4, q5, q6, q7, q8, q9, q10, q11, q12, q13, q14, q15, q16⟩ := q
  obtain ⟨a1, a2, a3, a4, a5, a6⟩ := q14
  exact ⟨q1, q2, q3, q4, q5, q6, q7, q8, q9, q10, q11, q12, q13, ⟨a1, a2, a3, a4, e.trans a5, a6⟩, q15, q16⟩
theorem loo_ro {t : Nat} {a z x : Int32} (lo : LooR h M b l v t a z h' x) : RfO cA cG M h h' := by
  rcases lo with ⟨_, i, u, h1, _, _, _, dg, jd⟩ | ⟨_, _, pr⟩
  · obtain ⟨o, x, _, _, o3⟩ := dg
    have f4 : RfO cA cG M h h1 := by
      rw [o3]
      exact rsnH.ro.mono (fun _ z => nomatch z) (by decide)
    exact ((f4.tr (RfO.sbi (k := 1) (by decide) _ _)).tr (RfO.sbi (k := 6) (by decide) _ _)).tr (jd.1.mono (by decide) (fun _ z => nomatch z))
  · exact (lokH.ro.mono (by decide) (by decide)).tr (pr.1.mono (by decide) (fun _ z => nomatch z))
theorem vw_same (A : Shf) (u : Nat) : (vwD D i A (tL (D i)) (tP (D i)) (tN (D i)) u).1 = (D u).1 ∧ tL (vwD D i A (tL (D i)) (tP (D i)) (tN (D i)) u) = tL (D u) ∧ tP (vwD D i A (tL (D i)) (tP (D i)) (tN (D i)) u) = tP (D u) ∧ tN (vwD D i A (tL (D i)) (tP (D i)) (tN (D i)) u) = tN (D u) ∧ tS (vwD D i A (tL (D i)) (tP (D i)) (tN (D i)) u) = tS (D u) ∧ tC (vwD D i A (tL (D i)) (tP (D i)) (tN (D i)) u) = tC (D u) := by
  unfold vwD
  by_cases e : u = i
  · rw [e, va_up_self]
    exact ⟨rfl, rfl, rfl, rfl, rfl, rfl⟩
  · rw [va_up_ne _ _ e]
    exact ⟨rfl, rfl, rfl, rfl, rfl, rfl⟩
theorem vw_oth {A : Shf} {L : List Kv} {P : List Nat} {n u : Nat} (e : u ≠ i) : vwD D i A L P n u = D u := by
  unfold vwD
  rw [va_up_ne _ _ e]
theorem cl_oth {cs : List (Nat × Ck)} {u : Nat} (e : u ≠ i) : clD D i cs u = D u := by
  unfold clD
  rw [va_up_ne _ _ e]
theorem cl_at {cs : List (Nat × Ck)} : tL (clD D i cs i) = tL (D i) ∧ tP (clD D i cs i) = tP (D i) ∧ tN (clD D i cs i) = tN (D i) ∧ tS (clD D i cs i) = tS (D i) ∧ tC (clD D i cs i) = cs := by
  unfold clD
  rw [va_up_self]
  exact ⟨rfl, rfl, rfl, rfl, rfl⟩
/-- the looking of a call -/
theorem car_look {A' : Shf} {d : Clq} {e : AnD} {vv lo hh yl : Int32} (q : Cpl h M b c w l v k r clk G fv V ts D ac cm ct rs R) (pu : Pu B V ts D) (hl : l < 512) (hi : i < b) (ai : h.bi (M + 1) (i + 1) = 1) (hj : ac[j]? = some i) (nd : ac.Nodup) (hd : d.1 = 0 ∨ d.1 = 1 ∨ d.1 = 2) (he : e.2.2.2 = some (lo, hh)) (lh : lo.toInt ≤ hh.toInt) (car : CarR g' hK p G fv lr B V ts (vwD D i A' (tL (D i)) (tP (D i)) (tN (D i))) ac cm ot ct rs R cO c' i j c0 d e vv) (loo : LooR h M b l v (i + 1) lo hh hL yl) :
    (yl = 0 ∧ vv = -1 ∧ ∃ D' ot' ct' rs', Kr g' hK p G fv lr B V ts D' (ac.eraseIdx j) cm ot' ct' rs' e R c' ∧ Cpl hL M b c w l v k r clk G fv V ts D' (ac.eraseIdx j) cm ct' rs' R ∧ (∀ u ∈ ot', u < ts.length) ∧ (∀ u, u ≠ i → (D' u).2 = (D u).2) ∧ tS (D' i) = tS (D i) ∧ tL (D' i) = tL (D i) ∧ tP (D' i) = tP (D i) ∧ tN (D' i) = tN (D i) ∧ tC (D' i) = tC (D i)) ∨
    (yl = 1 ∧ vv = e.1 ∧ ∃ D2 ot' a, Kr g' hK p (match e.2.1 with | none => G | some y => va_up G 1209 y.1) (match e.2.1 with | none => fv | some y => y.2) (if d.1 = 2 then some a else lr) B V ts (clD D2 i (tC (D i) ++ [(c0, d, some e)])) ac cm ot' ct rs e (if d.1 = 2 then e.2.2.1 else R) c' ∧ Cpl hL M b c w (l + 1) v k r clk G fv V ts D2 ac cm ct rs R ∧ (∀ u ∈ ot', u < ts.length) ∧ (∀ u, u ≠ i → (D2 u).2 = (D u).2) ∧ (tS (D2 i)).length ≤ (tS (D i)).length + 1 ∧ tL (D2 i) = tL (D i) ∧ tP (D2 i) = tP (D i) ∧ tN (D2 i) = tN (D i) ∧ tC (D2 i) = tC (D i) ∧ h.bi (M + 3) = hL.bi (M + 3)) := by
  have vs := vw_same (D := D) (i := i) A'
  have vo := fun u (e : u ≠ i) => vw_oth (D := D) (i := i) (A := A') (L := tL (D i)) (P := tP (D i)) (n := tN (D i)) e
  generalize vwD D i A' (tL (D i)) (tP (D i)) (tN (D i)) = D1 at vs vo car
  have q1 := cpl_D (D' := D1) q (fun u _ => vs u)
  obtain ⟨p1, p2, p3, p4, p5⟩ := pu
  have nin : i ∉ ac.eraseIdx j := fun z => ((mem_out nd hj).mp z).2 rfl
  have hb := q.1.2.2.2.2.2.2.2.1
  have hc : cm.length ≤ 512 := by rw [q.2.2.1]; exact q.1.2.2.2.2.2.2.2.2.1
  have st : (D1 i).1 1001 = h.bi (M + 3) (i + 1) := by rw [(vs i).1]; exact (q.2.2.2.1 i hi).2.1
  have otl : ∀ {kk : Nat}, IsIx B lo.toInt kk → ∀ u ∈ (ovs B ((D1 i).1 1001) hh kk).map (ixm cm), u < ts.length ∧ h.bi (M + 1) (u + 1) = 2 := by
    intro kk ix u hu
    rw [st] at hu
    obtain ⟨x, x1, x2, x3, x4⟩ := (ot_mem p1 p3 p4 q.2.2.2.2.2.2.1 q.2.2.2.2.2.2.2.2.2.2.1 hb hc ix u).mp hu
    refine ⟨by rw [q.2.1]; omega, ?_⟩
    obtain ⟨m, j', g1, g2, _, g4, _⟩ := ver_own q x1
    have := (ni_inj (by omega) (by omega)).mp (x4.symm.trans g2)
    rw [show u = j' by omega]
    exact (q.2.2.2.2.2.2.1.2.1 m j' g1).2.1
  rcases car with ⟨v1, lo', hh', kk, b0, e1, ix, fb, kr⟩ | ⟨v1, D2, ot', lk, zz⟩
  · left
    rw [he] at e1
    have e1 := Option.some.inj e1
    have el : lo = lo' := congrArg Prod.fst e1
    have eh : hh = hh' := congrArg Prod.snd e1
    rw [← el] at ix
    rw [← eh] at fb kr
    obtain ⟨y0, q2⟩ := cpl_dang q1 p1 p3 p4 hi ai hj nd ix fb loo
    refine ⟨y0, v1, _, _, _, _, kr, q2, fun u hu => (otl ix u hu).1, fun u hu => ?_, ?_⟩
    · rw [endD_2 nin, vo u hu]
    · have e2 := endD_2 (D := D1) (s := nI 5) nin i
      refine ⟨?_, ?_, ?_, ?_, ?_⟩
      · show (endD D1 i (nI 5) (ac.eraseIdx j) i).2.2.2.2.2.2.1 = _
        rw [e2]; exact (vs i).2.2.2.2.1
      · show (endD D1 i (nI 5) (ac.eraseIdx j) i).2.2.2.1 = _
        rw [e2]; exact (vs i).2.1
      · show (endD D1 i (nI 5) (ac.eraseIdx j) i).2.2.2.2.1 = _
        rw [e2]; exact (vs i).2.2.1
      · show (endD D1 i (nI 5) (ac.eraseIdx j) i).2.2.2.2.2.1 = _
        rw [e2]; exact (vs i).2.2.2.1
      · show (endD D1 i (nI 5) (ac.eraseIdx j) i).2.2.2.2.2.2.2 = _
        rw [e2]; exact (vs i).2.2.2.2.2
  · right
    rcases lk with ⟨e1, _⟩ | ⟨lo', hh', e1, kk, la, ha, sp, ix, eo, fb, cn, sl, isp, eD⟩
    · rw [he] at e1; cases e1
    · rw [he] at e1
      have e1 := Option.some.inj e1
      have el : lo = lo' := congrArg Prod.fst e1
      have eh : hh = hh' := congrArg Prod.snd e1
      rw [← el] at ix isp
      rw [← eh] at eo isp
      rw [eo] at fb eD
      obtain ⟨y1, f, q2⟩ := cpl_look (la := la) (ha := ha) q1 p1 p3 p4 hl hi ai lh ix fb loo isp
      rw [← eD] at q2
      have nit : i ∉ (ovs B ((D1 i).1 1001) hh kk).map (ixm cm) := fun z => by
        have := (otl ix i z).2
        rw [ai] at this
        exact absurd this (by decide)
      have lk := lkD_at i _ (spD D1 i la ha sp) nit
      have two : ∀ u, (D2 u).2 = (spD D1 i la ha sp u).2 := by
        intro u
        rw [eD]
        by_cases z : (D1 i).1 1005 = 2
        · rw [if_pos z]
        · rw [if_neg z]
          by_cases e : u = i
          · rw [e]; exact lk.2.1
          · exact (lk.1 u e).2
      have spo : ∀ u, u ≠ i → spD D1 i la ha sp u = D1 u := fun u hu => by unfold spD; rw [va_up_ne _ _ hu]
      have spi : tL (spD D1 i la ha sp i) = tL (D1 i) ∧ tP (spD D1 i la ha sp i) = tP (D1 i) ∧ tN (spD D1 i la ha sp i) = tN (D1 i) ∧ tS (spD D1 i la ha sp i) = sp ∧ tC (spD D1 i la ha sp i) = tC (D1 i) := by
        unfold spD
        rw [va_up_self]
        exact ⟨rfl, rfl, rfl, rfl, rfl⟩
      have t2 : tL (D2 i) = tL (D i) ∧ tP (D2 i) = tP (D i) ∧ tN (D2 i) = tN (D i) ∧ tS (D2 i) = sp ∧ tC (D2 i) = tC (D i) := by
        have e2 := two i
        refine ⟨?_, ?_, ?_, ?_, ?_⟩
        · show (D2 i).2.2.2.1 = _
          rw [e2]; exact spi.1.trans (vs i).2.1
        · show (D2 i).2.2.2.2.1 = _
          rw [e2]; exact spi.2.1.trans (vs i).2.2.1
        · show (D2 i).2.2.2.2.2.1 = _
          rw [e2]; exact spi.2.2.1.trans (vs i).2.2.2.1
        · show (D2 i).2.2.2.2.2.2.1 = _
          rw [e2]; exact spi.2.2.2.1
        · show (D2 i).2.2.2.2.2.2.2 = _
          rw [e2]; exact spi.2.2.2.2.trans (vs i).2.2.2.2.2
      have kc : tC (D1 i) = tC (D i) := (vs i).2.2.2.2.2
      rcases zz with ⟨d3, _⟩ | ⟨_, a, kr⟩
      · exfalso
        rcases hd with z | z | z <;> rw [z] at d3 <;> rcases d3 with y | y | y <;> exact absurd y (by decide)
      · have kc' : (D1 i).2.2.2.2.2.2.2 = tC (D i) := kc
        rw [kc'] at kr
        refine ⟨y1, v1, D2, ot', a, kr, q2, fun u hu => (otl ix u (by rw [← eo]; exact hu)).1, fun u hu => by rw [two u, spo u hu, vo u hu], ?_, t2.1, t2.2.1, t2.2.2.1, t2.2.2.2.2, (f.bi (by decide)).symm⟩
        rw [t2.2.2.2.1]
        have := sl
        have e5 : (D1 i).2.2.2.2.2.2.1 = tS (D i) := (vs i).2.2.2.2.1
        rw [e5] at this
        exact this
end OUT
