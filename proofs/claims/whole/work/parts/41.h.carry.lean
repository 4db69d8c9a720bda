section KC2
variable {g : Nat → Nat} {h : Hp} {p : Nat → Nat} {G : Nat → Int32} {fv : Int64} {lr : Option Nat} {B : Shf} {V : List Kv} {ts : List Nat} {D : Nat → TD} {ac cm ot : List Nat} {ct rs : Nat → Int32} {d0 : AnD} {R : List (Int32 × Int64)} {cO : Nat}
/-- what carryOut leaves: refused, or kept -/
def CarR (g' : Nat → Nat) (h' : Hp) (p : Nat → Nat) (G : Nat → Int32) (fv : Int64) (lr : Option Nat) (B : Shf) (V : List Kv) (ts : List Nat) (D1 : Nat → TD) (ac cm ot : List Nat) (ct rs : Nat → Int32) (R : List (Int32 × Int64)) (cO c' i j c : Nat) (d : Clq) (e : AnD) (v : Int32) : Prop :=
  (v = -1 ∧ ∃ lo hh k b, e.2.2.2 = some (lo, hh) ∧ IsIx B lo.toInt k ∧ Fb D1 (D1 i).1 ((ovs B ((D1 i).1 1001) hh k).map (ixm cm)) (some b) ∧ Kr g' h' p G fv lr B V ts (endD D1 i (nI 5) (ac.eraseIdx j)) (ac.eraseIdx j) cm ((ovs B ((D1 i).1 1001) hh k).map (ixm cm)) (endC ct 5) (va_up (va_up (va_up (va_up rs 0 2) 1 ((D1 i).1 1000)) 2 ((D1 b).1 1000)) 3 (nmOf ts D1 cm ((D1 b).1 1008))) e R c') ∨
  (v = e.1 ∧ ∃ D2 ot', ((e.2.2.2 = none ∧ D2 = D1 ∧ ot' = ot ∧ c' = cO) ∨ ∃ lo hh, e.2.2.2 = some (lo, hh) ∧ LkR B cm D1 i lo hh ot' D2) ∧ (((d.1 = 3 ∨ d.1 = 4 ∨ d.1 = 5) ∧ Kr g' h' p (match e.2.1 with | none => G | some y => va_up G 1209 y.1) (match e.2.1 with | none => fv | some y => y.2) lr B V ts (clD D2 i ((D1 i).2.2.2.2.2.2.2 ++ [(c, d, none)])) ac cm ot' ct rs e R c') ∨ ((d.1 = 0 ∨ d.1 = 1 ∨ d.1 = 2) ∧ ∃ a, Kr g' h' p (match e.2.1 with | none => G | some y => va_up G 1209 y.1) (match e.2.1 with | none => fv | some y => y.2) (if d.1 = 2 then some a else lr) B V ts (clD D2 i ((D1 i).2.2.2.2.2.2.2 ++ [(c, d, some e)])) ac cm ot' ct rs e (if d.1 = 2 then e.2.2.1 else R) c')))
/-- keeping, behind a looking or none -/
theorem kr_keep (q : Kr g h p G fv lr B V ts D ac cm ot ct rs d0 R cO) (w : Wf g h) (N : Nat) (hN : 1000 < N) {i t c : Nat} {d : Clq} (hi : ts[i]? = some t) (hr : g c = c) (cr : Cr h c d) (hn : h.fr 506 c = none) (hlen : (D i).2.2.2.2.2.2.2.length < 90000) (hfr : ∀ (j u : Nat), ts[j]? = some u → ∀ y ∈ (D j).2.2.2.2.2.2.2, y.1 ≠ c) (kd : (d.1 = 0 ∨ d.1 = 1 ∨ d.1 = 2) ∨ (d.1 = 3 ∨ d.1 = 4 ∨ d.1 = 5)) : ∃ h' g', B_X9_carryOut_55 N (p 11) h (some t) (some c) = some (h', d0.1) ∧ Wf g' h' ∧ h'.nx ≤ h.nx + 4 ∧ h'.su ≤ h.su + 2 * (D i).2.2.2.2.2.2.2.length + 220 ∧ (((d.1 = 3 ∨ d.1 = 4 ∨ d.1 = 5) ∧ Kr g' h' p (match d0.2.1 with | none => G | some y => va_up G 1209 y.1) (match d0.2.1 with | none => fv | some y => y.2) lr B V ts (clD D i ((D i).2.2.2.2.2.2.2 ++ [(c, d, none)])) ac cm ot ct rs d0 R cO) ∨ ((d.1 = 0 ∨ d.1 = 1 ∨ d.1 = 2) ∧ ∃ a, Kr g' h' p (match d0.2.1 with | none => G | some y => va_up G 1209 y.1) (match d0.2.1 with | none => fv | some y => y.2) (if d.1 = 2 then some a else lr) B V ts (clD D i ((D i).2.2.2.2.2.2.2 ++ [(c, d, some d0)])) ac cm ot ct rs d0 (if d.1 = 2 then d0.2.2.1 else R) cO)) := by
  rcases kd with k | k
  · obtain ⟨h', g', a, r1, r2, r3, r4, r5⟩ := kr_keep1 q w N hN hi hr cr hn hlen hfr k
    exact ⟨h', g', r1, r3, r4, r5, Or.inr ⟨k, a, r2⟩⟩
  · obtain ⟨h', g', r1, r2, r3, r4, r5⟩ := kr_keep0 q w N hi hr cr hn hlen k
    exact ⟨h', g', r1, r3, r4, r5, Or.inl ⟨k, r2⟩⟩
theorem kr_carry (q : Kr g h p G fv lr B V ts D ac cm ot ct rs d0 R cO) (w : Wf g h) (N : Nat) (hN : 1000000 < N) {i t c j n nr : Nat} {d : Clq} (hi : ts[i]? = some t) (hr : g c = c) (cr : Cr h c d) (hcn : h.fr 506 c = none) (hfr : ∀ (j u : Nat), ts[j]? = some u → ∀ y ∈ (D j).2.2.2.2.2.2.2, y.1 ≠ c) (ok : ClOk (D i).2.2.2.2.1 d) (hsc : d.1 = 2 → d.2.1.toInt ≤ d.2.2.1.toInt) (hL : (D i).2.2.2.1.length < 90000) (hn0 : (D i).2.2.2.2.2.1 < 90000) (sb : StB (D i).2.2.2.1 (D i).2.2.2.2.2.1) (hcs : (D i).2.2.2.2.2.2.2.length < 90000) (hrec : G 1208 = nI nr) (hnr : nr < 512) (hcm : ∀ i ∈ cm, i < ts.length) (hn : n < 90000) (hst : ∀ y ∈ B, StM cm y.2) (hov : ∀ hh k, (ovs B ((D i).1 1001) hh k).length ≤ n) (hic : i ∉ cm) (hj : ac[j]? = some i) (hnd : ac.Nodup) (hac : ∀ j ∈ ac, j < ts.length) (hsp : (D i).2.2.2.2.2.2.1.length ≤ 2000) : ∃ h' g' A' L' P' n' e v c', J_X9_carryOut N (p 11) h (some t) (some c) = some (h', v) ∧ CallR (D i).2.2.2.1 V ((D i).1 1001) ((D i).1 1000) (D i).2.2.2.2.1 (D i).2.2.2.2.2.1 d L' P' n' e ∧ StB L' n' ∧ Wf g' h' ∧ Rcl h h' cO c' n (2 * (D i).2.2.2.1.length + 4 * (D i).2.2.2.2.2.2.1.length + 2 * (D i).2.2.2.2.2.2.2.length + 237) ∧ CarR g' h' p (va_up G 1208 (nI (nr + 1))) fv lr B V ts (vwD D i A' L' P' n') ac cm ot ct rs R cO c' i j c d e v := by
  obtain ⟨h1, e1, q1, e3, e4, e5⟩ := kr_take q w N nr hnr hrec
  have cq1 := Cqq.of w e3 (by rw [q.1.1]; decide)
  obtain ⟨cr1, hr1, hn1⟩ := cr.cq cq1 hr
  obtain ⟨h2, g2, A', L', P', n', e, j1, j2, q2, ⟨w2, cq2⟩, j5, j6, j7⟩ := kr_do q1 e3.wf N hN hi hr1 cr1 ok hL hn0 sb
  obtain ⟨cr2, hr2, hn2⟩ := cr1.cq cq2 hr1
  have hn2 : h2.fr 506 c = none := hn2.trans (hn1.trans hcn)
  have tt := q1.2.2.2.2.2.2.2.2.2.2.1 i t hi
  obtain ⟨d1, d2, d3⟩ := vwD_1 D i A' L' P' n' i
  have hD1 : ∀ x, (vwD D i A' L' P' n' x).1 = (D x).1 := fun x => (vwD_1 D i A' L' P' n' x).1
  have hD2 : ∀ x, (vwD D i A' L' P' n' x).2.2.2.2.2.2 = (D x).2.2.2.2.2.2 := fun x => (vwD_1 D i A' L' P' n' x).2.2
  have hfr2 : ∀ (j u : Nat), ts[j]? = some u → ∀ y ∈ (vwD D i A' L' P' n' j).2.2.2.2.2.2.2, y.1 ≠ c := fun j u hu y hy => hfr j u hu y (by rw [hD2 j] at hy; exact hy)
  have start : ∀ {z : Option (Hp × Int32)}, B_X9_carryOut_21 N (p 11) h2 (some t) (some c) = z → J_X9_carryOut N (p 11) h (some t) (some c) = z := by
    intro z hz
    unfold J_X9_carryOut B_X9_carryOut_0
    refine (bnd (by exact e1)).trans ?_
    unfold B_X9_carryOut_4
    refine (if_neg (by show ¬ (1 : Int32) = 0; decide)).trans ?_
    refine (dr_e (by exact rfl) (by exact tt.1)).trans ?_
    refine (dr_e (by exact rfl) (by exact cr1.1)).trans ?_
    rw [tt.2.2.2.1.1, q1.1.2.2.2.2.2.2.2.2.2.2.1]
    refine (bnd (by exact j1)).trans ?_
    exact hz
  have k9 := q2.2.2.2.2.2.2.2.2.1
  have lo := k9.2.2.2.2.2.2.2.2.2.2.2.2.2.2.2.2
  have rr := q2.1.2.2.2.2.2.2.2.2.2.2.1
  have hl2 : (vwD D i A' L' P' n' i).2.2.2.2.2.2.2.length = (D i).2.2.2.2.2.2.2.length := by rw [hD2 i]
  have kd := callR_kind j2
  unfold Lo at lo
  cases he : e.2.2.2 with
  | none =>
    rw [he] at lo
    obtain ⟨h3, g3, r1, r2, r3, r4, r5⟩ := kr_keep q2 w2 N (by omega) hi hr2 cr2 hn2 (by omega) hfr2 (kd.imp id (fun z => z.1))
    refine ⟨h3, g3, A', L', P', n', e, e.1, cO, start ?_, j2, j5, r2, ?_, Or.inr ⟨rfl, _, ot, Or.inl ⟨he, rfl, rfl, rfl⟩, r5⟩⟩
    · unfold B_X9_carryOut_21
      refine (dr_e (by exact rr) (by exact k9.1)).trans ?_
      refine (if_pos (by exact lo)).trans ?_
      exact r1
    · unfold Rcl
      omega
  | some y =>
    obtain ⟨l1, l2⟩ := y
    rw [he] at lo
    have kd1 : d.1 = 0 ∨ d.1 = 1 ∨ d.1 = 2 := kd.resolve_right (fun z => by rw [he] at z; cases z.2)
    have hlh := callR_look j2 hsc he
    have hov2 : ∀ k, (ovs B ((vwD D i A' L' P' n' i).1 1001) l2 k).length ≤ n := fun k => by rw [hD1 i]; exact hov l2 k
    obtain ⟨h3, g3, k, r, v, c', b1, b2, b3, ⟨w3, cq3⟩, b5, b6⟩ := kr_lookAt q2 w2 N (by omega) hcm hi l1 l2 hlh hn hst hov2 hic hj hnd hac (by rw [hD2 i]; exact hsp)
    have hsl : (vwD D i A' L' P' n' i).2.2.2.2.2.2.1.length = (D i).2.2.2.2.2.2.1.length := by rw [hD2 i]
    rw [hsl] at b5
    have start2 : ∀ {z : Option (Hp × Int32)}, B_X9_carryOut_50 N (p 11) h3 (some t) (some c) v = z → J_X9_carryOut N (p 11) h (some t) (some c) = z := by
      intro z hz
      refine start ?_
      unfold B_X9_carryOut_21
      refine (dr_e (by exact rr) (by exact k9.1)).trans ?_
      refine (if_neg (by rw [lo.1]; decide)).trans ?_
      refine (dr_e (by exact rr) (by exact k9.1)).trans ?_
      refine (dr_e (by exact rr) (by exact k9.1)).trans ?_
      rw [lo.2.1, lo.2.2]
      refine (bnd (by exact b1)).trans ?_
      exact hz
    rcases b6 with ⟨z1, z2, la, ha, sp, z3, z4, z5, z6⟩ | ⟨b, z1, z2, z3⟩
    · obtain ⟨cr3, hr3, hn3⟩ := cr2.cq cq3 hr2
      have hD3 : ∀ x, ((if (vwD D i A' L' P' n' i).1 1005 = 2 then spD (vwD D i A' L' P' n') i la ha sp else lkD (spD (vwD D i A' L' P' n') i la ha sp) i ((ovs B ((vwD D i A' L' P' n' i).1 1001) l2 k).map (ixm cm))) x).2.2.2.2.2.2.2 = (D x).2.2.2.2.2.2.2 := by
        intro x
        have s1 := (spD_1 (vwD D i A' L' P' n') i la ha sp x).2
        rw [hD2 x] at s1
        by_cases cc : (vwD D i A' L' P' n' i).1 1005 = 2
        · rw [if_pos cc]; exact s1
        · rw [if_neg cc, lkD_2]; exact s1
      generalize hDD : (if (vwD D i A' L' P' n' i).1 1005 = 2 then spD (vwD D i A' L' P' n') i la ha sp else lkD (spD (vwD D i A' L' P' n') i la ha sp) i ((ovs B ((vwD D i A' L' P' n' i).1 1001) l2 k).map (ixm cm))) = D3 at z6 hD3
      obtain ⟨h4, g4, r1, r2, r3, r4, r5⟩ := kr_keep z6 w3 N (by omega) hi hr3 cr3 (hn3.trans hn2) (by rw [hD3 i]; exact hcs) (fun j u hu y hy => hfr j u hu y (by rw [hD3 j] at hy; exact hy)) (Or.inl kd1)
      rw [hD3 i] at r4 r5
      have hcc : (vwD D i A' L' P' n' i).2.2.2.2.2.2.2 = (D i).2.2.2.2.2.2.2 := by rw [hD2 i]
      refine ⟨h4, g4, A', L', P', n', e, e.1, c', start2 ?_, j2, j5, r2, ?_, Or.inr ⟨rfl, D3, _, Or.inr ⟨l1, l2, he, k, la, ha, sp, b2, rfl, by rw [← z1]; exact b3, z3, z4, z5, hDD.symm⟩, by rw [hcc]; exact r5⟩⟩
      · unfold B_X9_carryOut_50
        refine (if_neg (by rw [z2]; decide)).trans ?_
        exact r1
      · unfold Rlk at b5
        unfold Rcl
        omega
    · refine ⟨h3, g3, A', L', P', n', e, -1, c', start2 ?_, j2, j5, w3, ?_, Or.inl ⟨rfl, l1, l2, k, b, he, b2, by rw [← z1]; exact b3, z3⟩⟩
      · unfold B_X9_carryOut_50
        refine (if_pos (by exact z2)).trans ?_
        rfl
      · unfold Rlk at b5
        unfold Rcl
        omega
end KC2
