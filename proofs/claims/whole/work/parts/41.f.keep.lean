theorem cl_isL {h : Hp} {c : Nat} {d : Clq} (q : Cr h c d) (N : Nat) (k : d.1 = 0 ∨ d.1 = 1 ∨ d.1 = 2) : J_X2_isLooking N c h = some (h, 1) := by
  unfold J_X2_isLooking B_X2_isLooking_0 B_X2_isLooking_23 B_X2_isLooking_28
  rw [q.2.1]
  rcases k with k | k | k <;> rw [k] <;> rfl
theorem cl_isN {h : Hp} {c : Nat} {d : Clq} (q : Cr h c d) (N : Nat) (k : d.1 = 3 ∨ d.1 = 4 ∨ d.1 = 5) : J_X2_isLooking N c h = some (h, 0) := by
  unfold J_X2_isLooking B_X2_isLooking_0 B_X2_isLooking_23 B_X2_isLooking_28
  rw [q.2.1]
  rcases k with k | k | k <;> rw [k] <;> rfl
theorem Cr.sfr {h : Hp} {c : Nat} {d : Clq} (q : Cr h c d) (f a : Nat) (v : Option Nat) : Cr (h.sfr f a v) c d := q
section KP
variable {g : Nat → Nat} {h : Hp} {p : Nat → Nat} {G : Nat → Int32} {fv : Int64} {lr : Option Nat} {B : Shf} {V : List Kv} {ts : List Nat} {D : Nat → TD} {ac cm ot : List Nat} {ct rs : Nat → Int32} {d0 : AnD} {R : List (Int32 × Int64)} {cO : Nat}
/-- the call goes into the list -/
theorem kr_addc (q : Kr g h p G fv lr B V ts D ac cm ot ct rs d0 R cO) (w : Wf g h) (N : Nat) {i t c : Nat} {d : Clq} (hi : ts[i]? = some t) (hr : g c = c) (cr : Cr h c d) (hn : h.fr 506 c = none) (hlen : (D i).2.2.2.2.2.2.2.length < 90000) : ∃ h' g', J_Jx4a65c_add_9ea2d N (D i).2.1.2.2.2.2.2.2.2 h (some c) = some (h', 1) ∧ Kr g' h' p G fv lr B V ts (clD D i ((D i).2.2.2.2.2.2.2 ++ [(c, d, none)])) ac cm ot ct rs d0 R cO ∧ Wf g' h' ∧ g' c = c ∧ Cr h' c d ∧ h'.nx ≤ h.nx + 1 ∧ h'.su ≤ h.su + 2 * (D i).2.2.2.2.2.2.2.length + 10 := by
  have tt := q.2.2.2.2.2.2.2.2.2.2.1 i t hi
  obtain ⟨q1, q2, q3, -, -, c1, c2, c3, c4⟩ := id tt
  have kl := c3.1
  obtain ⟨h1, g1, e1, e2, e3, e4⟩ := al_add c3 w (Or.inl cr.1) (by rw [List.length_map]; exact hlen) N
  have ncl : c ≠ (D i).2.1.2.2.2.2.2.2.2 := ne_kd cr.1 kl (by decide)
  have nc := nun_root hr ncl
  have cr1 := cr.fr w e3 nc
  have gc1 : g1 c = c := (e3.gg w cr.1 (by decide)).trans hr
  have ag := e3.ag w cr.1 (by decide) nc
  have nlt : t ≠ (D i).2.1.2.2.2.2.2.2.2 := ne_kd q1 kl (by decide)
  have cs1 : CsL g1 h1 (p 7) (D i).2.1.2.2.2.2.2.2.2 ((D i).2.2.2.2.2.2.2 ++ [(c, d, none)]) := cs_add ⟨c3, c4⟩ w e3 (by rw [c2]; exact nlt) e2 ⟨cr1, gc1, (ag.fr 506).trans hn⟩ (fun y hy => (c4 y hy).in w e3 c2 q2 nlt q1)
  have tr1 := tt.calls w e3 cs1
  have k1 := q.tx w hi (e3.mono (Un.ch c2)) (x := clD D i ((D i).2.2.2.2.2.2.2 ++ [(c, d, none)]) i) (by unfold clD; rw [va_up_self]; exact tr1) (by unfold clD; rw [va_up_self])
  have hD : va_up D i (clD D i ((D i).2.2.2.2.2.2.2 ++ [(c, d, none)]) i) = clD D i ((D i).2.2.2.2.2.2.2 ++ [(c, d, none)]) := by unfold clD; rw [va_up_self]
  rw [hD] at k1
  refine ⟨h1, g1, e1, k1, e3.wf, gc1, cr1, ?_, ?_⟩
  · exact e4.2.2.2.1
  · have := e4.2.2.2.2.1
    rw [List.length_map] at this
    exact this
theorem clD_clD (D : Nat → TD) (i : Nat) (a b : List (Nat × Ck)) : clD (clD D i a) i b = clD D i b := by
  unfold clD
  funext x
  by_cases c : x = i
  · rw [c, va_up_self, va_up_self, va_up_self]
  · rw [va_up_ne _ _ c, va_up_ne _ _ c, va_up_ne _ _ c]
/-- a call that doesn't look is kept -/
theorem kr_keep0 (q : Kr g h p G fv lr B V ts D ac cm ot ct rs d0 R cO) (w : Wf g h) (N : Nat) {i t c : Nat} {d : Clq} (hi : ts[i]? = some t) (hr : g c = c) (cr : Cr h c d) (hn : h.fr 506 c = none) (hlen : (D i).2.2.2.2.2.2.2.length < 90000) (kd : d.1 = 3 ∨ d.1 = 4 ∨ d.1 = 5) : ∃ h' g', B_X9_carryOut_55 N (p 11) h (some t) (some c) = some (h', d0.1) ∧ Kr g' h' p (match d0.2.1 with | none => G | some y => va_up G 1209 y.1) (match d0.2.1 with | none => fv | some y => y.2) lr B V ts (clD D i ((D i).2.2.2.2.2.2.2 ++ [(c, d, none)])) ac cm ot ct rs d0 R cO ∧ Wf g' h' ∧ h'.nx ≤ h.nx + 4 ∧ h'.su ≤ h.su + 2 * (D i).2.2.2.2.2.2.2.length + 220 := by
  have tt := q.2.2.2.2.2.2.2.2.2.2.1 i t hi
  obtain ⟨h1, g1, e1, e2, e3, e4, e5, e6, e7⟩ := kr_addc q w N hi hr cr hn hlen
  obtain ⟨h2, f1, f2, f3, f4, f5⟩ := kr_found e2 e3 N
  refine ⟨h2, g1, ?_, f2, f3, by omega, by omega⟩
  unfold B_X9_carryOut_55
  refine (dr_e (by exact rfl) (by exact tt.1)).trans ?_
  refine (dr_e (by exact tt.2.2.2.2.2.1) (by exact tt.2.2.2.2.2.2.2.1.1)).trans ?_
  refine (bnd (by exact e1)).trans ?_
  unfold B_X9_carryOut_63
  refine (dr_e (by exact rfl) (by exact e5.1)).trans ?_
  refine (bnd (by exact cl_isN e5 N kd)).trans ?_
  unfold B_X9_carryOut_68
  refine (if_pos (by rfl)).trans ?_
  unfold B_X9_carryOut_82
  refine (dr_e (by exact rfl) (by exact e5.1)).trans ?_
  refine (if_neg (by rw [e5.2.1]; rcases kd with k | k | k <;> rw [k] <;> decide)).trans ?_
  exact f1
/-- a call that looks is kept with its answer -/
theorem kr_keep1 (q : Kr g h p G fv lr B V ts D ac cm ot ct rs d0 R cO) (w : Wf g h) (N : Nat) (hN : 1000 < N) {i t c : Nat} {d : Clq} (hi : ts[i]? = some t) (hr : g c = c) (cr : Cr h c d) (hn : h.fr 506 c = none) (hlen : (D i).2.2.2.2.2.2.2.length < 90000) (hfr : ∀ (j u : Nat), ts[j]? = some u → ∀ y ∈ (D j).2.2.2.2.2.2.2, y.1 ≠ c) (kd : d.1 = 0 ∨ d.1 = 1 ∨ d.1 = 2) : ∃ h' g' a, B_X9_carryOut_55 N (p 11) h (some t) (some c) = some (h', d0.1) ∧ Kr g' h' p (match d0.2.1 with | none => G | some y => va_up G 1209 y.1) (match d0.2.1 with | none => fv | some y => y.2) (if d.1 = 2 then some a else lr) B V ts (clD D i ((D i).2.2.2.2.2.2.2 ++ [(c, d, some d0)])) ac cm ot ct rs d0 (if d.1 = 2 then d0.2.2.1 else R) cO ∧ Wf g' h' ∧ h'.nx ≤ h.nx + 4 ∧ h'.su ≤ h.su + 2 * (D i).2.2.2.2.2.2.2.length + 220 := by
  have tt := q.2.2.2.2.2.2.2.2.2.2.1 i t hi
  obtain ⟨h1, g1, e1, q1, e3, e4, e5, e6, e7⟩ := kr_addc q w N hi hr cr hn hlen
  have k9 := q1.2.2.2.2.2.2.2.2.1
  have hrow : d0.2.2.1.length ≤ 100 := k9.2.2.2.2.2.2.2.2.2.2.2.2.2.2.1
  obtain ⟨h2, g2, a1, a2, a3, a4, a5⟩ := an_copy k9 e3 N hN
  have q2 := q1.new e3 (Nat.le_refl _) a3
  have ncn : c ≠ h1.nx := Nat.ne_of_lt (e3.lt e5.1 (by decide))
  have nc : ¬ Un g1 h1.nx c := nun_root e4 ncn
  have cr2 := e5.fr e3 a3 nc
  have gc2 : g2 c = c := (a3.gg e3 e5.1 (by decide)).trans e4
  have F3 := Fr.sfr a3.wf (Un.rf g2 c) 506 (some h1.nx)
  have scrn : h1.nx ≠ p 7 := fun z => by have := e3.lt k9.1 (by decide); omega
  have cA : CA g2 (h2.sfr 506 c (some h1.nx)) (p 7) c (d, some d0) := ⟨cr2.sfr _ _ _, gc2, h1.nx, h1.nx + 1, h1.nx + 2, fr_same, scrn, a2.rt a3.wf F3 gc2 (Ne.symm ncn)⟩
  have tt2 := q2.2.2.2.2.2.2.2.2.2.2.1 i t hi
  have hDi : ∀ (l : List (Nat × Ck)), clD D i l i = ((D i).1, (D i).2.1, (D i).2.2.1, (D i).2.2.2.1, (D i).2.2.2.2.1, (D i).2.2.2.2.2.1, (D i).2.2.2.2.2.2.1, l) := fun l => va_up_self _ _ _
  rw [hDi] at tt2
  have cs2 := tt2.2.2.2.2.2.2.2
  have nlc : (D i).2.1.2.2.2.2.2.2.2 ≠ c := Ne.symm (ne_kd cr2.1 cs2.1.1 (by decide))
  have cs3 : CsL g2 (h2.sfr 506 c (some h1.nx)) (p 7) (D i).2.1.2.2.2.2.2.2.2 ((D i).2.2.2.2.2.2.2 ++ [(c, d, some d0)]) := by
    refine ⟨?_, fun y hy => ?_⟩
    · have z := cs2.1.sfr (f := 506) (c := c) (v := some h1.nx) (Or.inr (by decide))
      rw [List.map_append] at z ⊢
      exact z
    · rcases List.mem_append.mp hy with z | z
      · exact (cs2.2 y (List.mem_append_left _ z)).fr1 a3.wf F3 gc2 (hfr i t hi y z) (fun z => by have := cr2.1; omega)
      · rw [List.mem_singleton.mp z]; exact cA
  have q3 := q2.cal a3.wf hi cr2.1 gc2 F3 (fun j u hu nj y hy => by
    unfold clD at hy
    rw [va_up_ne _ _ nj] at hy
    exact hfr j u hu y hy) (cs := (D i).2.2.2.2.2.2.2 ++ [(c, d, some d0)]) (by rw [hDi]; exact cs3)
  rw [clD_clD] at q3
  have cr3 : Cr (h2.sfr 506 c (some h1.nx)) c d := cr2.sfr _ _ _
  have nx3 : (h2.sfr 506 c (some h1.nx)).nx = h1.nx + 3 := a4
  have su3 : (h2.sfr 506 c (some h1.nx)).su = h1.su + 10 + 2 * d0.2.2.1.length := a5
  have fc3 : (h2.sfr 506 c (some h1.nx)).fr 506 c = some h1.nx := fr_same
  have an3 : An g2 (h2.sfr 506 c (some h1.nx)) h1.nx d0.2.2.1.length (h1.nx + 1) (h1.nx + 2) (d0.1, d0.2.1, d0.2.2.1, none) := a2.rt a3.wf F3 gc2 (Ne.symm ncn)
  have w3 := F3.wf
  have go : ∀ {z : Option (Hp × Int32)}, B_X9_carryOut_82 N (p 11) (h2.sfr 506 c (some h1.nx)) (some c) = z → B_X9_carryOut_55 N (p 11) h (some t) (some c) = z := by
    intro z hz
    unfold B_X9_carryOut_55
    refine (dr_e (by exact rfl) (by exact tt.1)).trans ?_
    refine (dr_e (by exact tt.2.2.2.2.2.1) (by exact tt.2.2.2.2.2.2.2.1.1)).trans ?_
    refine (bnd (by exact e1)).trans ?_
    unfold B_X9_carryOut_63
    refine (dr_e (by exact rfl) (by exact e5.1)).trans ?_
    refine (bnd (by exact cl_isL e5 N kd)).trans ?_
    unfold B_X9_carryOut_68
    refine (if_neg (by show ¬ (1 : Int32) = 0; decide)).trans ?_
    refine (dr_e (by exact q1.1.2.2.2.2.2.2.2.2.2.2.1) (by exact k9.1)).trans ?_
    refine (bnd (by exact a1)).trans ?_
    unfold B_X9_carryOut_79
    refine (dr_e (by exact rfl) (by exact cr2.1)).trans ?_
    exact hz
  generalize h2.sfr 506 c (some h1.nx) = h3 at q3 cr3 nx3 su3 fc3 an3 w3 go
  by_cases k2 : d.1 = 2
  · have F4 := Fr.sfr w3 (Un.rf g2 (p 11)) 1211 (some h1.nx)
    have hr3 := q3.1.2.1
    have hk3 := q3.1.1
    have q4 : Kr g2 (h3.sfr 1211 (p 11) (some h1.nx)) p G fv (some h1.nx) B V ts (clD D i ((D i).2.2.2.2.2.2.2 ++ [(c, d, some d0)])) ac cm ot ct rs d0 d0.2.2.1 cO := by
      obtain ⟨x1, x2, x3, x4, x5, x6, x7, x8, x9, x10, x11, x12, x13⟩ := q3.1
      have o : ∀ f, f ≠ 1211 → (h3.sfr 1211 (p 11) (some h1.nx)).fr f (p 11) = h3.fr f (p 11) := fun f hf => fr_oth hf
      refine q3.own w3 F4 ⟨x1, x2, x3, x4, (o _ (by decide)).trans x5, (o _ (by decide)).trans x6, (o _ (by decide)).trans x7, (o _ (by decide)).trans x8, (o _ (by decide)).trans x9, (o _ (by decide)).trans x10, (o _ (by decide)).trans x11, (o _ (by decide)).trans x12, fr_same, x13.2⟩ ⟨scrn, h1.nx + 1, h1.nx + 2, d0, rfl, an3.rt w3 F4 hr3 (ne_kd an3.1 hk3 (by decide))⟩
    obtain ⟨h5, f1, f2, f3, f4, f5⟩ := kr_found q4 F4.wf N
    refine ⟨h5, g2, h1.nx, go ?_, by rw [if_pos k2, if_pos k2]; exact f2, f3, by rw [f4, pj_sfr_nx]; omega, by rw [f5, pj_sfr_su]; omega⟩
    unfold B_X9_carryOut_82
    refine (dr_e (by exact rfl) (by exact cr3.1)).trans ?_
    refine (if_pos (by rw [cr3.2.1]; exact k2)).trans ?_
    rw [fc3]
    exact f1
  · obtain ⟨h5, f1, f2, f3, f4, f5⟩ := kr_found q3 w3 N
    refine ⟨h5, g2, h1.nx, go ?_, by rw [if_neg k2, if_neg k2]; exact f2, f3, by omega, by omega⟩
    unfold B_X9_carryOut_82
    refine (dr_e (by exact rfl) (by exact cr3.1)).trans ?_
    refine (if_neg (by rw [cr3.2.1]; exact k2)).trans ?_
    exact f1
end KP
