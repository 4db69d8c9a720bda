/-! a call is kept -/
theorem Tr.frx {g g' : Nat → Nat} {p : Nat} {h h' : Hp} {S scr t : Nat} {F : Nat → Int32} {a : Ad} {d : Td} (q : Tr g h S scr t F a d) (w : Wf g h) (Fp : Fr g g' p h h') (hr : g p = p) (h7 : h.kd p ≠ 7) (n : t ≠ p) (n2 : a.1 ≠ p) {cs : List (Nat × Ck)} (hc : CsL g' h' scr a.2.2.2.2.2.2.2 cs) : Tr g' h' S scr t F a (d.1, d.2.1, d.2.2.1, d.2.2.2.1, d.2.2.2.2.1, cs) := by
  obtain ⟨q1, q2, q3, ⟨v1, v2, v3, v4, v5⟩, ⟨s1, s2, s3, s4⟩, c1, c2, c3⟩ := q
  have sp := sep_roots hr q2 (Ne.symm n)
  have ag := Fp.ag w q1 (by decide) sp.1
  have kl : h.kd a.2.2.2.2.2.2.2 = 2 := c3.1.1
  exact ⟨Fp.kd w q1 (by decide), (Fp.gg w q1 (by decide)).trans q2, fun f => (ag.fi f).trans (q3 f), ⟨(ag.fr _).trans v1, (Fp.gg w v3.1.1 (by decide)).trans v2, v3.fr w Fp h7 (sep_roots hr v2 (Ne.symm n2)), v4, v5⟩, ⟨(ag.fr _).trans s1, (Fp.gg w s3.1 (by decide)).trans s2, s3.fr w Fp (sp.ch s2), s4⟩, (ag.fr _).trans c1, (Fp.gg w kl (by decide)).trans c2, hc⟩
section KK
variable {g g' : Nat → Nat} {h h' : Hp} {p : Nat → Nat} {G : Nat → Int32} {fv : Int64} {lr : Option Nat} {B : Shf} {V : List Kv} {ts : List Nat} {D : Nat → TD} {ac cm ot : List Nat} {ct rs : Nat → Int32} {d0 : AnD} {R : List (Int32 × Int64)} {cO : Nat}
/-- the calls of i are cs -/
def clD (D : Nat → TD) (i : Nat) (cs : List (Nat × Ck)) : Nat → TD := va_up D i ((D i).1, (D i).2.1, (D i).2.2.1, (D i).2.2.2.1, (D i).2.2.2.2.1, (D i).2.2.2.2.2.1, (D i).2.2.2.2.2.2.1, cs)
/-- a kept call changes: it is the last one of i -/
theorem Kr.cal (q : Kr g h p G fv lr B V ts D ac cm ot ct rs d0 R cO) (w : Wf g h) {i t c : Nat} (hi : ts[i]? = some t) (hk : h.kd c = 5) (hr : g c = c) (F : Fr g g' c h h') (hc : ∀ (j u : Nat), ts[j]? = some u → j ≠ i → ∀ y ∈ (D j).2.2.2.2.2.2.2, y.1 ≠ c) {cs : List (Nat × Ck)} (s : CsL g' h' (p 7) (D i).2.1.2.2.2.2.2.2.2 cs) : Kr g' h' p G fv lr B V ts (clD D i cs) ac cm ot ct rs d0 R cO := by
  obtain ⟨k1, k2, k3, k4, k5, k6, k7, k8, k9, k10, k11, k12⟩ := q
  refine ⟨k1.fr w F hr (ne_kd k1.1 hk (by decide)), k2.fr w F hr (by omega) (ne_kd k2.2.1.1 hk (by decide)), k3.fr w F hr (ne_kd k3.2.1 hk (by decide)), k4.fr w F hr (ne_kd k4.2.1 hk (by decide)), k5.fr w F hr (ne_kd k5.2.1 hk (by decide)), k6.fr w F hr (ne_kd k6.2.1 hk (by decide)), k7.fr w F (ne_kd k7.1 hk (by decide)), k8.fr w F (ne_kd k8.1 hk (by decide)), k9.rt w F hr (ne_kd k9.1 hk (by decide)), k10.fr w F hr (fun z => by omega), ?_, ?_⟩
  rotate_left
  · obtain ⟨n1, n2, n3, n4, n5, n6, n7, n8, n9⟩ := k12
    refine ⟨n1, n2, n3, n4, n5, n6, n7, n8, fun a b ha hb hab => ?_⟩
    have e : ∀ c, (clD D i cs c).2.1.1 = (D c).2.1.1 := fun c => by
      unfold clD
      by_cases z : c = i
      · rw [z, va_up_self]
      · rw [va_up_ne _ _ z]
    rw [e a, e b]
    exact n9 a b ha hb hab
  intro j u hu
  have tj := k11 j u hu
  have n := ne_kd tj.1 hk (by decide)
  have nv := ne_kd tj.2.2.2.1.2.2.1.1.1 hk (by decide)
  unfold clD
  by_cases z : j = i
  · rw [z, va_up_self]
    rw [z] at tj nv
    exact tj.frx w F hr (by omega) n nv s
  · rw [va_up_ne _ _ z]
    have kl : h.kd (D j).2.1.2.2.2.2.2.2.2 = 2 := tj.2.2.2.2.2.2.2.1.1
    have sp := sep_roots hr tj.2.1 (Ne.symm n)
    exact tj.frx w F hr (by omega) n nv ⟨tj.2.2.2.2.2.2.2.1.fr w F (sp.ch tj.2.2.2.2.2.2.1), fun y hy => (tj.2.2.2.2.2.2.2.2 y hy).fr1 w F hr (hc j u hu z y hy) (fun z => by omega)⟩
/-- the end of carryOut: what was found -/
theorem kr_found (q : Kr g h p G fv lr B V ts D ac cm ot ct rs d0 R cO) (w : Wf g h) (N : Nat) : ∃ h', B_X9_carryOut_98 N (p 11) h = some (h', d0.1) ∧ Kr g h' p (match d0.2.1 with | none => G | some y => va_up G 1209 y.1) (match d0.2.1 with | none => fv | some y => y.2) lr B V ts D ac cm ot ct rs d0 R cO ∧ Wf g h' ∧ h'.nx = h.nx ∧ h'.su = h.su := by
  have k9 := q.2.2.2.2.2.2.2.2.1
  have fo := k9.2.2.2.2.2.2.2.2.2.2.2.2.1
  have rr := q.1.2.2.2.2.2.2.2.2.2.2.1
  unfold Fo at fo
  cases e : d0.2.1 with
  | none =>
    rw [e] at fo
    refine ⟨h, ?_, q, w, rfl, rfl⟩
    unfold B_X9_carryOut_98 B_X9_carryOut_130
    refine (dr_e (by exact rr) (by exact k9.1)).trans ?_
    refine (if_pos (by exact fo.1)).trans ?_
    refine (dr_e (by exact rr) (by exact k9.1)).trans ?_
    rw [k9.2.2.2.2.2.2.2.2.2.2.2.1]
  | some y =>
    rw [e] at fo
    have F1 := Fr.sfi w (Un.rf g (p 11)) 1209 y.1
    have q1 := q.sfi w 1209 y.1
    have k91 := q1.2.2.2.2.2.2.2.2.1
    have F2 := Fr.sfl F1.wf (Un.rf g (p 11)) 1210 y.2
    have hr := q1.1.2.1
    have hk := q1.1.1
    have q2 : Kr g ((h.sfi 1209 (p 11) y.1).sfl 1210 (p 11) y.2) p (va_up G 1209 y.1) y.2 lr B V ts D ac cm ot ct rs d0 R cO := by
      obtain ⟨x1, x2, x3, x4, x5⟩ := q1.1
      exact q1.own F1.wf F2 ⟨x1, x2, x3, fl_same, x5⟩ (q1.2.2.2.2.2.2.2.2.2.1.fr F1.wf F2 hr (fun z => by omega))
    have rr1 := q1.1.2.2.2.2.2.2.2.2.2.2.1
    have rr2 := q2.1.2.2.2.2.2.2.2.2.2.2.1
    have k92 := q2.2.2.2.2.2.2.2.2.1
    have v1 : (h.sfi 1209 (p 11) y.1).fl 303 (p 7) = y.2 := fo.2.2
    refine ⟨_, ?_, q2, F2.wf, by rw [pj_sfl_nx, pj_sfi_nx], by rw [pj_sfl_su, pj_sfi_su]⟩
    unfold B_X9_carryOut_98
    refine (dr_e (by exact rr) (by exact k9.1)).trans ?_
    refine (if_neg (by rw [fo.1]; decide)).trans ?_
    refine (dr_e (by exact rr) (by exact k9.1)).trans ?_
    rw [fo.2.1]
    refine (dr_e (by exact rr1) (by exact k91.1)).trans ?_
    rw [v1]
    unfold B_X9_carryOut_130
    refine (dr_e (by exact rr2) (by exact k92.1)).trans ?_
    rw [k92.2.2.2.2.2.2.2.2.2.2.2.1]
theorem cs_add {g g' : Nat → Nat} {h h' : Hp} {scr l x : Nat} {cs : List (Nat × Ck)} {d : Ck} (q : CsL g h scr l cs) (w : Wf g h) (F : Fr g g' l h h') (hl : g l ≠ l) (a : Al g' h' l (cs.map (fun y => y.1) ++ [x])) (c : CA g' h' scr x d) (o : ∀ y ∈ cs, CA g' h' scr y.1 y.2) : CsL g' h' scr l (cs ++ [(x, d)]) := ⟨by rw [List.map_append]; exact a, fun y hy => (List.mem_append.mp hy).elim (o y) (fun z => by rw [List.mem_singleton.mp z]; exact c)⟩
end KK
