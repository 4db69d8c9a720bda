/-! a view's own writes and its places to come back to -/
theorem nun_par {g : Nat → Nat} {h : Hp} (w : Wf g h) {c p : Nat} (e : g c = p) (n : c ≠ p) : ¬ Un g c p := fun u => by
  have h1 := un_le w u
  have h2 := w.2.2.2.1 c
  omega
theorem En.ext {g : Nat → Nat} {h h' : Hp} (e1 : h'.kd = h.kd) (e2 : h'.fr = h.fr) (e8 : h'.fi 700 = h.fi 700) (e9 : h'.fi 701 = h.fi 701) (e10 : h'.fi 702 = h.fi 702) (e11 : h'.fl 703 = h.fl 703) : ∀ {L : List Ent} {x : Option Nat}, En g h L x → En g h' L x := by
  intro L
  induction L with
  | nil => intro x q; exact q
  | cons e r ih =>
    intro x q
    obtain ⟨a, q1, q2, ⟨p1, p2, p3, p4, p5, p6⟩, q4⟩ := q
    exact ⟨a, q1, q2, ⟨by rw [e1]; exact p1, by rw [e8]; exact p2, by rw [e9]; exact p3, by rw [e10]; exact p4, by rw [e11]; exact p5, p6⟩, by rw [e2]; exact ih q4⟩
theorem Al.ext {g : Nat → Nat} {h h' : Hp} {l : Nat} {xs : List Nat} (q : Al g h l xs) (e1 : h'.kd = h.kd) (e2 : h'.fr = h.fr) (e3 : h'.al = h.al) (e4 : h'.ar = h.ar) (e5 : h'.se = h.se) (e6 : h'.fi 202 = h.fi 202) : Al g h' l xs := by
  obtain ⟨a1, a2, a3, a4, e, a5, a6⟩ := q
  refine ⟨by rw [e1]; exact a1, a2, by rw [e6]; exact a3, fun x hx => ?_, e, by rw [e2]; exact a5, ?_⟩
  · have := a4 x hx
    unfold okE at *
    rw [e1]; exact this
  · rw [e5]
    unfold Ar at *
    rw [e1, e3, e4]; exact a6
theorem Sh.ext {g : Nat → Nat} {h h' : Hp} {s l : Nat} {L : Shf} (q : Sh g h s l L) (e1 : h'.kd = h.kd) (e2 : h'.fr = h.fr) (e3 : h'.al = h.al) (e4 : h'.ar = h.ar) (e5 : h'.se = h.se) (e6 : h'.fi 202 = h.fi 202) (e7 : h'.fi 600 = h.fi 600) (e8 : h'.fi 700 = h.fi 700) (e9 : h'.fi 701 = h.fi 701) (e10 : h'.fi 702 = h.fi 702) (e11 : h'.fl 703 = h.fl 703) : Sh g h' s l L := by
  obtain ⟨b1, b2, b3, b4, b5, cs, b6, b7, b8⟩ := q
  refine ⟨by rw [e1]; exact b1, by rw [e2]; exact b2, b3, b4, b5, cs, b6.ext e1 e2 e3 e4 e5 e6, b7, fun i c y hc hy => ?_⟩
  obtain ⟨c1, c2, c3, c4, c5⟩ := b8 i c y hc hy
  exact ⟨by rw [e1]; exact c1, c2, by rw [e7]; exact c3, by rw [e2]; exact En.ext e1 e2 e8 e9 e10 e11 c4, c5⟩
theorem fi_of {h : Hp} {f f' a : Nat} {v : Int32} (n : f' ≠ f) : (h.sfi f a v).fi f' = h.fi f' := by
  funext b
  rw [pj_sfi_fi, if_neg n]
theorem Al.sfi {g : Nat → Nat} {h : Hp} {l : Nat} {xs : List Nat} (q : Al g h l xs) (f a : Nat) (v : Int32) (n : f ≠ 202) : Al g (h.sfi f a v) l xs := q.ext rfl rfl rfl rfl rfl (fi_of (Ne.symm n))
theorem Sh.sfi {g : Nat → Nat} {h : Hp} {s l : Nat} {L : Shf} (q : Sh g h s l L) (f a : Nat) (v : Int32) (n : f ≠ 202 ∧ f ≠ 600 ∧ f ≠ 700 ∧ f ≠ 701 ∧ f ≠ 702) : Sh g (h.sfi f a v) s l L := q.ext rfl rfl rfl rfl rfl (fi_of (Ne.symm n.1)) (fi_of (Ne.symm n.2.1)) (fi_of (Ne.symm n.2.2.1)) (fi_of (Ne.symm n.2.2.2.1)) (fi_of (Ne.symm n.2.2.2.2)) rfl
def VF (g : Nat → Nat) (h : Hp) (v S O pl : Nat) (st ow : Int32) (P : List Nat) (n : Nat) : Prop := h.kd v = 11 ∧ h.fr 1100 v = some S ∧ h.fr 1103 v = some O ∧ h.fi 1101 v = st ∧ h.fi 1102 v = ow ∧ g O = v ∧ h.kd O = 8 ∧ h.fr 1104 v = some pl ∧ h.kd pl = 20 ∧ g pl = v ∧ h.al pl = 10 ∧ P.length ≤ 10 ∧ h.fi 1105 v = nI P.length ∧ (∀ (i p : Nat), P[i]? = some p → h.ai pl i = nI p) ∧ h.fi 1106 v = nI n ∧ n < 100000 ∧ ∀ p ∈ P, p ≤ n
theorem VF.ag {g g' : Nat → Nat} {p : Nat} {h h' : Hp} {v S O pl : Nat} {st ow : Int32} {P : List Nat} {n : Nat} (q : VF g h v S O pl st ow P n) (w : Wf g h) (F : Fr g g' p h h') (s1 : ¬ Un g p v) (s2 : ¬ Un g p pl) : VF g' h' v S O pl st ow P n := by
  obtain ⟨a1, a2, a3, a4, a5, a6, a7, a8, a9, a10, a11, a12, a13, a14, a15, a16, a17⟩ := q
  have ag := F.ag w a1 (by decide) s1
  have ap := F.ag w a9 (by decide) s2
  exact ⟨F.kd w a1 (by decide), (ag.fr _).trans a2, (ag.fr _).trans a3, (ag.fi _).trans a4, (ag.fi _).trans a5, (F.gg w a7 (by decide)).trans a6, F.kd w a7 (by decide), (ag.fr _).trans a8, F.kd w a9 (by decide), (F.gg w a9 (by decide)).trans a10, (F.al w a9 (by decide)).trans a11, a12, (ag.fi _).trans a13, fun i p hp => by rw [ap.ai]; exact a14 i p hp, (ag.fi _).trans a15, a16, a17⟩
theorem VF.fr {g g' : Nat → Nat} {p : Nat} {h h' : Hp} {v S O pl : Nat} {st ow : Int32} {P : List Nat} {n : Nat} (q : VF g h v S O pl st ow P n) (w : Wf g h) (F : Fr g g' p h h') (s : Sep g p v) : VF g' h' v S O pl st ow P n := q.ag w F s.1 (s.ch q.2.2.2.2.2.2.2.2.2.1).1
/-- the view at v, its own shelf at O with the list lO -/
def VW (g : Nat → Nat) (h : Hp) (v S O lO pl : Nat) (st ow : Int32) (A : Shf) (P : List Nat) (n : Nat) : Prop := VF g h v S O pl st ow P n ∧ Sh g h O lO A
theorem VW.fr {g g' : Nat → Nat} {p : Nat} {h h' : Hp} {v S O lO pl : Nat} {st ow : Int32} {A : Shf} {P : List Nat} {n : Nat} (q : VW g h v S O lO pl st ow A P n) (w : Wf g h) (F : Fr g g' p h h') (hp : h.kd p ≠ 7) (s : Sep g p v) : VW g' h' v S O lO pl st ow A P n := ⟨q.1.fr w F s, q.2.fr w F hp (s.ch q.1.2.2.2.2.2.1)⟩
theorem VF.sepO {g : Nat → Nat} {h : Hp} {v S O pl : Nat} {st ow : Int32} {P : List Nat} {n : Nat} (q : VF g h v S O pl st ow P n) (w : Wf g h) : ¬ Un g O v ∧ ¬ Un g O pl := by
  have n1 : O ≠ v := ne_kd q.2.2.2.2.2.2.1 q.1 (by decide)
  have n2 : O ≠ pl := ne_kd q.2.2.2.2.2.2.1 q.2.2.2.2.2.2.2.2.1 (by decide)
  have n3 : pl ≠ v := ne_kd q.2.2.2.2.2.2.2.2.1 q.1 (by decide)
  exact ⟨nun_par w q.2.2.2.2.2.1 n1, (sep_sib w q.2.2.2.2.2.1 q.2.2.2.2.2.2.2.2.2.1 n2 n1 n3).1⟩
theorem VW.vr {g : Nat → Nat} {h : Hp} {v S lS O lO pl : Nat} {st ow : Int32} {A B : Shf} {P : List Nat} {n : Nat} (q : VW g h v S O lO pl st ow A P n) (s : Sh g h S lS B) : Vr g h v S lS O lO st A B := ⟨q.1.1, q.1.2.1, q.1.2.2.1, q.1.2.2.2.1, q.2, s⟩
theorem vw_hasPlace {g : Nat → Nat} {h : Hp} {v S O pl : Nat} {st ow : Int32} {P : List Nat} {n : Nat} (q : VF g h v S O pl st ow P n) (N : Nat) (x : Int32) : J_X8_hasPlace N v h x = some (h, if 1 ≤ x.toInt ∧ x.toInt ≤ P.length then 1 else 0) := by
  have hl := q.2.2.2.2.2.2.2.2.2.2.2.1
  have hp := q.2.2.2.2.2.2.2.2.2.2.2.2.1
  have hn := nI_toInt (n := P.length) (by omega)
  unfold J_X8_hasPlace B_X8_hasPlace_0 B_X8_hasPlace_17 B_X8_hasPlace_18
  rw [hp]
  by_cases c1 : x < 1
  · rw [if_pos c1, if_neg (by rw [Int32.lt_iff_toInt_lt] at c1; have : (1 : Int32).toInt = 1 := rfl; omega)]
    rfl
  · rw [if_neg c1]
    have c1' : 1 ≤ x.toInt := by rw [Int32.lt_iff_toInt_lt] at c1; have : (1 : Int32).toInt = 1 := rfl; omega
    by_cases c2 : nI P.length < x
    · rw [if_pos c2, if_neg (by rw [Int32.lt_iff_toInt_lt, hn] at c2; omega)]
      rfl
    · rw [if_neg c2, if_pos (by rw [Int32.lt_iff_toInt_lt, hn] at c2; omega)]
      rfl
/-- putOwn -/
theorem vw_putOwn {g : Nat → Nat} {h : Hp} {v S O lO pl : Nat} {st ow : Int32} {A : Shf} {P : List Nat} {n : Nat} (q : VW g h v S O lO pl st ow A P n) (w : Wf g h) (N : Nat) (hN : 100000 < N) (k th : Int32) (x : Int64) (hth : th = 0 ∨ th = 1) (hb : A.length < 90000) (hb2 : (look A k).length < 99999) (hn : n < 99999) : ∃ h' g' A', J_X8_putOwn N v h k th x = some (h', nI A'.length) ∧ VW g' h' v S O lO pl st ow A' P (n + 1) ∧ (∀ k', look A' k' = if k' = k then (nI (n + 1), ow, th, x) :: look A k else look A k') ∧ A'.length = A.length + (if look A k = [] then 1 else 0) ∧ Fr g g' v h h' ∧ Pt h h' lO A.length := by
  obtain ⟨qf, qs⟩ := q
  have sO := qf.sepO w
  have F0 := Fr.sfi w (Un.rf g v) 1106 (nI (n + 1))
  have qs0 : Sh g (h.sfi 1106 v (nI (n + 1))) O lO A := qs.sfi 1106 v _ (by decide)
  obtain ⟨h2, g2, A2, e1, e2, e3, e4, e5, e6⟩ := sh_put qs0 F0.wf N hN k (nI (n + 1), ow, th, x) hth hb hb2
  have qf0 : VF g (h.sfi 1106 v (nI (n + 1))) v S O pl st ow P (n + 1) := by
    obtain ⟨a1, a2, a3, a4, a5, a6, a7, a8, a9, a10, a11, a12, a13, a14, a15, a16, a17⟩ := qf
    exact ⟨a1, a2, a3, (by rw [pj_sfi_fi, if_neg (by decide)]; exact a4), (by rw [pj_sfi_fi, if_neg (by decide)]; exact a5), a6, a7, a8, a9, a10, a11, a12, (by rw [pj_sfi_fi, if_neg (by decide)]; exact a13), a14, fi_same, by omega, fun p hp => Nat.le_succ_of_le (a17 p hp)⟩
  refine ⟨h2, g2, A2, ?_, ⟨qf0.ag F0.wf e5 sO.1 sO.2, e2⟩, e3, e4, F0.tru w e5 (Un.ch qf.2.2.2.2.2.1), e6⟩
  have qf2 := qf0.ag F0.wf e5 sO.1 sO.2
  unfold J_X8_putOwn B_X8_putOwn_0
  have z1 : h.fi 1106 v + 1 = nI (n + 1) := by rw [qf.2.2.2.2.2.2.2.2.2.2.2.2.2.2.1]; exact ni_inc n
  rw [z1]
  refine (dr_e (by exact qf.2.2.1) (by exact qf.2.2.2.2.2.2.1)).trans ?_
  rw [fi_same, show (h.sfi 1106 v (nI (n + 1))).fi 1102 v = ow from qf0.2.2.2.2.1]
  refine (bnd (by exact e1)).trans ?_
  unfold B_X8_putOwn_28
  refine (dr_e (by exact qf2.2.2.1) (by exact qf2.2.2.2.2.2.2.1)).trans ?_
  refine (bnd (by exact sh_size e2 N)).trans ?_
  rfl
/-- addPlace -/
theorem vw_addPlace {g : Nat → Nat} {h : Hp} {v S O lO pl : Nat} {st ow : Int32} {A : Shf} {P : List Nat} {n : Nat} (q : VW g h v S O lO pl st ow A P n) (w : Wf g h) (N : Nat) : ∃ h', J_X8_addPlace N v h = some (h', if P.length < 10 then nI (P.length + 1) else -1) ∧ VW g h' v S O lO pl st ow A (if P.length < 10 then P ++ [n] else P) n ∧ Fr g g v h h' ∧ h'.nx = h.nx ∧ h'.su = h.su ∧ cap h' lO = cap h lO := by
  obtain ⟨qf, qs⟩ := q
  obtain ⟨a1, a2, a3, a4, a5, a6, a7, a8, a9, a10, a11, a12, a13, a14, a15, a16, a17⟩ := id qf
  by_cases c : P.length < 10
  · have F1 := Fr.sai w (p := v) (a := pl) (Un.ch a10) P.length (nI n)
    have F2 := Fr.sfi F1.wf (Un.rf g v) 1105 (nI (P.length + 1))
    have F := F1.tr w F2
    have hO : v ≠ O := ne_kd a1 a7 (by decide)
    have qs2 : Sh g ((h.sai pl P.length (nI n)).sfi 1105 v (nI (P.length + 1))) O lO A := Sh.sfi (h := h.sai pl P.length (nI n)) (qs.ext rfl rfl rfl rfl rfl rfl rfl rfl rfl rfl rfl) 1105 v _ (by decide)
    refine ⟨_, ?_, ⟨?_, qs2⟩, F, rfl, rfl, rfl⟩
    · unfold J_X8_addPlace B_X8_addPlace_0
      refine (dr_e (by exact a8) (by exact a9)).trans ?_
      rw [a11, a13]
      refine (if_pos (by exact (ni_lt (by omega) (by omega)).mpr c)).trans ?_
      refine (dr_e (by exact a8) (by exact a9)).trans ?_
      rw [a11]
      refine (ck_ix (show _ < 10 by omega) (show 10 < _ by omega)).trans ?_
      rw [ni_clp (by omega), pj_sai_fi, a13, ni_inc, a15, fi_same, if_pos c]
    · rw [if_pos c]
      refine ⟨a1, a2, a3, (by rw [pj_sfi_fi, if_neg (by decide)]; exact a4), (by rw [pj_sfi_fi, if_neg (by decide)]; exact a5), a6, a7, a8, a9, a10, a11, by rw [List.length_append]; exact c, (by rw [fi_same, List.length_append]; rfl), ?_, (by rw [pj_sfi_fi, if_neg (by decide)]; exact a15), a16, ?_⟩
      · intro i p hp
        rw [pj_sfi_ai, pj_sai_ai, if_pos rfl]
        by_cases z : i = P.length
        · rw [if_pos z]
          rw [z, List.getElem?_append_right (Nat.le_refl _), Nat.sub_self] at hp
          injection hp with hp
          rw [hp]
        · rw [if_neg z]
          have hlt : i < (P ++ [n]).length := (List.getElem?_eq_some_iff.mp hp).1
          rw [List.length_append] at hlt
          have hlt : i < P.length + 1 := hlt
          rw [List.getElem?_append_left (by omega)] at hp
          exact a14 i p hp
      · intro p hp
        rcases List.mem_append.mp hp with z | z
        · exact a17 p z
        · rw [List.mem_singleton.mp z]; exact Nat.le_refl _
  · refine ⟨h, ?_, ⟨by rw [if_neg c]; exact qf, qs⟩, Fr.rf w v, rfl, rfl, rfl⟩
    unfold J_X8_addPlace B_X8_addPlace_0
    refine (dr_e (by exact a8) (by exact a9)).trans ?_
    rw [a11, a13]
    refine (if_neg (by exact fun z => c ((ni_lt (by omega) (by omega)).mp z))).trans ?_
    rw [if_neg c]
/-- comeBack -/
theorem vw_comeBack {g : Nat → Nat} {h : Hp} {v S O lO pl : Nat} {st ow : Int32} {A : Shf} {P : List Nat} {n : Nat} (q : VW g h v S O lO pl st ow A P n) (w : Wf g h) (N : Nat) (hN : 100000 < N) (m s : Nat) (hm : 1 ≤ m) (hs : P[m - 1]? = some s) : ∃ h' A', J_X8_comeBack N v h (nI m) = some (h', nI A'.length) ∧ VW g h' v S O lO pl st ow A' (P.take m) n ∧ (∀ k', look A' k' = dropW (nI s) (look A k')) ∧ Fr g g v h h' ∧ h'.nx = h.nx ∧ h'.su = h.su ∧ cap h' lO = cap h lO := by
  obtain ⟨qf, qs⟩ := q
  have sO := qf.sepO w
  obtain ⟨a1, a2, a3, a4, a5, a6, a7, a8, a9, a10, a11, a12, a13, a14, a15, a16, a17⟩ := id qf
  have hlt : m - 1 < P.length := (List.getElem?_eq_some_iff.mp hs).1
  obtain ⟨h2, A2, e1, e2, e3, e4, e5, e6, e7⟩ := sh_drop qs w N hN (nI s)
  have qf2 := qf.ag w e4 sO.1 sO.2
  obtain ⟨b1, b2, b3, b4, b5, b6, b7, b8, b9, b10, b11, b12, b13, b14, b15, b16, b17⟩ := id qf2
  have F2 := Fr.sfi e4.wf (Un.rf g v) 1105 (nI m)
  have qs3 : Sh g (h2.sfi 1105 v (nI m)) O lO A2 := e2.sfi 1105 v _ (by decide)
  have hlen : (P.take m).length = m := by rw [List.length_take]; omega
  refine ⟨h2.sfi 1105 v (nI m), A2, ?_, ⟨⟨b1, b2, b3, (by rw [pj_sfi_fi, if_neg (by decide)]; exact b4), (by rw [pj_sfi_fi, if_neg (by decide)]; exact b5), b6, b7, b8, b9, b10, b11, by omega, (by rw [fi_same, hlen]), ?_, (by rw [pj_sfi_fi, if_neg (by decide)]; exact b15), b16, fun p hp => b17 p (List.mem_of_mem_take hp)⟩, qs3⟩, e3, (e4.mono (Un.ch a6)).tr w F2, e6, e7, e5⟩
  · unfold J_X8_comeBack B_X8_comeBack_0
    refine (bnd (by exact vw_hasPlace qf N (nI m))).trans ?_
    unfold B_X8_comeBack_5
    have z : (nI m).toInt = (m : Int) := nI_toInt (by omega)
    rw [if_pos (show 1 ≤ (nI m).toInt ∧ (nI m).toInt ≤ P.length by omega)]
    refine (if_neg (by show ¬ (1 : Int32) = 0; decide)).trans ?_
    refine (dr_e (by exact a8) (by exact a9)).trans ?_
    have z2 : nI m - 1 = nI (m - 1) := ni_sub (a := m) (b := 1) hm
    rw [a11, z2]
    refine (ck_ix (show _ < 10 by omega) (show 10 < _ by omega)).trans ?_
    refine (dr_e (by exact a3) (by exact a7)).trans ?_
    rw [ni_clp (by omega), a14 _ _ hs]
    refine (bnd (by exact e1)).trans ?_
    unfold B_X8_comeBack_23 B_X8_comeBack_28
    refine (dr_e (by exact b3) (by exact b7)).trans ?_
    refine (bnd (by exact sh_size qs3 N)).trans ?_
    rfl
  · intro i p hp
    rw [pj_sfi_ai]
    rw [List.getElem?_take] at hp
    by_cases z : i < m
    · rw [if_pos z] at hp
      exact b14 i p hp
    · rw [if_neg z] at hp
      cases hp
