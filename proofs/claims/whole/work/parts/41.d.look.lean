/-! what a looking leaves -/
def lk1 (D : Nat → TD) (i j : Nat) : Nat → TD := va_up (va_up D j (va_up (D j).1 1009 1, (D j).2)) i (noteOutF (D i).1 ((D j).1 1007), (D i).2)
def lkD (D : Nat → TD) (i : Nat) (xs : List Nat) : Nat → TD := xs.foldl (fun D j => lk1 D i j) D
theorem noteOutF_ne (F : Nat → Int32) (x : Int32) {f : Nat} (h : f ≠ 1008) : noteOutF F x f = F f := by
  unfold noteOutF
  by_cases c1 : F 1008 = 0
  · rw [if_pos c1, va_up_ne _ _ h]
  · rw [if_neg c1]
    by_cases c2 : F 1008 ≤ x
    · rw [if_pos c2]
    · rw [if_neg c2, va_up_ne _ _ h]
theorem lk1_kind (D : Nat → TD) (i j f : Nat) (h : f ≠ 1008) : (lk1 D i j i).1 f = (D i).1 f := by
  unfold lk1
  rw [va_up_self]
  exact noteOutF_ne _ _ h
theorem lkD_kind (i f : Nat) (h : f ≠ 1008) : ∀ (xs : List Nat) (D : Nat → TD), (lkD D i xs i).1 f = (D i).1 f := by
  intro xs
  induction xs with
  | nil => intro D; rfl
  | cons j r ih =>
    intro D
    show (lkD (lk1 D i j) i r i).1 f = _
    rw [ih, lk1_kind D i j f h]
section KH
variable {g : Nat → Nat} {h : Hp} {p : Nat → Nat} {G : Nat → Int32} {fv : Int64} {lr : Option Nat} {B : Shf} {V : List Kv} {ts : List Nat} {D : Nat → TD} {ac cm ot : List Nat} {ct rs : Nat → Int32} {d0 : AnD} {R : List (Int32 × Int64)} {cO : Nat}
theorem lk_loop (N : Nat) (hot : ∀ j ∈ ot, j < ts.length) (hol : ot.length < 100000) {i t : Nat} (hi : ts[i]? = some t) (hio : i ∉ ot) (hk2 : (D i).1 1005 ≠ 2) : ∀ (m k F : Nat) (h : Hp), m = ot.length - k → k ≤ ot.length → m < F → Kr g h p G fv lr B V ts (lkD D i (ot.take k)) ac cm ot ct rs d0 R cO → Wf g h → ∃ h', L_X9_lookAt_46 N (p 11) F h (some t) (nI k) = some (h', 1) ∧ Kr g h' p G fv lr B V ts (lkD D i ot) ac cm ot ct rs d0 R cO ∧ Wc g g h h' ∧ h'.nx = h.nx ∧ h'.su = h.su := by
  intro m
  induction m with
  | zero =>
    intro k F h hm hk hF q w
    obtain ⟨F, rfl⟩ : ∃ F', F = F' + 1 := ⟨F - 1, by omega⟩
    rw [List.take_of_length_le (by omega)] at q
    refine ⟨h, ?_, q, ⟨w, Cqq.rf g h⟩, rfl, rfl⟩
    show B_X9_lookAt_46 N _ (p 11) h (some t) (nI k) = _
    unfold B_X9_lookAt_46
    refine (dr_e (by exact q.1.2.2.2.2.2.2.2.2.2.2.2.1) (by exact q.2.2.2.2.2.1.2.1)).trans ?_
    refine (bnd (by exact al_size q.2.2.2.2.2.1.2 N)).trans ?_
    unfold B_X9_lookAt_55
    rw [List.length_map]
    refine (if_pos (by exact (ni_le (by omega) (by omega)).mpr (by omega))).trans ?_
    rfl
  | succ m ih =>
    intro k F h hm hk hF q w
    obtain ⟨F, rfl⟩ : ∃ F', F = F' + 1 := ⟨F - 1, by omega⟩
    have hlt : k < ot.length := by omega
    have hj : ot[k]? = some ot[k] := List.getElem?_eq_getElem hlt
    have hjm := List.mem_of_getElem? hj
    have tk : ot.take (k + 1) = ot.take k ++ [ot[k]] := by rw [List.take_succ, hj]; rfl
    generalize ot[k] = j at hj hjm tk
    have hkind := lkD_kind i 1005 (by decide) (ot.take k) D
    generalize hD : lkD D i (ot.take k) = D' at q hkind
    have hjl := hot j hjm
    have hu := adr_get hjl
    have tj := q.2.2.2.2.2.2.2.2.2.2.1 _ _ hu
    have tt := q.2.2.2.2.2.2.2.2.2.2.1 i t hi
    have nij : i ≠ j := fun z => hio (by rw [z]; exact hjm)
    have F1 := Fr.sfi w (Un.rf g (adr ts j)) 1009 1
    have q1 := q.tx w hu F1 (x := (va_up (D' j).1 1009 1, (D' j).2)) (tj.sfi 1009 1 (by decide) (by decide))
    have t1 := q1.2.2.2.2.2.2.2.2.2.2.1 i t hi
    rw [va_up_ne _ _ nij] at t1
    have j1 := q1.2.2.2.2.2.2.2.2.2.2.1 _ _ hu
    rw [va_up_self] at j1
    obtain ⟨h2, e1, e2, e3, e4, e5⟩ := tx_noteOut t1 F1.wf N ((D' j).1 1007)
    have q2 := q1.tx F1.wf hi e3 (x := (noteOutF (D' i).1 ((D' j).1 1007), (D' i).2)) e2 (by rw [va_up_ne _ _ nij])
    have hD2 : lkD D i (ot.take (k + 1)) = lk1 D' i j := by
      rw [tk]
      unfold lkD
      rw [List.foldl_append]
      show lk1 (lkD D i (ot.take k)) i j = _
      rw [hD]
    obtain ⟨h3, r1, r2, r3, r4, r5⟩ := ih (k + 1) F h2 (by omega) (by omega) (by omega) (by rw [hD2]; exact q2) e3.wf
    refine ⟨h3, ?_, r2, ⟨r3.1, ((Cqq.of w F1 (by rw [tj.1]; decide)).tr (Cqq.of F1.wf e3 (by rw [t1.1]; decide))).tr r3.2⟩, r4.trans (e4.trans (pj_sfi_nx _ _ _ _)), r5.trans (e5.trans (pj_sfi_su _ _ _ _))⟩
    show B_X9_lookAt_46 N (L_X9_lookAt_46 N (p 11) F) (p 11) h (some t) (nI k) = _
    unfold B_X9_lookAt_46
    refine (dr_e (by exact q.1.2.2.2.2.2.2.2.2.2.2.2.1) (by exact q.2.2.2.2.2.1.2.1)).trans ?_
    refine (bnd (by exact al_size q.2.2.2.2.2.1.2 N)).trans ?_
    unfold B_X9_lookAt_55
    rw [List.length_map]
    refine (if_neg (by exact fun z => by rw [ni_le (by omega) (by omega)] at z; omega)).trans ?_
    refine (dr_e (by exact rfl) (by exact tt.1)).trans ?_
    rw [tt.2.2.1]
    refine (if_neg (by rw [hkind]; exact hk2)).trans ?_
    refine (dr_e (by exact q.1.2.2.2.2.2.2.2.2.2.2.2.1) (by exact q.2.2.2.2.2.1.2.1)).trans ?_
    refine (bnd (by exact al_get q.2.2.2.2.2.1.2 N (map_get (ts := ts) hj))).trans ?_
    unfold B_X9_lookAt_75
    refine (dr_e (by exact rfl) (by exact tj.1)).trans ?_
    refine (dr_e (by exact rfl) (by exact t1.1)).trans ?_
    rw [j1.2.2.1 1007, show ((va_up (D' j).1 1009 1, (D' j).2) : TD).1 1007 = (D' j).1 1007 from by show va_up (D' j).1 1009 1 1007 = _; rw [va_up_ne _ _ (by decide)]]
    refine (bnd (by exact e1)).trans ?_
    unfold B_X9_lookAt_95
    rw [ni_inc]
    exact r1
/-- room of a looking: the others' list, and two arrays for spans -/
def Rlk (h h' : Hp) (c c' n s : Nat) : Prop := h'.nx + c ≤ h.nx + c' + 2 ∧ h'.su + 4 * c ≤ h.su + 4 * c' + 4 * s ∧ c ≤ c' ∧ c' ≤ max c (2 * n + 10)
/-- the spans of i are sp, in the arrays la, ha -/
def spD (D : Nat → TD) (i la ha : Nat) (sp : List Iv) : Nat → TD := va_up D i ((D i).1, ((D i).2.1.1, (D i).2.1.2.1, (D i).2.1.2.2.1, (D i).2.1.2.2.2.1, (D i).2.1.2.2.2.2.1, la, ha, (D i).2.1.2.2.2.2.2.2.2), ((D i).2.2.1, (D i).2.2.2.1, (D i).2.2.2.2.1, (D i).2.2.2.2.2.1, sp, (D i).2.2.2.2.2.2.2))
theorem kr_lookAt (q : Kr g h p G fv lr B V ts D ac cm ot ct rs d0 R cO) (w : Wf g h) (N : Nat) (hN : 100000 < N) (hcm : ∀ i ∈ cm, i < ts.length) {i t n j : Nat} (hi : ts[i]? = some t) (lo hh : Int32) (hlh : lo.toInt ≤ hh.toInt) (hn : n < 90000) (hst : ∀ y ∈ B, StM cm y.2) (hov : ∀ k, (ovs B ((D i).1 1001) hh k).length ≤ n) (hic : i ∉ cm) (hj : ac[j]? = some i) (hnd : ac.Nodup) (hac : ∀ j ∈ ac, j < ts.length) (hsp : (D i).2.2.2.2.2.2.1.length ≤ 2000) : ∃ h' g' k r v c', J_X9_lookAt N (p 11) h (some t) lo hh = some (h', v) ∧ IsIx B lo.toInt k ∧ Fb D (D i).1 ((ovs B ((D i).1 1001) hh k).map (ixm cm)) r ∧ Wc g g' h h' ∧ Rlk h h' cO c' n (D i).2.2.2.2.2.2.1.length ∧ ((r = none ∧ v = 1 ∧ ∃ la ha sp, Can sp ∧ sp.length ≤ (D i).2.2.2.2.2.2.1.length + 1 ∧ (∀ k, InS sp k ↔ (InS (D i).2.2.2.2.2.2.1 k ∨ (lo.toInt ≤ k.toInt ∧ k.toInt ≤ hh.toInt))) ∧ Kr g' h' p G fv lr B V ts (if (D i).1 1005 = 2 then spD D i la ha sp else lkD (spD D i la ha sp) i ((ovs B ((D i).1 1001) hh k).map (ixm cm))) ac cm ((ovs B ((D i).1 1001) hh k).map (ixm cm)) ct rs d0 R c') ∨ (∃ b, r = some b ∧ v = 0 ∧ Kr g' h' p G fv lr B V ts (endD D i (nI 5) (ac.eraseIdx j)) (ac.eraseIdx j) cm ((ovs B ((D i).1 1001) hh k).map (ixm cm)) (endC ct 5) (va_up (va_up (va_up (va_up rs 0 2) 1 ((D i).1 1000)) 2 ((D b).1 1000)) 3 (nmOf ts D cm ((D b).1 1008))) d0 R c')) := by
  have hcl : cm.length < 100000 := by have := q.2.2.2.2.1.2.2.1; rw [List.length_map] at this; exact this
  obtain ⟨h1, g1, k, e1, e2, q1, e3, e4⟩ := kr_gatherO q w N hN hcm hi lo hh hn hst hov
  have hot : ∀ x ∈ (ovs B ((D i).1 1001) hh k).map (ixm cm), x ∈ cm := by
    intro x hx
    obtain ⟨e, he, rfl⟩ := List.mem_map.mp hx
    unfold ovs at he
    obtain ⟨y, hy, he2⟩ := List.mem_flatMap.mp he
    have hyB : y ∈ B := List.mem_of_mem_drop ((List.takeWhile_prefix _).subset hy)
    have heL : e ∈ y.2 := (List.takeWhile_prefix _).subset he2
    obtain ⟨m, m1, m2, m3⟩ := hst y hyB e heL
    exact (ixm_get ts cm m1 m2 m3 (by omega)).2
  have hlo := hov k
  have hcap : cap h (p 10) = cO := q.2.2.2.2.2.1.1.2
  generalize hO : (ovs B ((D i).1 1001) hh k).map (ixm cm) = O at q1 hot ⊢
  have hol : O.length < 100000 := by rw [← hO, List.length_map]; omega
  have hot2 : ∀ x ∈ O, x < ts.length := fun x hx => hcm x (hot x hx)
  have hio : i ∉ O := fun z => hic (hot i z)
  obtain ⟨r, f1, f2⟩ := kr_forbid q1 N hN hot2 hi
  have tt := q1.2.2.2.2.2.2.2.2.2.2.1 i t hi
  have cq1 := Cqq.of w e3 (by rw [q.2.2.2.2.2.1.2.1]; decide)
  have start : ∀ {z : Option (Hp × Int32)}, B_X9_lookAt_12 N (p 11) h1 (some t) lo hh (r.map (adr ts)) = z → J_X9_lookAt N (p 11) h (some t) lo hh = z := by
    intro z hz
    unfold J_X9_lookAt B_X9_lookAt_0
    refine (bnd (by exact e1)).trans ?_
    unfold B_X9_lookAt_7
    refine (bnd (by exact f1)).trans ?_
    exact hz
  cases r with
  | none =>
    obtain ⟨-, -, -, -, ⟨s1, s2, s3, s4⟩, -⟩ := id tt
    obtain ⟨h2, g2, la, ha, sp, a1, a2, a3, a4, a5, a6, a7, a8⟩ := sn_add s3 s4 e3.wf N hN hsp lo hh hlh
    have F2 := a6.mono (Un.ch s2)
    have cq2 := cq1.tr (Cqq.of e3.wf F2 (by rw [tt.1]; decide))
    have q2 := q1.tx e3.wf hi F2 (x := spD D i la ha sp i) (by unfold spD; rw [va_up_self]; exact tt.spans e3.wf a6 a2 a3) (by unfold spD; rw [va_up_self])
    have hsD : va_up D i (spD D i la ha sp i) = spD D i la ha sp := by unfold spD; rw [va_up_self]
    rw [hsD] at q2
    have k2 : (spD D i la ha sp i).1 1005 = (D i).1 1005 := by unfold spD; rw [va_up_self]
    have rl : Rlk h h2 cO (cap h1 (p 10)) n (D i).2.2.2.2.2.2.1.length := by
      unfold Grn at e4
      unfold Rlk
      omega
    have tt2 := q2.2.2.2.2.2.2.2.2.2.2.1 i t hi
    have go : ∀ {z : Option (Hp × Int32)}, L_X9_lookAt_46 N (p 11) N h2 (some t) (nI 0) = z → J_X9_lookAt N (p 11) h (some t) lo hh = z := by
      intro z hz
      refine start ?_
      unfold B_X9_lookAt_12
      refine (nl_ne (by exact rfl)).trans ?_
      refine (dr_e (by exact rfl) (by exact tt.1)).trans ?_
      refine (dr_e (by exact s1) (by exact s3.1)).trans ?_
      refine (bnd (by exact a1)).trans ?_
      exact hz
    by_cases c : (D i).1 1005 = 2
    · refine ⟨h2, g2, k, none, 1, cap h1 (p 10), go ?_, e2, by rw [hO]; exact f2, ⟨a6.wf, cq2⟩, rl, Or.inl ⟨rfl, rfl, la, ha, sp, a3, a4, a5, by rw [if_pos c, hO]; exact q2⟩⟩
      obtain ⟨N, rfl⟩ : ∃ F', N = F' + 1 := ⟨N - 1, by omega⟩
      show B_X9_lookAt_46 (N + 1) _ (p 11) h2 (some t) (nI 0) = _
      unfold B_X9_lookAt_46
      refine (dr_e (by exact q2.1.2.2.2.2.2.2.2.2.2.2.2.1) (by exact q2.2.2.2.2.2.1.2.1)).trans ?_
      refine (bnd (by exact al_size q2.2.2.2.2.2.1.2 (N + 1))).trans ?_
      unfold B_X9_lookAt_55
      by_cases c2 : nI (O.map (adr ts)).length ≤ nI 0
      · refine (if_pos (by exact c2)).trans ?_
        rfl
      · refine (if_neg (by exact c2)).trans ?_
        refine (dr_e (by exact rfl) (by exact tt2.1)).trans ?_
        rw [tt2.2.2.1]
        refine (if_pos (by rw [k2]; exact c)).trans ?_
        rfl
    · obtain ⟨h3, r1, r2, r3, r4, r5⟩ := lk_loop (D := spD D i la ha sp) N hot2 hol hi hio (by rw [k2]; exact c) O.length 0 N h2 rfl (Nat.zero_le _) (by omega) q2 a6.wf
      refine ⟨h3, g2, k, none, 1, cap h1 (p 10), go r1, e2, by rw [hO]; exact f2, ⟨r3.1, cq2.tr r3.2⟩, ?_, Or.inl ⟨rfl, rfl, la, ha, sp, a3, a4, a5, by rw [if_neg c, hO]; exact r2⟩⟩
      unfold Rlk at *
      omega
  | some b =>
    have hb : b < ts.length := by
      rcases f2 with ⟨z, -⟩ | ⟨k, z1, z2, -⟩
      · cases z
      · injection z1 with z1
        rw [z1]; exact hot2 k z2
    obtain ⟨h2, b1, b2, b3, b4, b5⟩ := kr_blameD q1 e3.wf hcm N hi (adr_get hb)
    obtain ⟨h3, c1, c2, c3, c4, c5⟩ := kr_end b2 b3.wf N hN (s := 5) hi hj hnd hac (by decide)
    refine ⟨h3, g1, k, some b, 0, cap h1 (p 10), start ?_, e2, by rw [hO]; exact f2, ⟨c3.1, (cq1.tr (Cqq.of e3.wf b3 (by rw [q1.2.2.2.2.2.2.2.1.1]; decide))).tr c3.2⟩, ?_, Or.inr ⟨b, rfl, rfl, by rw [hO]; exact c2⟩⟩
    · unfold B_X9_lookAt_12
      refine (nl_so (by exact rfl)).trans ?_
      refine (bnd (by exact b1)).trans ?_
      unfold B_X9_lookAt_26
      refine (bnd (by exact c1)).trans ?_
      rfl
    · unfold Grn at e4
      unfold Rlk
      omega
end KH
