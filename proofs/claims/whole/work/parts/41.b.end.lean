/-! reasons, and how a transaction ends -/
/-- what is left of calls: all -/
def Cqq (g g' : Nat → Nat) (h h' : Hp) : Prop := ∀ c, h.kd c = 5 → g c = c → h'.kd c = 5 ∧ g' c = c ∧ AgC h h' c
theorem Cqq.rf (g : Nat → Nat) (h : Hp) : Cqq g g h h := fun c k r => ⟨k, r, AgC.rf h c⟩
theorem Cqq.tr {g1 g2 g3 : Nat → Nat} {h1 h2 h3 : Hp} (a : Cqq g1 g2 h1 h2) (b : Cqq g2 g3 h2 h3) : Cqq g1 g3 h1 h3 := fun c k r => by
  obtain ⟨x1, x2, x3⟩ := a c k r
  obtain ⟨y1, y2, y3⟩ := b c x1 x2
  exact ⟨y1, y2, x3.tr y3⟩
theorem Cqq.of {g g' : Nat → Nat} {h h' : Hp} {p : Nat} (w : Wf g h) (F : Fr g g' p h h') (hk : h.kd p ≠ 5) : Cqq g g' h h' := fun c k r => ⟨F.kd w k (by decide), (F.gg w k (by decide)).trans r, F.ag w k (by decide) (nun_root r (fun z => hk (by rw [← z]; exact k)))⟩
def Wc (g g' : Nat → Nat) (h h' : Hp) : Prop := Wf g' h' ∧ Cqq g g' h h'
theorem Cr.cq {g g' : Nat → Nat} {h h' : Hp} {c : Nat} {d : Clq} (a : Cqq g g' h h') (q : Cr h c d) (r : g c = c) : Cr h' c d ∧ g' c = c ∧ h'.fr 506 c = h.fr 506 c := by
  obtain ⟨x1, x2, x3⟩ := a c q.1 r
  obtain ⟨q1, q2, q3, q4, q5, q6, q7⟩ := q
  exact ⟨⟨x1, (x3.fi _).trans q2, (x3.fi _).trans q3, (x3.fi _).trans q4, (x3.fi _).trans q5, (x3.fi _).trans q6, (x3.fl _).trans q7⟩, x2, x3.fr _⟩
section KE
variable {g : Nat → Nat} {h : Hp} {p : Nat → Nat} {G : Nat → Int32} {fv : Int64} {lr : Option Nat} {B : Shf} {V : List Kv} {ts : List Nat} {D : Nat → TD} {ac cm ot : List Nat} {ct rs : Nat → Int32} {d0 : AnD} {R : List (Int32 × Int64)} {cO : Nat}
theorem kr_arw (q : Kr g h p G fv lr B V ts D ac cm ot ct rs d0 R cO) (hac : ∀ i ∈ ac, i < ts.length) (N : Nat) : ∀ (m i c F : Nat), m = ac.length - i → m < F → i ≤ ac.length → L_X9_activeReadWrite_4 N (p 11) F h (nI c) (nI i) = some (h, nI (c + (ac.drop i).countP (fun j => decide ((D j).1 1005 = 0)))) := by
  obtain ⟨k1, k2, k3, k4, k5, k6, k7, k8, k9, k10, k11, k12⟩ := q
  have hl := k4.2.2.1
  rw [List.length_map] at hl
  intro m
  induction m with
  | zero =>
    intro i c F hm hF hi
    obtain ⟨F, rfl⟩ : ∃ F', F = F' + 1 := ⟨F - 1, by omega⟩
    show B_X9_activeReadWrite_4 N _ (p 11) h (nI c) (nI i) = _
    unfold B_X9_activeReadWrite_4
    refine (dr_e (by exact k1.2.2.2.2.2.2.1) (by exact k4.2.1)).trans ?_
    refine (bnd (by exact al_size k4.2 N)).trans ?_
    unfold B_X9_activeReadWrite_12
    rw [List.length_map]
    refine (if_pos (by exact (ni_le (by omega) (by omega)).mpr (by omega))).trans ?_
    rw [List.drop_eq_nil_of_le (by omega)]
    rfl
  | succ m ih =>
    intro i c F hm hF hi
    obtain ⟨F, rfl⟩ : ∃ F', F = F' + 1 := ⟨F - 1, by omega⟩
    have hlt : i < ac.length := by omega
    have hj : ac[i]? = some ac[i] := List.getElem?_eq_getElem hlt
    have tr := k11 _ _ (adr_get (hac _ (List.mem_of_getElem? hj)))
    show B_X9_activeReadWrite_4 N (L_X9_activeReadWrite_4 N (p 11) F) (p 11) h (nI c) (nI i) = _
    unfold B_X9_activeReadWrite_4
    refine (dr_e (by exact k1.2.2.2.2.2.2.1) (by exact k4.2.1)).trans ?_
    refine (bnd (by exact al_size k4.2 N)).trans ?_
    unfold B_X9_activeReadWrite_12
    rw [List.length_map]
    refine (if_neg (by exact fun z => by rw [ni_le (by omega) (by omega)] at z; omega)).trans ?_
    refine (dr_e (by exact k1.2.2.2.2.2.2.1) (by exact k4.2.1)).trans ?_
    refine (bnd (by exact al_get k4.2 N (map_get (ts := ts) hj))).trans ?_
    unfold B_X9_activeReadWrite_23 B_X9_activeReadWrite_35
    refine (dr_e (by exact rfl) (by exact tr.1)).trans ?_
    rw [tr.2.2.1, ni_inc, ni_inc, ih (i + 1) (c + 1) F (by omega) (by omega) (by omega), ih (i + 1) c F (by omega) (by omega) (by omega), List.drop_eq_getElem_cons hlt, List.countP_cons]
    by_cases z : (D ac[i]).1 1005 = 0
    · rw [if_pos z, if_pos (decide_eq_true z)]
      congr 2
      rw [show c + 1 + List.countP (fun j => decide ((D j).1 1005 = 0)) (ac.drop (i + 1)) = c + (List.countP (fun j => decide ((D j).1 1005 = 0)) (ac.drop (i + 1)) + 1) by omega]
    · rw [if_neg z, if_neg (fun y => z (of_decide_eq_true y))]
      rfl
theorem kr_blame (q : Kr g h p G fv lr B V ts D ac cm ot ct rs d0 R cO) (w : Wf g h) (N : Nat) (a b c d : Int32) : ∃ h', J_X9_blame N (p 11) h a b c d = some (h', ()) ∧ Kr g h' p G fv lr B V ts D ac cm ot ct (va_up (va_up (va_up (va_up rs 0 a) 1 b) 2 c) 3 d) d0 R cO ∧ Fr g g (p 6) h h' ∧ h'.nx = h.nx ∧ h'.su = h.su := by
  have F1 := Fr.sai w (Un.rf g (p 6)) 0 a
  have q1 := q.rsn w 0 a
  have F2 := Fr.sai F1.wf (Un.rf g (p 6)) 1 b
  have q2 := q1.rsn F1.wf 1 b
  have F3 := Fr.sai F2.wf (Un.rf g (p 6)) 2 c
  have q3 := q2.rsn F2.wf 2 c
  have F4 := Fr.sai F3.wf (Un.rf g (p 6)) 3 d
  have q4 := q3.rsn F3.wf 3 d
  have FF := ((F1.tr w F2).tr w F3).tr w F4
  have l0 := q.2.2.2.2.2.2.2.1.2.2.1
  have l1 := q1.2.2.2.2.2.2.2.1.2.2.1
  have l2 := q2.2.2.2.2.2.2.2.1.2.2.1
  have l3 := q3.2.2.2.2.2.2.2.1.2.2.1
  refine ⟨_, ?_, q4, FF, by rw [pj_sai_nx, pj_sai_nx, pj_sai_nx, pj_sai_nx], by rw [pj_sai_su, pj_sai_su, pj_sai_su, pj_sai_su]⟩
  have z0 : (0 : Int32).toNatClampNeg = 0 := rfl
  have z1 : (1 : Int32).toNatClampNeg = 1 := rfl
  have z2 : (2 : Int32).toNatClampNeg = 2 := rfl
  have z3 : (3 : Int32).toNatClampNeg = 3 := rfl
  unfold J_X9_blame B_X9_blame_0 B_X9_blame_29
  rw [z0, z1, z2, z3]
  refine (dr_e (by exact q.1.2.2.2.2.2.2.2.2.2.1) (by exact q.2.2.2.2.2.2.2.1.1)).trans ?_
  refine (ck_eq (by rw [l0]; decide)).trans ?_
  refine (dr_e (by exact q1.1.2.2.2.2.2.2.2.2.2.1) (by exact q1.2.2.2.2.2.2.2.1.1)).trans ?_
  refine (ck_eq (by rw [l1]; decide)).trans ?_
  refine (dr_e (by exact q2.1.2.2.2.2.2.2.2.2.2.1) (by exact q2.2.2.2.2.2.2.2.1.1)).trans ?_
  refine (ck_eq (by rw [l2]; decide)).trans ?_
  refine (dr_e (by exact q3.1.2.2.2.2.2.2.2.2.2.1) (by exact q3.2.2.2.2.2.2.2.1.1)).trans ?_
  refine (ck_eq (by rw [l3]; decide)).trans ?_
  rfl
/-- the number of the one with this moment, 0 if there is none -/
def nmOf (ts : List Nat) (D : Nat → TD) (cm : List Nat) (x : Int32) : Int32 := if 1 ≤ x.toInt then (match cm[x.toInt.toNat - 1]? with | some i => (D i).1 1000 | none => 0) else 0
theorem kr_blameD (q : Kr g h p G fv lr B V ts D ac cm ot ct rs d0 R cO) (w : Wf g h) (hcm : ∀ i ∈ cm, i < ts.length) (N : Nat) {i j t u : Nat} (hi : ts[i]? = some t) (hj : ts[j]? = some u) : ∃ h', J_X9_blameDanger N (p 11) h (some t) (some u) = some (h', ()) ∧ Kr g h' p G fv lr B V ts D ac cm ot ct (va_up (va_up (va_up (va_up rs 0 2) 1 ((D i).1 1000)) 2 ((D j).1 1000)) 3 (nmOf ts D cm ((D j).1 1008))) d0 R cO ∧ Fr g g (p 6) h h' ∧ h'.nx = h.nx ∧ h'.su = h.su := by
  have tr := q.2.2.2.2.2.2.2.2.2.2.1 i t hi
  have ur := q.2.2.2.2.2.2.2.2.2.2.1 j u hj
  obtain ⟨h', e1, e2⟩ := kr_blame q w N 2 ((D i).1 1000) ((D j).1 1000) (nmOf ts D cm ((D j).1 1008))
  refine ⟨h', ?_, e2⟩
  unfold J_X9_blameDanger B_X9_blameDanger_0
  refine (dr_e (by exact rfl) (by exact ur.1)).trans ?_
  rw [ur.2.2.1 1008]
  refine (bnd (by exact kr_withMoment q hcm N ((D j).1 1008))).trans ?_
  unfold B_X9_blameDanger_8 B_X9_blameDanger_31
  refine (dr_e (by exact rfl) (by exact tr.1)).trans ?_
  refine (dr_e (by exact rfl) (by exact ur.1)).trans ?_
  show nl (num (cm.map (adr ts)) ((D j).1 1008)) (dr h 12 (some (p 11)) _) (fun a8 => ck (h.kd a8 = 10) (dr h 12 (some (p 11)) _)) = _
  rw [tr.2.2.1 1000, ur.2.2.1 1000]
  unfold nmOf num at *
  by_cases c : 1 ≤ ((D j).1 1008).toInt
  · rw [if_pos c] at e1 ⊢
    cases e : cm[((D j).1 1008).toInt.toNat - 1]? with
    | none =>
      rw [e] at e1
      refine (nl_ne (by exact by rw [List.getElem?_map, e]; rfl)).trans ?_
      refine (dr_e (by exact rfl) (by exact q.1.1)).trans ?_
      refine (bnd (by exact e1)).trans ?_
      rfl
    | some i =>
      rw [e] at e1
      have cr := q.2.2.2.2.2.2.2.2.2.2.1 i _ (adr_get (hcm i (List.mem_of_getElem? e)))
      refine (nl_so (by exact map_get (ts := ts) e)).trans ?_
      refine (ck_eq (by exact cr.1)).trans ?_
      rw [cr.2.2.1 1000]
      refine (dr_e (by exact rfl) (by exact q.1.1)).trans ?_
      refine (bnd (by exact e1)).trans ?_
      rfl
  · rw [if_neg c] at e1 ⊢
    refine (nl_ne (by exact rfl)).trans ?_
    refine (dr_e (by exact rfl) (by exact q.1.1)).trans ?_
    refine (bnd (by exact e1)).trans ?_
    rfl
/-- those that heed the end -/
def hdD (D : Nat → TD) (E : Nat → Int32) (xs : List Nat) : Nat → TD := fun k => if k ∈ xs then (heedF (D k).1 E, (D k).2) else D k
theorem hd_loop (N : Nat) {E : Nat → Int32} {i t : Nat} (hi : ts[i]? = some t) (hnd : ac.Nodup) (hia : i ∉ ac) (hac : ∀ j ∈ ac, j < ts.length) (hlen : ac.length < 100000) : ∀ (m k F : Nat) (h : Hp) (D' : Nat → TD), m = ac.length - k → k ≤ ac.length → m < F → Kr g h p G fv lr B V ts D' ac cm ot ct rs d0 R cO → Wf g h → (D' i).1 = E → D' = hdD D E (ac.take k) → ∃ h', L_X9_end_78 N (p 11) F h (some t) (nI k) = some (h', ()) ∧ Kr g h' p G fv lr B V ts (hdD D E ac) ac cm ot ct rs d0 R cO ∧ Wc g g h h' ∧ h'.nx = h.nx ∧ h'.su = h.su := by
  intro m
  induction m with
  | zero =>
    intro k F h D' hm hk hF q w hE hD
    obtain ⟨F, rfl⟩ : ∃ F', F = F' + 1 := ⟨F - 1, by omega⟩
    refine ⟨h, ?_, ?_, ⟨w, Cqq.rf g h⟩, rfl, rfl⟩
    · show B_X9_end_78 N _ (p 11) h (some t) (nI k) = _
      unfold B_X9_end_78
      refine (dr_e (by exact q.1.2.2.2.2.2.2.1) (by exact q.2.2.2.1.2.1)).trans ?_
      refine (bnd (by exact al_size q.2.2.2.1.2 N)).trans ?_
      unfold B_X9_end_86
      rw [List.length_map]
      refine (if_pos (by exact (ni_le (by omega) (by omega)).mpr (by omega))).trans ?_
      rfl
    · rw [List.take_of_length_le (by omega)] at hD
      rw [← hD]
      exact q
  | succ m ih =>
    intro k F h D' hm hk hF q w hE hD
    obtain ⟨F, rfl⟩ : ∃ F', F = F' + 1 := ⟨F - 1, by omega⟩
    have hlt : k < ac.length := by omega
    have hj : ac[k]? = some ac[k] := List.getElem?_eq_getElem hlt
    have hjl := hac _ (List.mem_of_getElem? hj)
    have hu := adr_get hjl
    have tr := q.2.2.2.2.2.2.2.2.2.2.1 _ _ hu
    have tt := q.2.2.2.2.2.2.2.2.2.2.1 _ _ hi
    have nij : ac[k] ≠ i := fun z => hia (by rw [← z]; exact List.mem_of_getElem? hj)
    have nt : adr ts ac[k] ≠ t := fun z => nij ((List.getElem?_inj hjl q.2.2.2.2.2.2.2.2.2.2.2.1).mp (by rw [hu, z]; exact hi.symm))
    obtain ⟨h2, e1, e2, e3, e4, e5⟩ := tx_heed tr tt.1 (fun f => (tt.2.2.1 f).trans (by rw [hE])) nt w N
    have q2 := q.tx w hu e3 (x := (heedF (D' ac[k]).1 E, (D' ac[k]).2)) e2
    have hE2 : (va_up D' ac[k] (heedF (D' ac[k]).1 E, (D' ac[k]).2) i).1 = E := by rw [va_up_ne _ _ (Ne.symm nij)]; exact hE
    have nk : ac[k] ∉ ac.take k := fun z => by
      obtain ⟨x, hx⟩ := mem_iff_get.mp z
      rw [List.getElem?_take] at hx
      by_cases c : x < k
      · rw [if_pos c] at hx
        have := (List.getElem?_inj (show x < ac.length by omega) hnd).mp (hx.trans hj.symm)
        omega
      · rw [if_neg c] at hx; cases hx
    have hD2 : va_up D' ac[k] (heedF (D' ac[k]).1 E, (D' ac[k]).2) = hdD D E (ac.take (k + 1)) := by
      funext x
      rw [List.take_succ, hj]
      unfold hdD
      by_cases c : x = ac[k]
      · rw [c, va_up_self, if_pos (show ac[k] ∈ ac.take k ++ (some ac[k]).toList from List.mem_append_right _ (List.mem_singleton.mpr rfl)), hD]
        unfold hdD
        rw [if_neg nk]
      · rw [va_up_ne _ _ c, hD]
        unfold hdD
        by_cases c2 : x ∈ ac.take k
        · rw [if_pos c2, if_pos (List.mem_append_left _ c2)]
        · rw [if_neg c2, if_neg (fun z => (List.mem_append.mp z).elim c2 (fun y => c (by simpa using y)))]
    obtain ⟨h3, r1, r2, r3, r4, r5⟩ := ih (k + 1) F h2 _ (by omega) (by omega) (by omega) q2 e3.wf hE2 hD2
    refine ⟨h3, ?_, r2, ⟨r3.1, (Cqq.of w e3 (by rw [tr.1]; decide)).tr r3.2⟩, r4.trans e4, r5.trans e5⟩
    show B_X9_end_78 N (L_X9_end_78 N (p 11) F) (p 11) h (some t) (nI k) = _
    unfold B_X9_end_78
    refine (dr_e (by exact q.1.2.2.2.2.2.2.1) (by exact q.2.2.2.1.2.1)).trans ?_
    refine (bnd (by exact al_size q.2.2.2.1.2 N)).trans ?_
    unfold B_X9_end_86
    rw [List.length_map]
    refine (if_neg (by exact fun z => by rw [ni_le (by omega) (by omega)] at z; omega)).trans ?_
    refine (dr_e (by exact q.1.2.2.2.2.2.2.1) (by exact q.2.2.2.1.2.1)).trans ?_
    refine (bnd (by exact al_get q.2.2.2.1.2 N (map_get (ts := ts) hj))).trans ?_
    unfold B_X9_end_97
    refine (dr_e (by exact rfl) (by exact tr.1)).trans ?_
    refine (bnd (by exact e1)).trans ?_
    unfold B_X9_end_104
    rw [ni_inc]
    exact r1
/-- what an end leaves: E the ender's fields, s its state -/
def endD (D : Nat → TD) (i : Nat) (s : Int32) (ac : List Nat) : Nat → TD := if (D i).1 1005 = 0 then hdD (va_up D i (va_up (D i).1 1006 s, (D i).2)) (va_up (D i).1 1006 s) ac else va_up D i (va_up (D i).1 1006 s, (D i).2)
def endC (ct : Nat → Int32) (s : Nat) : Nat → Int32 := va_up (va_up ct 1 (ct 1 - 1)) s ((va_up ct 1 (ct 1 - 1)) s + 1)
theorem end_tail (N : Nat) (hN : 100000 < N) {i t : Nat} (hi : ts[i]? = some t) (hnd : ac.Nodup) (hia : i ∉ ac) (hac : ∀ j ∈ ac, j < ts.length) (hlen : ac.length < 100000) (q : Kr g h p G fv lr B V ts D ac cm ot ct rs d0 R cO) (w : Wf g h) : ∃ h', B_X9_end_68 N (p 11) h (some t) = some (h', ()) ∧ Kr g h' p G fv lr B V ts (if (D i).1 1005 = 0 then hdD D (D i).1 ac else D) ac cm ot ct rs d0 R cO ∧ Wc g g h h' ∧ h'.nx = h.nx ∧ h'.su = h.su := by
  have tt := q.2.2.2.2.2.2.2.2.2.2.1 _ _ hi
  by_cases c : (D i).1 1005 = 0
  · obtain ⟨h3, r1, r2, r3, r4, r5⟩ := hd_loop (D := D) (E := (D i).1) N hi hnd hia hac hlen ac.length 0 N h D rfl (Nat.zero_le _) (by omega) q w rfl (by funext x; unfold hdD; rw [if_neg (by simp)])
    refine ⟨h3, ?_, by rw [if_pos c]; exact r2, r3, r4, r5⟩
    unfold B_X9_end_68
    refine (dr_e (by exact rfl) (by exact tt.1)).trans ?_
    refine (if_pos (by rw [tt.2.2.1]; exact c)).trans ?_
    exact r1
  · refine ⟨h, ?_, by rw [if_neg c]; exact q, ⟨w, Cqq.rf g h⟩, rfl, rfl⟩
    unfold B_X9_end_68
    refine (dr_e (by exact rfl) (by exact tt.1)).trans ?_
    refine (if_neg (by rw [tt.2.2.1]; exact c)).trans ?_
    rfl
theorem map_era (ts xs : List Nat) (j : Nat) : (xs.map (adr ts)).eraseIdx j = (xs.eraseIdx j).map (adr ts) := by
  induction xs generalizing j with
  | nil => rfl
  | cons a r ih =>
    cases j with
    | zero => rfl
    | succ j => show _ :: _ = _ :: _; rw [ih]
theorem end_loop (N : Nat) (hN : 100000 < N) {i t j : Nat} (hi : ts[i]? = some t) (hj : ac[j]? = some i) (hnd : ac.Nodup) (hac : ∀ j ∈ ac, j < ts.length) (hlen : ac.length < 100000) (q : Kr g h p G fv lr B V ts D ac cm ot ct rs d0 R cO) (w : Wf g h) : ∀ (m k F : Nat), m = j - k → k ≤ j → m < F → ∃ h', L_X9_end_27 N (p 11) F h (some t) (nI k) = some (h', ()) ∧ Kr g h' p G fv lr B V ts (if (D i).1 1005 = 0 then hdD D (D i).1 (ac.eraseIdx j) else D) (ac.eraseIdx j) cm ot ct rs d0 R cO ∧ Wc g g h h' ∧ h'.nx = h.nx ∧ h'.su = h.su := by
  have hjl := (List.getElem?_eq_some_iff.mp hj).1
  have ati : adr ts i = t := adr_eq hi
  intro m
  induction m with
  | zero =>
    intro k F hm hk hF
    obtain ⟨F, rfl⟩ : ∃ F', F = F' + 1 := ⟨F - 1, by omega⟩
    have : k = j := by omega
    subst this
    have hg := map_get (ts := ts) hj
    rw [ati] at hg
    obtain ⟨h2, e1, e2, e3, e4, e5, e6⟩ := al_rem q.2.2.2.1.2 w hg N
    rw [map_era] at e2
    have q2 := q.act w e3 e2
    have mem : ∀ x, x ∈ ac.eraseIdx k → x ∈ ac := fun x hx => List.mem_of_mem_eraseIdx hx
    have hia : i ∉ ac.eraseIdx k := fun z => by
      rw [List.mem_eraseIdx_iff_getElem?] at z
      obtain ⟨x, hx, hx2⟩ := z
      exact hx ((List.getElem?_inj (List.getElem?_eq_some_iff.mp hx2).1 hnd).mp (hx2.trans hj.symm))
    obtain ⟨h3, r1, r2, r3, r4, r5⟩ := end_tail N hN hi (hnd.sublist (List.eraseIdx_sublist _ _)) hia (fun x hx => hac x (mem x hx)) (by have := List.length_eraseIdx_le ac k; omega) q2 e3.wf
    refine ⟨h3, ?_, r2, ⟨r3.1, (Cqq.of w e3 (by rw [q.2.2.2.1.2.1]; decide)).tr r3.2⟩, r4.trans e5, r5.trans e6⟩
    show B_X9_end_27 N (L_X9_end_27 N (p 11) F) (p 11) h (some t) (nI k) = _
    unfold B_X9_end_27
    refine (dr_e (by exact q.1.2.2.2.2.2.2.1) (by exact q.2.2.2.1.2.1)).trans ?_
    refine (bnd (by exact al_size q.2.2.2.1.2 N)).trans ?_
    unfold B_X9_end_35
    rw [List.length_map]
    refine (if_neg (by exact fun z => by rw [ni_le (by omega) (by omega)] at z; omega)).trans ?_
    refine (dr_e (by exact q.1.2.2.2.2.2.2.1) (by exact q.2.2.2.1.2.1)).trans ?_
    refine (bnd (by exact al_get q.2.2.2.1.2 N hg)).trans ?_
    unfold B_X9_end_46
    refine (if_pos (by rfl)).trans ?_
    refine (dr_e (by exact q.1.2.2.2.2.2.2.1) (by exact q.2.2.2.1.2.1)).trans ?_
    refine (bnd (by exact e1)).trans ?_
    unfold B_X9_end_58
    exact r1
  | succ m ih =>
    intro k F hm hk hF
    obtain ⟨F, rfl⟩ : ∃ F', F = F' + 1 := ⟨F - 1, by omega⟩
    have hkl : k < ac.length := by omega
    have hk2 : ac[k]? = some ac[k] := List.getElem?_eq_getElem hkl
    have nk : adr ts ac[k] ≠ t := fun z => by
      have h1 := hac _ (List.mem_of_getElem? hk2)
      have h2 : ac[k] = i := (List.getElem?_inj h1 q.2.2.2.2.2.2.2.2.2.2.2.1).mp ((adr_get h1).trans (by rw [z]; exact hi.symm))
      have h3 := (List.getElem?_inj hkl hnd).mp (hk2.trans ((congrArg some h2).trans hj.symm))
      omega
    obtain ⟨h3, r1, r2⟩ := ih (k + 1) F (by omega) (by omega) (by omega)
    refine ⟨h3, ?_, r2⟩
    show B_X9_end_27 N (L_X9_end_27 N (p 11) F) (p 11) h (some t) (nI k) = _
    unfold B_X9_end_27
    refine (dr_e (by exact q.1.2.2.2.2.2.2.1) (by exact q.2.2.2.1.2.1)).trans ?_
    refine (bnd (by exact al_size q.2.2.2.1.2 N)).trans ?_
    unfold B_X9_end_35
    rw [List.length_map]
    refine (if_neg (by exact fun z => by rw [ni_le (by omega) (by omega)] at z; omega)).trans ?_
    refine (dr_e (by exact q.1.2.2.2.2.2.2.1) (by exact q.2.2.2.1.2.1)).trans ?_
    refine (bnd (by exact al_get q.2.2.2.1.2 N (map_get (ts := ts) hk2))).trans ?_
    unfold B_X9_end_46
    refine (if_neg (by exact fun z => by injection z with z; exact nk z)).trans ?_
    rw [ni_inc]
    exact r1
theorem kr_end (q : Kr g h p G fv lr B V ts D ac cm ot ct rs d0 R cO) (w : Wf g h) (N : Nat) (hN : 100000 < N) {i t j s : Nat} (hi : ts[i]? = some t) (hj : ac[j]? = some i) (hnd : ac.Nodup) (hac : ∀ j ∈ ac, j < ts.length) (hs : s < 6) : ∃ h', J_X9_end N (p 11) h (some t) (nI s) = some (h', ()) ∧ Kr g h' p G fv lr B V ts (endD D i (nI s) (ac.eraseIdx j)) (ac.eraseIdx j) cm ot (endC ct s) rs d0 R cO ∧ Wc g g h h' ∧ h'.nx = h.nx ∧ h'.su = h.su := by
  have tt := q.2.2.2.2.2.2.2.2.2.2.1 _ _ hi
  have hlen : ac.length < 100000 := by have := q.2.2.2.1.2.2.1; rw [List.length_map] at this; exact this
  have hjl := (List.getElem?_eq_some_iff.mp hj).1
  have F1 := Fr.sfi w (Un.rf g t) 1006 (nI s)
  have q1 := q.tx w hi F1 (x := (va_up (D i).1 1006 (nI s), (D i).2)) (tt.sfi 1006 (nI s) (by decide) (by decide))
  have q2 := q1.ins F1.wf 1 (ct 1 - 1)
  have F2 := Fr.sai F1.wf (Un.rf g (p 5)) 1 (ct 1 - 1)
  have q3 := q2.ins F2.wf s ((va_up ct 1 (ct 1 - 1)) s + 1)
  have F3 := Fr.sai F2.wf (Un.rf g (p 5)) s ((va_up ct 1 (ct 1 - 1)) s + 1)
  obtain ⟨h4, r1, r2, r3, r4, r5⟩ := end_loop N hN hi hj hnd hac hlen q3 F3.wf j 0 N rfl (Nat.zero_le _) (by omega)
  refine ⟨h4, ?_, ?_, ⟨r3.1, (((Cqq.of w F1 (by rw [tt.1]; decide)).tr (Cqq.of F1.wf F2 (by rw [q1.2.2.2.2.2.2.1.1]; decide))).tr (Cqq.of F2.wf F3 (by rw [q2.2.2.2.2.2.2.1.1]; decide))).tr r3.2⟩, r4.trans (by rw [pj_sai_nx, pj_sai_nx, pj_sfi_nx]), r5.trans (by rw [pj_sai_su, pj_sai_su, pj_sfi_su])⟩
  · have l1 := q1.2.2.2.2.2.2.1.2.2.1
    have l2 := q2.2.2.2.2.2.2.1.2.2.1
    have v1 := q1.2.2.2.2.2.2.1.2.2.2 1
    have v2 := q2.2.2.2.2.2.2.1.2.2.2 s
    unfold J_X9_end B_X9_end_0
    refine (dr_e (by exact rfl) (by exact tt.1)).trans ?_
    rw [show (1 : Int32).toNatClampNeg = 1 from rfl, ni_clp (by omega)]
    refine (dr_e (by exact q1.1.2.2.2.2.2.2.2.2.1) (by exact q1.2.2.2.2.2.2.1.1)).trans ?_
    refine (ck_eq (by rw [l1]; decide)).trans ?_
    refine (ck_eq (by rw [l1]; decide)).trans ?_
    rw [v1]
    refine (dr_e (by exact q2.1.2.2.2.2.2.2.2.2.1) (by exact q2.2.2.2.2.2.2.1.1)).trans ?_
    refine (ck_eq (by rw [l2]; exact ix_ok2 hs (by decide))).trans ?_
    refine (ck_eq (by rw [l2]; exact ix_ok2 hs (by decide))).trans ?_
    rw [v2]
    exact r1
  · have e : (va_up D i (va_up (D i).1 1006 (nI s), (D i).2) i).1 = va_up (D i).1 1006 (nI s) := by rw [va_up_self]
    rw [e, va_up_ne _ _ (by decide)] at r2
    unfold endD endC
    exact r2
end KE
