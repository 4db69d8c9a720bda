section KB
variable {g g' : Nat → Nat} {h h' : Hp} {p : Nat → Nat} {G : Nat → Int32} {fv : Int64} {lr : Option Nat} {B : Shf} {V : List Kv} {ts : List Nat} {D : Nat → TD} {ac cm ot : List Nat} {ct rs : Nat → Int32} {d0 : AnD} {R : List (Int32 × Int64)} {cO nr : Nat}
theorem adr_snoc {ts : List Nat} {t i : Nat} (h : i < ts.length) : adr (ts ++ [t]) i = adr ts i := by unfold adr; rw [List.getElem?_append_left h]
theorem map_snoc {ts xs : List Nat} {t : Nat} (h : ∀ i ∈ xs, i < ts.length) : xs.map (adr (ts ++ [t])) = xs.map (adr ts) := List.map_congr_left (fun i hi => adr_snoc (h i hi))
theorem Kr.beg (q : Kr g h p G fv lr B V ts D ac cm ot ct rs d0 R cO) (w : Wf g h) (F : Fr g g' (p 2) h h') {t : Nat} (s : Al g' h' (p 2) (ts ++ [t])) {x : TD} (tr : Tr g' h' (p 0) (p 7) t x.1 x.2.1 x.2.2) (ht : t ∉ ts) (hv : ∀ i, i < ts.length → (D i).2.1.1 ≠ x.2.1.1) (hac : ∀ i ∈ ac, i < ts.length) (hcm : ∀ i ∈ cm, i < ts.length) (hot : ∀ i ∈ ot, i < ts.length) : Kr g' h' p G fv lr B V (ts ++ [t]) (va_up D ts.length x) ac cm ot ct rs d0 R cO := by
  obtain ⟨k1, k2, -, k4, k5, k6, k7, k8, k9, k10, k11, n1, n2, n3, n4, n5, n6, n7, n8, n9⟩ := q.lst w q.2.2.1.1 q.2.2.1.2.1 F
  refine ⟨k1, k2, ⟨(F.gg w q.2.2.1.2.1 (by decide)).trans q.2.2.1.1, s⟩, by rw [map_snoc hac]; exact k4 (Ne.symm n2), by rw [map_snoc hcm]; exact k5 (Ne.symm n3), by rw [map_snoc hot]; exact k6 (Ne.symm n4), k7, k8, k9, k10, ?_, ?_, n2, n3, n4, n5, n6, n7, n8, ?_⟩
  · intro i u hu
    by_cases c : i < ts.length
    · rw [List.getElem?_append_left c] at hu
      rw [va_up_ne _ _ (by omega)]
      exact k11 i u hu
    · have hl := (List.getElem?_eq_some_iff.mp hu).1
      rw [List.length_append] at hl
      have hl : i < ts.length + 1 := hl
      have e : i = ts.length := by omega
      rw [e, List.getElem?_append_right (Nat.le_refl _), Nat.sub_self] at hu
      injection hu with hu
      rw [e, va_up_self, ← hu]
      exact tr
  · exact List.nodup_append.mpr ⟨n1, by simp, fun a ha b hb z => ht (by rw [List.mem_singleton.mp hb] at z; rw [← z]; exact ha)⟩
  · intro a b ha hb hab
    rw [List.length_append] at ha hb
    have ha : a < ts.length + 1 := ha
    have hb : b < ts.length + 1 := hb
    by_cases c1 : a = ts.length
    · rw [c1, va_up_self, va_up_ne _ _ (by omega)]
      exact Ne.symm (hv b (by omega))
    · rw [va_up_ne _ _ c1]
      by_cases c2 : b = ts.length
      · rw [c2, va_up_self]
        exact hv a (by omega)
      · rw [va_up_ne _ _ c2]
        exact n9 a b (by omega) (by omega) hab
/-- the fields of a new transaction -/
def bgF (F : Nat → Int32) (ro : Int32) (c : Nat) : Nat → Int32 := if ro = 0 then F else safeF (va_up F 1010 (nI c))
def NewF (F : Nat → Int32) (n s : Nat) (ro : Int32) : Prop := F 1000 = nI n ∧ F 1001 = nI s ∧ F 1005 = ro ∧ F 1006 = 1 ∧ F 1007 = 0 ∧ F 1008 = 0 ∧ F 1009 = 0 ∧ F 1010 = 0
theorem kr_begin0 (q : Kr g h p G fv lr B V ts D ac cm ot ct rs d0 R cO) (N : Nat) (ro : Int32) (hal : 24 ≤ ac.length) (hal2 : ac.length < 100000) : J_X9_begin N (p 11) h ro = some (h, -1) := by
  unfold J_X9_begin B_X9_begin_0
  refine (dr_e (by exact q.1.2.2.2.2.2.2.1) (by exact q.2.2.2.1.2.1)).trans ?_
  refine (bnd (by exact al_size q.2.2.2.1.2 N)).trans ?_
  unfold B_X9_begin_7
  rw [List.length_map]
  refine (if_pos (by exact (ni_le (a := 24) (by omega) (by omega)).mpr hal)).trans ?_
  rfl
theorem kr_begin (q : Kr g h p G fv lr B V ts D ac cm ot ct rs d0 R cO) (w : Wf g h) (N : Nat) (hN : 100000 < N) (ro : Int32) (hro : ro = 0 ∨ ro = 1) (hal : ac.length < 24) (hrec : G 1208 = nI nr) (hnr : nr < 512) (htl : ts.length ≤ 512) (hcl : cm.length ≤ 512) (hac : ∀ i ∈ ac, i < ts.length) (hcm : ∀ i ∈ cm, i < ts.length) (hot : ∀ i ∈ ot, i < ts.length) : ∃ h' g' t F a, J_X9_begin N (p 11) h ro = some (h', nI (ts.length + 1)) ∧ NewF F (ts.length + 1) cm.length ro ∧ Kr g' h' p (va_up G 1208 (nI (nr + 1))) fv lr B V (ts ++ [t]) (va_up D ts.length (bgF F ro (ac.countP (fun j => decide ((D j).1 1005 = 0))), a, [], [], [], 0, [], [])) (ac ++ [ts.length]) cm ot (va_up ct 1 (ct 1 + 1)) rs d0 R cO ∧ Wf g' h' ∧ h'.nx ≤ h.nx + 11 ∧ h'.su ≤ h.su + 2200 := by
  obtain ⟨h1, e1, q1, e3, e4, e5⟩ := kr_take q w N nr hnr hrec
  have w1 := e3.wf
  -- the view
  have F2 := Fr.new w1 h1.nx 11 0 7 h1.nx (Nat.le_refl _)
  have kv2 : (h1.new 11 0 7).kd h1.nx = 11 := new_kd (n := 0) (sl := 7)
  have gv2 : va_up g h1.nx h1.nx h1.nx = h1.nx := va_up_self _ _ _
  have q2 := q1.new w1 (Nat.le_refl _) F2
  obtain ⟨h3, g3, a1, a2, a3, a4, a5, a6⟩ := vw_init (S := p 0) kv2 F2.wf N (nI cm.length) (nI (ts.length + 1))
  have nx2 : (h1.new 11 0 7).nx = h1.nx + 1 := rfl
  have su2 : (h1.new 11 0 7).su = h1.su + 7 := rfl
  rw [nx2] at a2 a4 a5
  have F3 : Fr g g3 h1.nx h1 h3 := F2.tr w1 a3
  have q3 := q1.new w1 (Nat.le_refl _) F3
  have gv3 : g3 h1.nx = h1.nx := (a3.1 h1.nx (by rw [nx2]; omega)).trans gv2
  -- the transaction
  have F4 := Fr.new F3.wf h3.nx 10 0 11 h3.nx (Nat.le_refl _)
  have kt4 : (h3.new 10 0 11).kd h3.nx = 10 := new_kd (n := 0) (sl := 11)
  have gt4 : va_up g3 h3.nx h3.nx h3.nx = h3.nx := va_up_self _ _ _
  have v4 : VW (va_up g3 h3.nx h3.nx) (h3.new 10 0 11) h1.nx (p 0) (h1.nx + 1) (h1.nx + 1 + 1) (h1.nx + 1 + 2) (nI cm.length) (nI (ts.length + 1)) [] [] 0 := a2.fr F3.wf F4 (kd_ge F3.wf (Nat.le_refl _) (by decide)) (sep_ge F3.wf (Nat.le_refl _) (F3.wf.lt a2.1.1 (by decide)))
  have gv4 : va_up g3 h3.nx h3.nx h1.nx = h1.nx := by rw [va_up_ne _ _ (by omega)]; exact gv3
  obtain ⟨h5, g5, F, a, b1, b2, b3, b4, f0, f1, f5, f6, f7, f8, f9, f10, b5, b6⟩ := tx_init (scr := p 7) F4.wf kt4 gt4 gv4 v4 N ro hro
  have nx4 : (h3.new 10 0 11).nx = h3.nx + 1 := rfl
  have su4 : (h3.new 10 0 11).su = h3.su + 11 := rfl
  have F5 : Fr g3 g5 h3.nx h3 h5 := F4.tr F3.wf b4
  have q5 := q3.new F3.wf (Nat.le_refl _) F5
  -- it waits
  have wait : ∃ h6, (if ro = 0 then B_X9_begin_71 N (p 11) h5 (some h3.nx) else ((J_X9_activeReadWrite N (p 11) h5).bind (fun z => B_X9_begin_68 N (p 11) z.1 (some h3.nx) (some h3.nx) z.2))) = B_X9_begin_71 N (p 11) h6 (some h3.nx) ∧ Tr g5 h6 (p 0) (p 7) h3.nx (bgF F ro (ac.countP (fun j => decide ((D j).1 1005 = 0)))) a ([], [], [], 0, [], []) ∧ Fr g5 g5 h3.nx h5 h6 ∧ h6.nx = h5.nx ∧ h6.su = h5.su := by
    by_cases c : ro = 0
    · exact ⟨h5, by rw [if_pos c], by unfold bgF; rw [if_pos c]; exact b2, Fr.rf b4.wf _, rfl, rfl⟩
    · have cnt := kr_arw q5 hac N ac.length 0 0 N rfl (by omega) (Nat.zero_le _)
      rw [List.drop_zero, Nat.zero_add] at cnt
      obtain ⟨h6, c1, c2, c3, c4, c5⟩ := tx_wait b2 b4.wf N (nI (ac.countP (fun j => decide ((D j).1 1005 = 0))))
      refine ⟨h6, ?_, by unfold bgF; rw [if_neg c]; exact c2, c3, c4, c5⟩
      rw [if_neg c]
      refine (bnd (by exact cnt)).trans ?_
      unfold B_X9_begin_68
      refine (dr_e (by exact rfl) (by exact b2.1)).trans ?_
      refine (bnd (by exact c1)).trans ?_
      rfl
  obtain ⟨h6, c1, c2, c3, c4, c5⟩ := wait
  have F6 : Fr g3 g5 h3.nx h3 h6 := F5.tr F3.wf c3
  have q6 := q3.new F3.wf (Nat.le_refl _) F6
  -- into the lists
  have t3 : ∀ i u, ts[i]? = some u → u < h3.nx := fun i u hu => F3.wf.lt (q3.2.2.2.2.2.2.2.2.2.2.1 i u hu).1 (by decide)
  have hts : h3.nx ∉ ts := fun z => by
    obtain ⟨i, hi⟩ := mem_iff_get.mp z
    have := t3 i _ hi
    omega
  have v1 : ∀ i, i < ts.length → (D i).2.1.1 ≠ a.1 := fun i hi => by
    have := w1.lt (q1.2.2.2.2.2.2.2.2.2.2.1 i _ (adr_get hi)).2.2.2.1.2.2.1.1.1 (by decide)
    rw [b3]
    omega
  obtain ⟨h7, g7, d1, d2, d3, d4⟩ := al_add q6.2.2.1.2 c3.wf (x := h3.nx) (Or.inr (Or.inr c2.1)) (by omega) N
  have tn2 : h3.nx ≠ p 2 := fun z => by have := F3.wf.lt q3.2.2.1.2.1 (by decide); omega
  have tr7 := c2.fr c3.wf d3 ⟨q6.2.2.1.1, by rw [q6.2.2.1.2.1]; decide, by rw [q6.2.2.1.2.1]; decide, fun z => by rw [q6.2.2.1.2.1] at z; cases z⟩ tn2 (ne_kd c2.2.2.2.1.2.2.1.1.1 q6.2.2.1.2.1 (by decide))
  have q7 := q6.beg c3.wf d3 d2 (x := (bgF F ro (ac.countP (fun j => decide ((D j).1 1005 = 0))), a, [], [], [], 0, [], [])) tr7 hts v1 hac hcm hot
  have ht7 : (ts ++ [h3.nx])[ts.length]? = some h3.nx := by rw [List.getElem?_append_right (Nat.le_refl _), Nat.sub_self]; rfl
  obtain ⟨h8, g8, i1, i2, i3, i4⟩ := al_add q7.2.2.2.1.2 d3.wf (x := h3.nx) (Or.inr (Or.inr tr7.1)) (by rw [List.length_map]; omega) N
  rw [show ac.map (adr (ts ++ [h3.nx])) ++ [h3.nx] = (ac ++ [ts.length]).map (adr (ts ++ [h3.nx])) by rw [List.map_append, List.map_singleton, adr_eq ht7]] at i2
  have q8 := q7.act d3.wf i3 i2
  have q9 := q8.ins i3.wf 1 (ct 1 + 1)
  have t9 := q9.2.2.2.2.2.2.2.2.2.2.1 _ _ ht7
  have t8 := q8.2.2.2.2.2.2.2.2.2.2.1 _ _ ht7
  rw [va_up_self] at t9
  have hn9 : (bgF F ro (ac.countP (fun j => decide ((D j).1 1005 = 0)))) 1000 = nI (ts.length + 1) := by
    unfold bgF safeF
    by_cases c : ro = 0
    · rw [if_pos c]; exact f0
    · rw [if_neg c]
      by_cases c2 : va_up F 1010 (nI (ac.countP (fun j => decide ((D j).1 1005 = 0)))) 1005 = 1 ∧ va_up F 1010 (nI (ac.countP (fun j => decide ((D j).1 1005 = 0)))) 1010 = 0
      · rw [if_pos c2, va_up_ne _ _ (by decide), va_up_ne _ _ (by decide), va_up_ne _ _ (by decide)]; exact f0
      · rw [if_neg c2, va_up_ne _ _ (by decide)]; exact f0
  refine ⟨_, g8, h3.nx, F, a, ?_, ⟨f0, f1, f5, f6, f7, f8, f9, f10⟩, q9, (Fr.sai i3.wf (Un.rf g8 (p 5)) 1 (ct 1 + 1)).wf, ?_, ?_⟩
  · unfold J_X9_begin B_X9_begin_0
    refine (dr_e (by exact q.1.2.2.2.2.2.2.1) (by exact q.2.2.2.1.2.1)).trans ?_
    refine (bnd (by exact al_size q.2.2.2.1.2 N)).trans ?_
    unfold B_X9_begin_7
    rw [List.length_map]
    refine (if_neg (by exact fun z => by have z := (ni_le (a := 24) (by omega) (by omega)).mp z; omega)).trans ?_
    refine (bnd (by exact e1)).trans ?_
    unfold B_X9_begin_16
    refine (if_neg (by show ¬ (1 : Int32) = 0; decide)).trans ?_
    unfold B_X9_begin_24
    refine (dr_e (by exact q2.1.2.2.2.2.2.2.2.1) (by exact q2.2.2.2.2.1.2.1)).trans ?_
    refine (bnd (by exact al_size q2.2.2.2.2.1.2 N)).trans ?_
    unfold B_X9_begin_36
    refine (dr_e (by exact q2.1.2.2.2.2.2.1) (by exact q2.2.2.1.2.1)).trans ?_
    refine (bnd (by exact al_size q2.2.2.1.2 N)).trans ?_
    unfold B_X9_begin_43
    rw [List.length_map]
    refine (dr_e (by exact rfl) (by exact kv2)).trans ?_
    rw [ni_inc, q2.1.2.2.2.2.1]
    refine (bnd (by exact a1)).trans ?_
    unfold B_X9_begin_48 B_X9_begin_52
    refine (dr_e (by exact rfl) (by exact kt4)).trans ?_
    refine (bnd (by exact b1)).trans ?_
    unfold B_X9_begin_58
    refine c1.trans ?_
    unfold B_X9_begin_71
    refine (dr_e (by exact q6.1.2.2.2.2.2.1) (by exact q6.2.2.1.2.1)).trans ?_
    refine (bnd (by exact d1)).trans ?_
    unfold B_X9_begin_79
    refine (dr_e (by exact q7.1.2.2.2.2.2.2.1) (by exact q7.2.2.2.1.2.1)).trans ?_
    refine (bnd (by exact i1)).trans ?_
    unfold B_X9_begin_88
    rw [show (1 : Int32).toNatClampNeg = 1 from rfl]
    refine (dr_e (by exact q8.1.2.2.2.2.2.2.2.2.1) (by exact q8.2.2.2.2.2.2.1.1)).trans ?_
    rw [q8.2.2.2.2.2.2.1.2.2.1, q8.2.2.2.2.2.2.1.2.2.2 1]
    refine (ck_eq (by decide)).trans ?_
    refine (ck_eq (by decide)).trans ?_
    refine (dr_e (by exact rfl) (by exact t9.1)).trans ?_
    rw [t9.2.2.1 1000]
    show some (_, (bgF F ro (ac.countP (fun j => decide ((D j).1 1005 = 0)))) 1000) = _
    rw [hn9]
  · have z1 := d4.2.2.2.1
    have z2 := i4.2.2.2.1
    rw [pj_sai_nx]
    omega
  · have z1 := d4.2.2.2.2.1
    have z2 := i4.2.2.2.2.1
    rw [List.length_map] at z2
    rw [pj_sai_su]
    omega
end KB
