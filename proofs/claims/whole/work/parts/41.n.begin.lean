/-! begin -/
theorem Sn.sfr {g : Nat → Nat} {h : Hp} {s la ha : Nat} {sp : List Iv} (q : Sn g h s la ha sp) (f a : Nat) (v : Option Nat) (n1 : f ≠ 900) (n2 : f ≠ 901) : Sn g (h.sfr f a v) s la ha sp := by
  obtain ⟨a1, a2, a3, a4, a5, a6, a7, a8, a9, a10, a11, a12, a13, a14⟩ := q
  exact ⟨a1, (fr_oth (Ne.symm n1)).trans a2, (fr_oth (Ne.symm n2)).trans a3, a4, a5, a6, a7, a8, a9, a10, a11, a12, a13, a14⟩
/-- a transaction in the making -/
def Mk (g g' : Nat → Nat) (h0 h : Hp) (t s la ha l : Nat) (f3 f4 f2 : Option Nat) : Prop := Fr g g' t h0 h ∧ h.kd t = 10 ∧ Sn g' h s la ha [] ∧ Al g' h l [] ∧ g' s = t ∧ g' l = t ∧ h.fr 1003 t = f3 ∧ h.fr 1004 t = f4 ∧ h.fr 1002 t = f2
theorem Mk.sfi {g g' : Nat → Nat} {h0 h : Hp} {t s la ha l : Nat} {f3 f4 f2 : Option Nat} (q : Mk g g' h0 h t s la ha l f3 f4 f2) (w : Wf g h0) (f : Nat) (v : Int32) (h1 : 1000 ≤ f) : Mk g g' h0 (h.sfi f t v) t s la ha l f3 f4 f2 := by
  obtain ⟨q1, q2, q3, q4, q5⟩ := q
  exact ⟨q1.tr w (Fr.sfi q1.wf (Un.rf g' t) f v), q2, q3.sfi f t v (by omega), q4.sfi f t v (by omega), q5⟩
theorem Mk.sfr4 {g g' : Nat → Nat} {h0 h : Hp} {t s la ha l : Nat} {f3 f4 f2 : Option Nat} (q : Mk g g' h0 h t s la ha l f3 f4 f2) (w : Wf g h0) (v : Option Nat) : Mk g g' h0 (h.sfr 1004 t v) t s la ha l f3 v f2 := by
  obtain ⟨q1, q2, q3, q4, q5, q6, q7, q8, q9⟩ := q
  exact ⟨q1.tr w (Fr.sfr q1.wf (Un.rf g' t) 1004 v), q2, q3.sfr 1004 t v (by decide) (by decide), q4.sfr (Or.inr (by decide)), q5, q6, (fr_oth (by decide)).trans q7, fr_same, (fr_oth (by decide)).trans q9⟩
theorem Mk.sfr2 {g g' : Nat → Nat} {h0 h : Hp} {t s la ha l : Nat} {f3 f4 f2 : Option Nat} (q : Mk g g' h0 h t s la ha l f3 f4 f2) (w : Wf g h0) (v : Option Nat) : Mk g g' h0 (h.sfr 1002 t v) t s la ha l f3 f4 v := by
  obtain ⟨q1, q2, q3, q4, q5, q6, q7, q8, q9⟩ := q
  exact ⟨q1.tr w (Fr.sfr q1.wf (Un.rf g' t) 1002 v), q2, q3.sfr 1002 t v (by decide) (by decide), q4.sfr (Or.inr (by decide)), q5, q6, (fr_oth (by decide)).trans q7, (fr_oth (by decide)).trans q8, fr_same⟩
theorem tx_init {g : Nat → Nat} {h : Hp} {t v S O lO pl scr : Nat} {st ow : Int32} (w : Wf g h) (hk : h.kd t = 10) (hr : g t = t) (vr : g v = v) (vw : VW g h v S O lO pl st ow [] [] 0) (N : Nat) (ro : Int32) (hro : ro = 0 ∨ ro = 1) : ∃ h' g' F a, J_X7_init N t h (some v) ro = some (h', ()) ∧ Tr g' h' S scr t F a ([], [], [], 0, [], []) ∧ a.1 = v ∧ Fr g g' t h h' ∧ F 1000 = ow ∧ F 1001 = st ∧ F 1005 = ro ∧ F 1006 = 1 ∧ F 1007 = 0 ∧ F 1008 = 0 ∧ F 1009 = 0 ∧ F 1010 = 0 ∧ h'.nx = h.nx + 4 ∧ h'.su = h.su + 14 := by
  have ht := w.lt hk (by decide)
  have hv := w.lt vw.1.1 (by decide)
  have F1 := Fr.new w t 9 0 3 t (Nat.le_of_lt ht)
  have gs1 : va_up g h.nx t h.nx = t := va_up_self _ _ _
  obtain ⟨h2, g2, a1, a2, a3, a4, a5⟩ := sn_init (g := va_up g h.nx t) (h := h.new 9 0 3) (s := h.nx) (new_kd (n := 0) (sl := 3)) F1.wf N
  have nx1 : (h.new 9 0 3).nx = h.nx + 1 := rfl
  rw [nx1] at a2 a4
  have su2 : h2.su = h.su + 11 := by rw [a5]; rfl
  have F2 : Fr g g2 t h h2 := F1.trn w a3 (Nat.le_refl _)
  have k2t : h2.kd t = 10 := F2.kd w hk (by decide)
  have gs2 : g2 h.nx = t := (a3.1 h.nx (by rw [nx1]; omega)).trans gs1
  have F3 := Fr.sfr F2.wf (Un.rf g2 t) 1003 (some h.nx)
  have S3 : Sn g2 (h2.sfr 1003 t (some h.nx)) h.nx (h.nx + 1) (h.nx + 2) [] := a2.sfr 1003 t _ (by decide) (by decide)
  have k3t : (h2.sfr 1003 t (some h.nx)).kd t = 10 := k2t
  have r3 : (h2.sfr 1003 t (some h.nx)).fr 1003 t = some h.nx := fr_same
  have nx3 : (h2.sfr 1003 t (some h.nx)).nx = h.nx + 3 := a4
  have su3 : (h2.sfr 1003 t (some h.nx)).su = h.su + 11 := su2
  have F23 := F2.tr w F3
  have w3 := F3.wf
  have step0 : ∀ {z : Option (Hp × Unit)}, B_X7_init_19 N t ((h2.sfr 1003 t (some h.nx)).new 2 0 3) (some v) ro (some t) (some (h2.sfr 1003 t (some h.nx)).nx) = z → J_X7_init N t h (some v) ro = z := by
    intro z hz
    unfold J_X7_init B_X7_init_0 B_X7_init_8
    refine (dr_e (by exact rfl) (by exact new_kd (n := 0) (sl := 3))).trans ?_
    refine (bnd (by exact a1)).trans ?_
    unfold B_X7_init_12
    refine (dr_e (by exact rfl) (by exact k2t)).trans ?_
    exact hz
  generalize h2.sfr 1003 t (some h.nx) = h3 at *
  have F4 := Fr.new w3 t 2 0 3 t (by rw [nx3]; omega)
  have F4n := Fr.new w3 h3.nx 2 0 3 t (by rw [nx3]; omega)
  have gl4 : va_up g2 h3.nx t h3.nx = t := va_up_self _ _ _
  obtain ⟨h5, b1, b2, b3, b4, b5, b6⟩ := al_init (g := va_up g2 h3.nx t) (h := h3.new 2 0 3) (l := h3.nx) (new_kd (n := 0) (sl := 3)) (by rw [pj_new_fi, if_pos rfl]) F4.wf N
  have S4 : Sn (va_up g2 h3.nx t) (h3.new 2 0 3) h.nx (h.nx + 1) (h.nx + 2) [] := S3.fr w3 F4n (sep_ge w3 (Nat.le_refl _) (by rw [nx3]; omega))
  have gs4 : va_up g2 h3.nx t h.nx = t := by rw [va_up_ne _ _ (by rw [nx3]; omega)]; exact gs2
  have sls : Sep (va_up g2 h3.nx t) h3.nx h.nx := sep_sib F4.wf gl4 gs4 (by rw [nx3]; omega) (by rw [nx3]; omega) (by omega)
  have S5 := S4.fr F4.wf b3 sls
  have F45 : Fr g (va_up g2 h3.nx t) t h h5 := (F23.tr w F4).trq w b3 (fun a ha u => absurd (un_lt w ha u) (by rw [nx3]; omega))
  have k5t : h5.kd t = 10 := F45.kd w hk (by decide)
  have ntl : ¬ Un (va_up g2 h3.nx t) h3.nx t := nun_par F4.wf gl4 (by rw [nx3]; omega)
  have k4t : (h3.new 2 0 3).kd t = 10 := F4.kd w3 k3t (by decide)
  have r5 : h5.fr 1003 t = some h.nx := by
    rw [(b3.ag F4.wf k4t (by decide) ntl).fr 1003, pj_new_fr, if_neg (by rw [nx3]; omega)]
    exact r3
  have M5 : Mk g (va_up g2 h3.nx t) h h5 t h.nx (h.nx + 1) (h.nx + 2) h3.nx (some h.nx) (h5.fr 1004 t) (h5.fr 1002 t) := ⟨F45, k5t, S5, b2, gs4, gl4, r5, rfl, rfl⟩
  have nx5 : h5.nx = h.nx + 4 := by rw [b5]; show h3.nx + 1 = _; omega
  have su5 : h5.su = h.su + 14 := by rw [b6]; show h3.su + 3 = _; omega
  have step1 : ∀ {z : Option (Hp × Unit)}, B_X7_init_41 N t ((((h5.sfr 1004 t (some h3.nx)).sfi 1006 t 1).sfi 1007 t 0).sfi 1008 t 0) (some v) ro = z → J_X7_init N t h (some v) ro = z := by
    intro z hz
    refine step0 ?_
    unfold B_X7_init_19
    refine (dr_e (by exact rfl) (by exact new_kd (n := 0) (sl := 3))).trans ?_
    refine (bnd (by exact b1)).trans ?_
    unfold B_X7_init_23
    refine (dr_e (by exact rfl) (by exact k5t)).trans ?_
    exact hz
  have M6 := (((M5.sfr4 w (some h3.nx)).sfi w 1006 1 (by decide)).sfi w 1007 0 (by decide)).sfi w 1008 0 (by decide)
  have x6 : ((((h5.sfr 1004 t (some h3.nx)).sfi 1006 t 1).sfi 1007 t 0).sfi 1008 t 0).fi 1006 t = 1 ∧ ((((h5.sfr 1004 t (some h3.nx)).sfi 1006 t 1).sfi 1007 t 0).sfi 1008 t 0).fi 1007 t = 0 ∧ ((((h5.sfr 1004 t (some h3.nx)).sfi 1006 t 1).sfi 1007 t 0).sfi 1008 t 0).fi 1008 t = 0 ∧ ((((h5.sfr 1004 t (some h3.nx)).sfi 1006 t 1).sfi 1007 t 0).sfi 1008 t 0).nx = h.nx + 4 ∧ ((((h5.sfr 1004 t (some h3.nx)).sfi 1006 t 1).sfi 1007 t 0).sfi 1008 t 0).su = h.su + 14 := ⟨by rw [fi_oth (by decide), fi_oth (by decide)]; exact fi_same, by rw [fi_oth (by decide)]; exact fi_same, fi_same, by rw [pj_sfi_nx, pj_sfi_nx, pj_sfi_nx, pj_sfr_nx]; exact nx5, by rw [pj_sfi_su, pj_sfi_su, pj_sfi_su, pj_sfr_su]; exact su5⟩
  generalize ((((h5.sfr 1004 t (some h3.nx)).sfi 1006 t 1).sfi 1007 t 0).sfi 1008 t 0) = h6 at *
  have M7 := ((M6.sfi w 1009 0 (by decide)).sfi w 1010 0 (by decide)).sfr2 w (some v)
  have x7 : (((h6.sfi 1009 t 0).sfi 1010 t 0).sfr 1002 t (some v)).fi 1006 t = 1 ∧ (((h6.sfi 1009 t 0).sfi 1010 t 0).sfr 1002 t (some v)).fi 1007 t = 0 ∧ (((h6.sfi 1009 t 0).sfi 1010 t 0).sfr 1002 t (some v)).fi 1008 t = 0 ∧ (((h6.sfi 1009 t 0).sfi 1010 t 0).sfr 1002 t (some v)).fi 1009 t = 0 ∧ (((h6.sfi 1009 t 0).sfi 1010 t 0).sfr 1002 t (some v)).fi 1010 t = 0 ∧ (((h6.sfi 1009 t 0).sfi 1010 t 0).sfr 1002 t (some v)).nx = h.nx + 4 ∧ (((h6.sfi 1009 t 0).sfi 1010 t 0).sfr 1002 t (some v)).su = h.su + 14 := ⟨by rw [pj_sfr_fi, fi_oth (by decide), fi_oth (by decide)]; exact x6.1, by rw [pj_sfr_fi, fi_oth (by decide), fi_oth (by decide)]; exact x6.2.1, by rw [pj_sfr_fi, fi_oth (by decide), fi_oth (by decide)]; exact x6.2.2.1, by rw [pj_sfr_fi, fi_oth (by decide)]; exact fi_same, by rw [pj_sfr_fi]; exact fi_same, by rw [pj_sfr_nx, pj_sfi_nx, pj_sfi_nx]; exact x6.2.2.2.1, by rw [pj_sfr_su, pj_sfi_su, pj_sfi_su]; exact x6.2.2.2.2⟩
  have stv : Sep g t v := sep_roots hr vr (Ne.symm (ne_kd vw.1.1 hk (by decide)))
  have V7 := vw.fr w M7.1 (by rw [hk]; decide) stv
  have step2 : ∀ {z : Option (Hp × Unit)}, B_X7_init_64 N t ((((h6.sfi 1009 t 0).sfi 1010 t 0).sfr 1002 t (some v)).sfi 1000 t ow) (some v) ro = z → J_X7_init N t h (some v) ro = z := by
    intro z hz
    refine step1 ?_
    unfold B_X7_init_41
    refine (dr_e (by exact rfl) (by exact V7.1.1)).trans ?_
    rw [V7.1.2.2.2.2.1]
    exact hz
  generalize (((h6.sfi 1009 t 0).sfi 1010 t 0).sfr 1002 t (some v)) = h7 at *
  have M8 := M7.sfi w 1000 ow (by decide)
  have V8 := vw.fr w M8.1 (by rw [hk]; decide) stv
  have M9 := M8.sfi w 1001 st (by decide)
  have M10 := M9.sfi w 1005 ro (by decide)
  have V10 := vw.fr w M10.1 (by rw [hk]; decide) stv
  have o : ∀ f, f ≠ 1000 → f ≠ 1001 → f ≠ 1005 → (((h7.sfi 1000 t ow).sfi 1001 t st).sfi 1005 t ro).fi f t = h7.fi f t := fun f n1 n2 n3 => by rw [fi_oth n3, fi_oth n2, fi_oth n1]
  have e0 : (((h7.sfi 1000 t ow).sfi 1001 t st).sfi 1005 t ro).fi 1000 t = ow := by rw [fi_oth (by decide), fi_oth (by decide)]; exact fi_same
  have e1 : (((h7.sfi 1000 t ow).sfi 1001 t st).sfi 1005 t ro).fi 1001 t = st := by rw [fi_oth (by decide)]; exact fi_same
  obtain ⟨m1, m2, m3, m4, m5, m6, m7, m8, m9⟩ := M10
  refine ⟨((h7.sfi 1000 t ow).sfi 1001 t st).sfi 1005 t ro, va_up g2 h3.nx t, fun f => (((h7.sfi 1000 t ow).sfi 1001 t st).sfi 1005 t ro).fi f t, (v, O, lO, pl, h.nx, h.nx + 1, h.nx + 2, h3.nx), step2 ?_, ⟨m2, (m1.gg w hk (by decide)).trans hr, fun f => rfl, ⟨m9, (m1.gg w vw.1.1 (by decide)).trans vr, ?_, fun k => rfl, List.Pairwise.nil⟩, ⟨m7, m5, m3, fun y hy => absurd hy List.not_mem_nil, fun i j x y _ hi => by simp at hi⟩, m8, m6, ?_, fun y hy => absurd hy List.not_mem_nil⟩, rfl, m1, e0, e1, fi_same, (o _ (by decide) (by decide) (by decide)).trans x7.1, (o _ (by decide) (by decide) (by decide)).trans x7.2.1, (o _ (by decide) (by decide) (by decide)).trans x7.2.2.1, (o _ (by decide) (by decide) (by decide)).trans x7.2.2.2.1, (o _ (by decide) (by decide) (by decide)).trans x7.2.2.2.2.1, by rw [pj_sfi_nx, pj_sfi_nx, pj_sfi_nx]; exact x7.2.2.2.2.2.1, by rw [pj_sfi_su, pj_sfi_su, pj_sfi_su]; exact x7.2.2.2.2.2.2⟩
  · unfold B_X7_init_64
    refine (dr_e (by exact rfl) (by exact V8.1.1)).trans ?_
    rw [V8.1.2.2.2.1]
    unfold B_X7_init_82
    rcases hro with z | z
    · rw [z]
      refine (if_pos (by rfl)).trans ?_
      refine (dr_e (by exact rfl) (by exact M9.2.1)).trans ?_
      rfl
    · rw [z]
      refine (if_neg (by decide)).trans ?_
      refine (dr_e (by exact rfl) (by exact M9.2.1)).trans ?_
      rfl
  · show VW _ _ v S O lO pl ((((h7.sfi 1000 t ow).sfi 1001 t st).sfi 1005 t ro).fi 1001 t) ((((h7.sfi 1000 t ow).sfi 1001 t st).sfi 1005 t ro).fi 1000 t) [] [] 0
    rw [e0, e1]
    exact V10
  · exact m4
