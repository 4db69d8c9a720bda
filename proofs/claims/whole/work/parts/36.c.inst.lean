theorem cap_sfi (h : Hp) (f a : Nat) (v : Int32) (l : Nat) : cap (h.sfi f a v) l = cap h l := by unfold cap; rw [pj_sfi_fr, pj_sfi_se, pj_sfi_al]
theorem cap_sfl (h : Hp) (f a : Nat) (v : Int64) (l : Nat) : cap (h.sfl f a v) l = cap h l := by unfold cap; rw [pj_sfl_fr, pj_sfl_se, pj_sfl_al]
theorem cap_sai (h : Hp) (a i : Nat) (v : Int32) (l : Nat) : cap (h.sai a i v) l = cap h l := by unfold cap; rw [pj_sai_fr, pj_sai_se, pj_sai_al]
theorem cap_sfr (h : Hp) (f a : Nat) (v : Option Nat) (l : Nat) (n : f ≠ 201) : cap (h.sfr f a v) l = cap h l := by unfold cap; rw [fr_oth (Ne.symm n), pj_sfr_se, pj_sfr_al]
theorem srt_nil : Srt [] := fun i j y z _ hi => by simp at hi
theorem sh_nil {g : Nat → Nat} {h : Hp} {s l : Nat} (hk : h.kd s = 8) (hr : h.fr 800 s = some l) (hg : g l = s) (a : Al g h l []) : Sh g h s l [] := ⟨hk, hr, hg, srt_nil, fun y hy => absurd hy List.not_mem_nil, [], a, rfl, fun i c y hc => by simp at hc⟩
theorem sh_nil_al {g : Nat → Nat} {h : Hp} {s l : Nat} (q : Sh g h s l []) : Al g h l [] := by
  obtain ⟨-, -, -, -, -, cs, b6, b7, -⟩ := q
  cases cs with
  | nil => exact b6
  | cons c r => cases b7
/-- a new shelf -/
theorem sh_init {g : Nat → Nat} {h : Hp} {s : Nat} (hk : h.kd s = 8) (w : Wf g h) (N : Nat) : ∃ h', J_X5_init N s h = some (h', ()) ∧ Sh (va_up g h.nx s) h' s h.nx [] ∧ Fr g (va_up g h.nx s) s h h' ∧ cap h' h.nx = 0 ∧ h'.nx = h.nx + 1 ∧ h'.su = h.su + 3 := by
  have hs := w.lt hk (by decide)
  have F1 := Fr.new w s 2 0 3 s (Nat.le_of_lt hs)
  obtain ⟨h2, e1, e2, e3, e4, e5, e6⟩ := al_init (g := va_up g h.nx s) (h := h.new 2 0 3) (l := h.nx) (new_kd (n := 0) (sl := 3)) (by rw [pj_new_fi, if_pos rfl]) F1.wf N
  have F3 := Fr.sfr e3.wf (Un.rf (va_up g h.nx s) s) 800 (some h.nx)
  have ks : h2.kd s = 8 := e3.kd F1.wf (F1.kd w hk (by decide)) (by decide)
  refine ⟨h2.sfr 800 s (some h.nx), ?_, sh_nil ks fr_same (va_up_self _ _ _) (e2.sfr (Or.inr (by decide))), (F1.trn w e3 (Nat.le_refl _)).tr w F3, ?_, e5, e6⟩
  · unfold J_X5_init B_X5_init_0 B_X5_init_8
    refine (dr_e (by exact rfl) (by exact new_kd (n := 0) (sl := 3))).trans ?_
    refine (bnd (by exact e1)).trans ?_
    unfold B_X5_init_12
    refine (dr_e (by exact rfl) (by exact ks)).trans ?_
    rfl
  · unfold cap at *
    rw [pj_sfr_fr, if_neg (by decide)]
    exact e4
/-- the end of a view's making -/
theorem vw_f4 {g : Nat → Nat} {h4 : Hp} {v S O lO pl : Nat} (w : Wf g h4) (kv : h4.kd v = 11) (q4 : h4.fr 1100 v = some S) (f4 : h4.fr 1103 v = some O) (gO : g O = v) (S4 : Sh g h4 O lO []) (p4 : h4.fr 1104 v = some pl) (kp : h4.kd pl = 20) (gp : g pl = v) (lp : h4.al pl = 10) (y1 : h4.fi 1105 v = nI 0) (y2 : h4.fi 1106 v = nI 0) (st ow : Int32) : VW g ((h4.sfi 1101 v st).sfi 1102 v ow) v S O lO pl st ow [] [] 0 ∧ Fr g g v h4 ((h4.sfi 1101 v st).sfi 1102 v ow) := by
  have G5 := Fr.sfi w (Un.rf g v) 1101 st
  have G6 := Fr.sfi G5.wf (Un.rf g v) 1102 ow
  have e1 : ((h4.sfi 1101 v st).sfi 1102 v ow).fi 1101 v = st := by rw [fi_oth (by decide)]; exact fi_same
  have e2 : ((h4.sfi 1101 v st).sfi 1102 v ow).fi 1105 v = nI 0 := by rw [fi_oth (by decide), fi_oth (by decide)]; exact y1
  have e3 : ((h4.sfi 1101 v st).sfi 1102 v ow).fi 1106 v = nI 0 := by rw [fi_oth (by decide), fi_oth (by decide)]; exact y2
  have S5 := (S4.sfi 1101 v st (by decide)).sfi 1102 v ow (by decide)
  exact ⟨⟨⟨kv, q4, f4, e1, fi_same, gO, S4.1, p4, kp, gp, lp, Nat.zero_le _, e2, fun i p hp => by simp at hp, e3, by decide, fun p hp => absurd hp List.not_mem_nil⟩, S5⟩, G5.tr w G6⟩
theorem vw_f3 {g : Nat → Nat} {h : Hp} {v S O lO : Nat} (w : Wf g h) (fv : h.fr 1103 v = some O) (sO : Sh g h O lO []) (c : cap h lO = 0) : Fr g g v h (((h.sfi 1105 v 0).sfi 1106 v 0).sfr 1100 v (some S)) ∧ Sh g (((h.sfi 1105 v 0).sfi 1106 v 0).sfr 1100 v (some S)) O lO [] ∧ (((h.sfi 1105 v 0).sfi 1106 v 0).sfr 1100 v (some S)).fr 1100 v = some S ∧ (((h.sfi 1105 v 0).sfi 1106 v 0).sfr 1100 v (some S)).fr 1103 v = some O ∧ (((h.sfi 1105 v 0).sfi 1106 v 0).sfr 1100 v (some S)).fi 1105 v = nI 0 ∧ (((h.sfi 1105 v 0).sfi 1106 v 0).sfr 1100 v (some S)).fi 1106 v = nI 0 ∧ cap (((h.sfi 1105 v 0).sfi 1106 v 0).sfr 1100 v (some S)) lO = 0 := by
  have G2 := Fr.sfi w (Un.rf g v) 1105 0
  have G3 := Fr.sfi G2.wf (Un.rf g v) 1106 0
  have G4 := Fr.sfr G3.wf (Un.rf g v) 1100 (some S)
  have a1 := ((sh_nil_al sO).sfi 1105 v 0 (by decide)).sfi 1106 v 0 (by decide)
  have a2 : Al g (((h.sfi 1105 v 0).sfi 1106 v 0).sfr 1100 v (some S)) lO [] := a1.sfr (Or.inr (by decide))
  refine ⟨(G2.tr w G3).tr w G4, sh_nil sO.1 ?_ sO.2.2.1 a2, fr_same, ?_, ?_, ?_, ?_⟩
  · rw [fr_oth (by decide), pj_sfi_fr, pj_sfi_fr]; exact sO.2.1
  · rw [fr_oth (by decide), pj_sfi_fr, pj_sfi_fr]; exact fv
  · rw [pj_sfr_fi, fi_oth (by decide)]; exact fi_same
  · rw [pj_sfr_fi]; exact fi_same
  · unfold cap at *
    rw [pj_sfr_fr, if_neg (by decide), pj_sfi_fr, pj_sfi_fr]
    exact c
theorem vw_fin {g : Nat → Nat} {h : Hp} {v S O lO pl : Nat} (w : Wf g h) (kv : h.kd v = 11) (fv : h.fr 1103 v = some O) (gO : g O = v) (sO : Sh g h O lO []) (kp : h.kd pl = 20) (gp : g pl = v) (lp : h.al pl = 10) (c : cap h lO = 0) (N : Nat) (st ow : Int32) : ∃ h', B_X8_init_20 N v h (some S) st ow (some v) (some pl) = some (h', ()) ∧ VW g h' v S O lO pl st ow [] [] 0 ∧ Fr g g v h h' ∧ cap h' lO = 0 ∧ h'.nx = h.nx ∧ h'.su = h.su := by
  have G1 := Fr.sfr w (Un.rf g v) 1104 (some pl)
  have S1 : Sh g (h.sfr 1104 v (some pl)) O lO [] := sh_nil sO.1 ((fr_oth (by decide)).trans sO.2.1) sO.2.2.1 ((sh_nil_al sO).sfr (Or.inr (by decide)))
  have c1 : cap (h.sfr 1104 v (some pl)) lO = 0 := by
    unfold cap at *
    rw [pj_sfr_fr, if_neg (by decide)]
    exact c
  obtain ⟨b1, b2, b3, b4, b5, b6, b7⟩ := vw_f3 (S := S) G1.wf ((fr_oth (by decide)).trans fv) S1 c1
  have p4 : ((((h.sfr 1104 v (some pl)).sfi 1105 v 0).sfi 1106 v 0).sfr 1100 v (some S)).fr 1104 v = some pl := by rw [fr_oth (by decide), pj_sfi_fr, pj_sfi_fr]; exact fr_same
  have kv4 : ((((h.sfr 1104 v (some pl)).sfi 1105 v 0).sfi 1106 v 0).sfr 1100 v (some S)).kd v = 11 := by rw [pj_sfr_kd, pj_sfi_kd, pj_sfi_kd, pj_sfr_kd]; exact kv
  have kp4 : ((((h.sfr 1104 v (some pl)).sfi 1105 v 0).sfi 1106 v 0).sfr 1100 v (some S)).kd pl = 20 := by rw [pj_sfr_kd, pj_sfi_kd, pj_sfi_kd, pj_sfr_kd]; exact kp
  have lp4 : ((((h.sfr 1104 v (some pl)).sfi 1105 v 0).sfi 1106 v 0).sfr 1100 v (some S)).al pl = 10 := by rw [pj_sfr_al, pj_sfi_al, pj_sfi_al, pj_sfr_al]; exact lp
  obtain ⟨d1, d2⟩ := vw_f4 b1.wf kv4 b3 b4 gO b2 p4 kp4 gp lp4 b5 b6 st ow
  refine ⟨_, ?_, d1, (G1.tr w b1).tr w d2, by rw [cap_sfi, cap_sfi]; exact b7, by rw [pj_sfi_nx, pj_sfi_nx, pj_sfr_nx, pj_sfi_nx, pj_sfi_nx, pj_sfr_nx], by rw [pj_sfi_su, pj_sfi_su, pj_sfr_su, pj_sfi_su, pj_sfi_su, pj_sfr_su]⟩
  unfold B_X8_init_20
  rw [dr_e (by rfl) kv]
  unfold B_X8_init_38
  rfl
/-- a new view -/
theorem vw_init {g : Nat → Nat} {h : Hp} {v S : Nat} (hk : h.kd v = 11) (w : Wf g h) (N : Nat) (st ow : Int32) : ∃ h' g', J_X8_init N v h (some S) st ow = some (h', ()) ∧ VW g' h' v S h.nx (h.nx + 1) (h.nx + 2) st ow [] [] 0 ∧ Fr g g' v h h' ∧ cap h' (h.nx + 1) = 0 ∧ h'.nx = h.nx + 3 ∧ h'.su = h.su + 14 := by
  have hv := w.lt hk (by decide)
  have F1 := Fr.new w v 8 0 1 v (Nat.le_of_lt hv)
  obtain ⟨h2, e1, e2, e3, e4, e5, e6⟩ := sh_init (g := va_up g h.nx v) (h := h.new 8 0 1) (s := h.nx) (new_kd (n := 0) (sl := 1)) F1.wf N
  have nx1 : (h.new 8 0 1).nx = h.nx + 1 := rfl
  rw [nx1] at e2 e3 e4 e5
  have kv1 : (h.new 8 0 1).kd v = 11 := F1.kd w hk (by decide)
  have kv2 : h2.kd v = 11 := e3.kd F1.wf kv1 (by decide)
  have F12 := F1.trn w e3 (Nat.le_refl _)
  have F3 := Fr.sfr e3.wf (Un.rf (va_up (va_up g h.nx v) (h.nx + 1) h.nx) v) 1103 (some h.nx)
  have F123 := F12.tr w F3
  have nx3 : (h2.sfr 1103 v (some h.nx)).nx = h.nx + 2 := e5
  have F4 := Fr.new F3.wf v 20 10 10 v (by rw [nx3]; omega)
  rw [nx3] at F4
  have F1234 := F123.tr w F4
  generalize hh4 : (h2.sfr 1103 v (some h.nx)).new 20 10 10 = h4 at F4 F1234
  have nx4 : h4.nx = h.nx + 3 := by rw [← hh4]; show h2.nx + 1 = _; rw [e5]
  have su4 : h4.su = h.su + 14 := by rw [← hh4]; show h2.su + 10 = _; rw [e6]; rfl
  have kv4 : h4.kd v = 11 := F4.kd F3.wf kv2 (by decide)
  have kO4 : h4.kd h.nx = 8 := F4.kd F3.wf (show h2.kd h.nx = 8 from e2.1) (by decide)
  have kp4 : h4.kd (h.nx + 2) = 20 := by rw [← hh4]; have := new_kd (h := h2.sfr 1103 v (some h.nx)) (k := 20) (n := 10) (sl := 10); rw [nx3] at this; exact this
  have lp4 : h4.al (h.nx + 2) = 10 := by rw [← hh4, pj_new_al, if_pos nx3.symm]
  have fv4 : h4.fr 1103 v = some h.nx := by
    rw [← hh4, pj_new_fr, if_neg (by rw [nx3]; omega)]
    exact fr_same
  have gO : (va_up (va_up (va_up g h.nx v) (h.nx + 1) h.nx) (h.nx + 2) v) h.nx = v := by rw [va_up_ne _ _ (by omega), va_up_ne _ _ (by omega), va_up_self]
  have gp : (va_up (va_up (va_up g h.nx v) (h.nx + 1) h.nx) (h.nx + 2) v) (h.nx + 2) = v := va_up_self _ _ _
  have S3 : Sh (va_up (va_up g h.nx v) (h.nx + 1) h.nx) (h2.sfr 1103 v (some h.nx)) h.nx (h.nx + 1) [] := sh_nil e2.1 ((fr_oth (by decide)).trans e2.2.1) e2.2.2.1 ((sh_nil_al e2).sfr (Or.inr (by decide)))
  have F4' := Fr.new F3.wf (h.nx + 2) 20 10 10 v (by rw [nx3]; omega)
  rw [nx3, hh4] at F4'
  have S4 : Sh (va_up (va_up (va_up g h.nx v) (h.nx + 1) h.nx) (h.nx + 2) v) h4 h.nx (h.nx + 1) [] := S3.fr F3.wf F4' (kd_ge F3.wf (by rw [nx3]; exact Nat.le_refl _) (by decide)) (sep_ge F3.wf (by rw [nx3]; exact Nat.le_refl _) (by rw [nx3]; omega))
  have c4 : cap h4 (h.nx + 1) = 0 := by
    have z : cap (h2.sfr 1103 v (some h.nx)) (h.nx + 1) = 0 := by
      unfold cap at *
      rw [pj_sfr_fr, if_neg (by decide)]
      exact e4
    rw [cap_fr (sh_nil_al S3) F3.wf F4' (sep_ge F3.wf (by rw [nx3]; exact Nat.le_refl _) (by rw [nx3]; omega))]
    exact z
  obtain ⟨h5, r1, r2, r3, r4, r5, r6⟩ := vw_fin (S := S) F4.wf kv4 fv4 gO S4 kp4 gp lp4 c4 N st ow
  refine ⟨h5, _, ?_, r2, F1234.tr w r3, r4, r5.trans nx4, r6.trans su4⟩
  unfold J_X8_init B_X8_init_0 B_X8_init_8
  refine (dr_e (by exact rfl) (by exact new_kd (n := 0) (sl := 1))).trans ?_
  refine (bnd (by exact e1)).trans ?_
  unfold B_X8_init_12
  refine (dr_e (by exact rfl) (by exact kv2)).trans ?_
  refine (ck_eq (by exact ⟨by decide, by decide⟩)).trans ?_
  rw [show (10 : Int32).toNatClampNeg = 10 from rfl, hh4, nx3]
  exact r1
/-- what a commit puts into the store: of each key the last write -/
def instE (m ow : Int32) (y : Int32 × List Ent) : Kv := (y.1, m, ow, (match y.2 with | e :: _ => e.2.2 | [] => (0, 0)))
def inst (A : Shf) (m ow : Int32) : List Kv := A.map (instE m ow)
def Ins (h h' : Hp) (l c n : Nat) : Prop := h'.su + 4 * cap h l ≤ h.su + 7 * c + 4 * cap h' l ∧ cap h l ≤ cap h' l ∧ cap h' l ≤ max (cap h l) (2 * n + 10) ∧ h'.nx ≤ h.nx + 3 * c
theorem inst_loop {v S lS O lO pl : Nat} {st ow : Int32} {A : Shf} {P : List Nat} {n : Nat} {V : List Kv} (N : Nat) (hN : 100000 < N) (m : Int32) (hV : V.length + A.length < 90000) : ∀ (c i F : Nat) (g : Nat → Nat) (h : Hp) (B : Shf), c = A.length - i → i ≤ A.length → c < F → VW g h v S O lO pl st ow A P n → Sh g h S lS B → BkL B (V ++ inst (A.take i) m ow) → Wf g h → Sep g S v → ∃ h' g' B', L_X8_install_2 N v F h m (nI i) = some (h', ()) ∧ Sh g' h' S lS B' ∧ BkL B' (V ++ inst A m ow) ∧ Fr g g' S h h' ∧ Ins h h' lS c (V.length + A.length) := by
  intro c
  induction c with
  | zero =>
    intro i F g h B hc hi hF q s b w sp
    obtain ⟨F, rfl⟩ : ∃ F', F = F' + 1 := ⟨F - 1, by omega⟩
    have hA := sh_len q.2
    refine ⟨h, g, B, ?_, s, ?_, Fr.rf w S, ?_⟩
    · show B_X8_install_2 N _ v h m (nI i) = _
      unfold B_X8_install_2
      refine (dr_e (by exact q.1.2.2.1) (by exact q.2.1)).trans ?_
      refine (bnd (by exact sh_size q.2 N)).trans ?_
      unfold B_X8_install_10
      refine (if_pos (by exact (ni_le (by omega) (by omega)).mpr (by omega))).trans ?_
      rfl
    · rw [List.take_of_length_le (by omega)] at b
      exact b
    · unfold Ins; omega
  | succ c ih =>
    intro i F g h B hc hi hF q s b w sp
    obtain ⟨F, rfl⟩ : ∃ F', F = F' + 1 := ⟨F - 1, by omega⟩
    have hA := sh_len q.2
    have hlt : i < A.length := by omega
    have hy : A[i]? = some A[i] := List.getElem?_eq_getElem hlt
    obtain ⟨x, e1, e2, -⟩ := sh_chainAt q.2 N hy
    have hne := sh_nonempty q.2 hy
    obtain ⟨kx, e5⟩ : ∃ kx, A[i] = kx := ⟨_, rfl⟩
    rw [e5] at hy e2 hne
    obtain ⟨k, ch⟩ := kx
    obtain ⟨x1, x2, x3, x4, x5⟩ := e2
    cases ch with
    | nil => exact absurd rfl hne
    | cons e r =>
      obtain ⟨a, y1, y2, y3, y4⟩ := x4
      have hBl : B.length ≤ V.length + i := by
        rw [bk_len s.2.2.2.1 s.2.2.2.2.1 b]
        refine Nat.le_trans (nk_le _) ?_
        rw [List.length_append]
        unfold inst
        rw [List.length_map, List.length_take]
        omega
      have hlk : (look B k).length ≤ V.length + i := by
        rw [b k]
        refine Nat.le_trans (chn_le _ _) ?_
        rw [List.length_append]
        unfold inst
        rw [List.length_map, List.length_take]
        omega
      obtain ⟨h2, g2, B2, p1, p2, p3, p4, p5, p6⟩ := sh_put s w N hN k (m, ow, e.2.2) y3.2.2.2.2.2 (by omega) (by omega)
      have q2 := q.fr w p5 (by rw [s.1]; decide) sp
      have sp2 : Sep g2 S v := p5.sep w (w.lt s.1 (by decide)) (w.lt q.1.1 (by decide)) sp
      have b2 : BkL B2 (V ++ inst (A.take (i + 1)) m ow) := by
        intro k'
        rw [p3 k', List.take_succ, hy]
        unfold inst
        rw [List.map_append, ← List.append_assoc]
        show _ = chn (V ++ List.map (instE m ow) (A.take i) ++ [(k, m, ow, e.2.2)]) k'
        rw [chn_add]
        by_cases z : k' = k
        · rw [if_pos z, if_pos z, b k]; rfl
        · rw [if_neg z, if_neg z, b k']; rfl
      obtain ⟨h3, g3, B3, r1, r2, r3, r4, r5⟩ := ih (i + 1) F g2 h2 B2 (by omega) (by omega) (by omega) q2 p2 b2 p5.wf sp2
      refine ⟨h3, g3, B3, ?_, r2, r3, p5.tr w r4, ?_⟩
      · show B_X8_install_2 N (L_X8_install_2 N v F) v h m (nI i) = _
        unfold B_X8_install_2
        refine (dr_e (by exact q.1.2.2.1) (by exact q.2.1)).trans ?_
        refine (bnd (by exact sh_size q.2 N)).trans ?_
        unfold B_X8_install_10
        refine (if_neg (by exact fun z => by rw [ni_le (by omega) (by omega)] at z; omega)).trans ?_
        refine (dr_e (by exact q.1.2.2.1) (by exact q.2.1)).trans ?_
        refine (bnd (by exact e1)).trans ?_
        unfold B_X8_install_21
        refine (nl_so (by exact rfl)).trans ?_
        refine (ck_eq (by exact x1)).trans ?_
        refine (nl_so (by exact y1)).trans ?_
        refine (dr_e (by exact y1) (by exact y3.1)).trans ?_
        refine (dr_e (by exact y1) (by exact y3.1)).trans ?_
        refine (dr_e (by exact q.1.2.1) (by exact s.1)).trans ?_
        rw [x3, q.1.2.2.2.2.1, y3.2.2.2.1, y3.2.2.2.2.1]
        refine (bnd (by exact p1)).trans ?_
        unfold B_X8_install_63
        rw [ni_inc]
        exact r1
      · unfold Ins Pt at *
        omega
theorem vw_install {g : Nat → Nat} {h : Hp} {v S lS O lO pl : Nat} {st ow : Int32} {A B : Shf} {P : List Nat} {n : Nat} {V : List Kv} (q : VW g h v S O lO pl st ow A P n) (s : Sh g h S lS B) (b : BkL B V) (w : Wf g h) (sp : Sep g S v) (N : Nat) (hN : 100000 < N) (m : Int32) (hV : V.length + A.length < 90000) : ∃ h' g' B', J_X8_install N v h m = some (h', ()) ∧ Sh g' h' S lS B' ∧ BkL B' (V ++ inst A m ow) ∧ Fr g g' S h h' ∧ Ins h h' lS A.length (V.length + A.length) := by
  have hA := sh_len q.2
  exact inst_loop N hN m hV A.length 0 N g h B rfl (Nat.zero_le _) (by omega) q s (by show BkL B (V ++ []); rw [List.append_nil]; exact b) w sp
