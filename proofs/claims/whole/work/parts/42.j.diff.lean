section DK
variable {p : Nat → Nat} {G : Nat → Int32} {fv : Int64} {lr : Option Nat} {B : Shf} {V : List Kv} {ts : List Nat} {D : Nat → TD} {ac cm ot : List Nat} {ct rs : Nat → Int32} {R : List (Int32 × Int64)} {cO : Nat}
def ncl (D : Nat → TD) (cm : List Nat) (x : Nat) : Nat := match cm[x]? with
  | some j => (D j).2.2.2.2.2.2.2.length
  | none => 0
def Rdo (h h' : Hp) (l k c n : Nat) : Prop := h'.su + 4 * cap h l ≤ h.su + 61 * k + 22 * c + 4 * cap h' l ∧ cap h l ≤ cap h' l ∧ cap h' l ≤ max (cap h l) (2 * n + 10) ∧ h'.nx ≤ h.nx + 4 * k + 6 * c
theorem di_out {au ah od S lS T : Nat} {ord : List Nat} (hord : ord.length = cm.length) (hox : ∀ x ∈ ord, x < cm.length) (hcm : ∀ i ∈ cm, i < ts.length) (hS : p 0 ≠ S) (hT : T < 80000) (hok : ∀ j ∈ cm, OkC (D j).2.2.2.2.2.2.2 [] 0) (N : Nat) (hN : 1000000 < N) : ∀ (c i F : Nat) (g : Nat → Nat) (h : Hp) (d0 : AnD) (BS : Shf) (W : List Kv) (m : Nat), c = ord.length - i → i ≤ ord.length → c < F → Kr g h p G fv lr B V ts D ac cm ot ct rs d0 R cO → Wf g h → Au g h au (p 0) (p 4) cm.length ah od → Odr h od ord → g S = S → Sh g h S lS BS → BkL BS W → Asc W → (∀ x ∈ W, x.2.1 ≤ nI i) → W.length + ((ord.drop i).map (ncl D cm)).sum ≤ T → ∃ h' g' d' W' m', L_X1_differences_13 N au F h (some (p 7)) (some S) (nI m) (nI i) = some (h', nI (m' + B.countP (fun y => decide (thr1 y.2 ≠ thr1 (chn W' y.1))))) ∧ RepA D cm (ord.drop i) i W m W' m' ∧ Kr g' h' p G fv lr B V ts D ac cm ot ct rs d' R cO ∧ Wf g' h' ∧ Rdo h h' lS c ((ord.drop i).map (ncl D cm)).sum T := by
  intro c
  induction c with
  | zero =>
    intro i F g h d0 BS W m hc hi hF q w a o gS sh bS as st hW
    obtain ⟨F, rfl⟩ : ∃ F', F = F' + 1 := ⟨F - 1, by omega⟩
    have a15 := a.2.2.2.2.2.2.2.2.2.2.2.2.2.2
    have hB := sh_len q.2.1.2.1
    have ok := ok_loop q a sh bS N (by omega) B.length 0 0 N rfl (Nat.zero_le _) (by omega)
    rw [List.drop_zero, Nat.zero_add] at ok
    have e : (fun y : Int32 × List Ent => decide (thr1 y.2 ≠ thr1 (look BS y.1))) = fun y => decide (thr1 y.2 ≠ thr1 (chn W y.1)) := by
      funext y
      rw [bS]
    rw [e] at ok
    refine ⟨h, g, d0, W, m, ?_, by rw [List.drop_eq_nil_of_le (by omega)]; exact ⟨rfl, rfl⟩, q, w, ?_⟩
    · show B_X1_differences_13 N _ au h (some (p 7)) (some S) (nI m) (nI i) = _
      unfold B_X1_differences_13
      rw [a.2.2.2.2.1]
      refine (if_pos (by exact (ni_le (by omega) (by omega)).mpr (by omega))).trans ?_
      refine (bnd (by exact ok)).trans ?_
      unfold B_X1_differences_147
      show some (h, nI m + nI _) = _
      rw [nI_add]
    · rw [List.drop_eq_nil_of_le (by omega)]
      exact ⟨by show _ ≤ _ + 61 * 0 + 22 * 0 + _; omega, Nat.le_refl _, Nat.le_max_left _ _, by omega⟩
  | succ c ih =>
    intro i F g h d0 BS W m hc hi hF q w a o gS sh bS as st hW
    obtain ⟨F, rfl⟩ : ∃ F', F = F' + 1 := ⟨F - 1, by omega⟩
    obtain ⟨a1, a2, a3, a4, a5, a6, a7, a8, a9, a10, a11, a12, a13, a14, a15⟩ := id a
    have hlt : i < ord.length := by omega
    have hx : ord[i]? = some ord[i] := List.getElem?_eq_getElem hlt
    have dk : ord.drop i = ord[i] :: ord.drop (i + 1) := List.drop_eq_getElem_cons hlt
    generalize ord[i] = x at hx dk
    have hxn := hox x (List.mem_of_getElem? hx)
    have hj : cm[x]? = some cm[x] := List.getElem?_eq_getElem hxn
    have hjm := List.mem_of_getElem? hj
    generalize cm[x] = j at hj hjm
    have hu := adr_get (hcm j hjm)
    have tt := q.2.2.2.2.2.2.2.2.2.2.1 _ _ hu
    have hncl : ncl D cm x = (D j).2.2.2.2.2.2.2.length := by unfold ncl; rw [hj]
    rw [dk, List.map_cons, List.sum_cons, hncl] at hW
    -- the view
    have F1 := Fr.new w h.nx 11 0 7 h.nx (Nat.le_refl _)
    have kv1 : (h.new 11 0 7).kd h.nx = 11 := new_kd (n := 0) (sl := 7)
    have gv1 : va_up g h.nx h.nx h.nx = h.nx := va_up_self _ _ _
    obtain ⟨h2, g2, b1, b2, b3, b4, b5, b6⟩ := vw_init (S := S) kv1 F1.wf N (nI i) ((D j).1 1000)
    have nx1 : (h.new 11 0 7).nx = h.nx + 1 := rfl
    have su1 : (h.new 11 0 7).su = h.su + 7 := rfl
    rw [nx1] at b2 b4 b5
    have F2 : Fr g g2 h.nx h h2 := F1.tr w b3
    have q1 := q.new w (Nat.le_refl _) F1
    have q2 := q.new w (Nat.le_refl _) F2
    have lS0 : S < h.nx := w.lt sh.1 (by decide)
    have la0 : au < h.nx := w.lt a1 (by decide)
    have alS := sh.2.2.2.2.2
    obtain ⟨cs0, al0, -⟩ := alS
    have hlS : lS < h.nx := w.lt al0.1 (by decide)
    have sh2 := sh.fr w F2 (kd_ge w (Nat.le_refl _) (by decide)) (sep_ge w (Nat.le_refl _) lS0)
    have au2 := a.fr w F2 (sep_ge w (Nat.le_refl _) la0)
    have cap2 : cap h2 lS = cap h lS := cap_fr al0 w F2 (sep_ge w (Nat.le_refl _) hlS)
    have o2 : h2.ai od = h.ai od := (F2.ag w a12 (by decide) (sep_ge w (Nat.le_refl _) (w.lt a12 (by decide))).1).ai
    have gS2 : g2 S = S := (F2.1 S lS0).trans gS
    have gv2 : g2 h.nx = h.nx := (b3.1 h.nx (by rw [nx1]; omega)).trans gv1
    have hv : ∀ (j u : Nat), ts[j]? = some u → (D j).2.1.1 ≠ h.nx := fun j u hu => by
      have := w.lt (q.2.2.2.2.2.2.2.2.2.2.1 j u hu).2.2.2.1.2.2.1.1.1 (by decide)
      omega
    have hcl := tt.2.2.2.2.2.2.2.1.2.1
    rw [List.length_map] at hcl
    obtain ⟨h3, g3, d3, A3, L3, P3, n3, m3, f1, f2, f3, f4, f5, f6, f7, f8, f9, f10, f11, f12, f13⟩ := di_in (au := au) (lS := lS) (n0 := (D j).2.2.2.2.2.2.2.length) hu hv hS (by omega) N hN (some S) (nI i) (L_X1_differences_13 N au F) (D j).2.2.2.2.2.2.2.length 0 N g2 h2 d0 [] BS [] [] 0 m rfl (Nat.zero_le _) (by omega) q2 F2.wf gv2 gS2 b2 sh2 (fun k => rfl) bS List.Pairwise.nil (fun x hx => absurd hx List.not_mem_nil) (Nat.le_refl _) (Nat.zero_le _) (by omega) (by rw [List.drop_zero]; exact hok j hjm)
    rw [List.drop_zero] at f2
    have k92 := q2.2.2.2.2.2.2.2.2.1
    have sva : Sep g2 h.nx au := sep_roots gv2 au2.2.1 (by omega)
    have ssa : Sep g2 (p 7) au := sep_roots k92.2.1 au2.2.1 (ne_kd k92.1 au2.1 (by decide))
    obtain ⟨au3, o3, -⟩ := au2.fr2 F2.wf f13 sva ssa
    have hA3 : A3.length ≤ (D j).2.2.2.2.2.2.2.length := by
      rw [bk_len f7.2.2.2.2.1 f7.2.2.2.2.2.1 f9]
      exact Nat.le_trans (nk_le _) f10
    have spv : Sep g3 S h.nx := sep_roots f6 f5 (ne_kd f8.1 f7.1.1 (by decide))
    obtain ⟨h4, g4, BS4, i1, i2, i3, i4, i5⟩ := vw_install f7 f8 bS f4 spv N (by omega) (nI (i + 1)) (by omega)
    have q4 := f3.out f4 f6 (Or.inr (Or.inl ⟨f8.1, hS⟩)) i4
    have ssS : Sep g3 S au := sep_roots f6 au3.2.1 (ne_kd f8.1 au3.1 (by decide))
    have au4 := au3.fr f4 i4 ssS
    have o4 : h4.ai od = h3.ai od := (i4.ag f4 au3.2.2.2.2.2.2.2.2.2.2.2.1 (by decide) (ssS.ch au3.2.2.2.2.2.2.2.2.2.2.2.2.1).1).ai
    have od4 : Odr h4 od ord := fun a b hab => by rw [o4, o3, o2]; exact o a b hab
    have gS4 : g4 S = S := (i4.gg f4 f8.1 (by decide)).trans f6
    have il : ∀ y ∈ inst A3 (nI (i + 1)) ((D j).1 1000), y.2.1 = nI (i + 1) := fun y hy => by
      obtain ⟨z, -, rfl⟩ := List.mem_map.mp hy
      rfl
    have st4 : ∀ y ∈ W, y.2.1 ≤ nI (i + 1) := fun y hy => Int32.le_trans (st y hy) ((ni_le (by omega) (by omega)).mpr (by omega))
    have as4 : Asc (W ++ inst A3 (nI (i + 1)) ((D j).1 1000)) := List.pairwise_append.mpr ⟨as, by
      unfold inst
      rw [List.pairwise_map]
      exact List.Pairwise.imp (fun _ => Int32.le_refl _) (List.pairwise_of_forall (R := fun _ _ => True) (fun _ _ => trivial)), fun y hy z hz => by rw [il z hz]; exact st4 y hy⟩
    obtain ⟨h5, g5, d5, W5, m5, r1, r2, r3, r4, r5⟩ := ih (i + 1) F g4 h4 d3 BS4 _ m3 (by omega) (by omega) (by omega) q4 i4.wf au4 od4 gS4 i2 i3 as4 (fun y hy => (List.mem_append.mp hy).elim (st4 y) (fun z => by rw [il y z]; exact Int32.le_refl _)) (by rw [List.length_append, inst_len]; omega)
    refine ⟨h5, g5, d5, W5, m5, ?_, by rw [dk]; exact ⟨j, L3, A3, m3, hj, f2, f7.2.2.2.2.1, f7.2.2.2.2.2.1, f9, r2⟩, r3, r4, ?_⟩
    · show B_X1_differences_13 N (L_X1_differences_13 N au F) au h (some (p 7)) (some S) (nI m) (nI i) = _
      unfold B_X1_differences_13
      rw [a5]
      refine (if_neg (by exact fun z => by rw [ni_le (by omega) (by omega)] at z; omega)).trans ?_
      refine (dr_e (by exact a11) (by exact a12)).trans ?_
      rw [a14]
      refine (ck_ix (show _ < cm.length by omega) (show cm.length < _ by omega)).trans ?_
      rw [ni_clp (by omega), o i x hx]
      refine (dr_e (by exact a4) (by exact q.2.2.2.2.1.2.1)).trans ?_
      refine (bnd (by exact al_get q.2.2.2.2.1.2 N (map_get (ts := ts) hj))).trans ?_
      unfold B_X1_differences_36
      refine (dr_e (by exact rfl) (by exact tt.1)).trans ?_
      unfold B_X1_differences_44
      have tt1 := q1.2.2.2.2.2.2.2.2.2.2.1 _ _ hu
      refine (dr_e (by exact rfl) (by exact tt1.1)).trans ?_
      refine (dr_e (by exact rfl) (by exact kv1)).trans ?_
      rw [tt1.2.2.1]
      refine (bnd (by exact b1)).trans ?_
      unfold B_X1_differences_56
      refine f1.trans ?_
      rw [ni_inc]
      refine (bnd (by exact i1)).trans ?_
      unfold B_X1_differences_135
      rw [ni_inc]
      exact r1
    · rw [dk, List.map_cons, List.sum_cons, hncl]
      have cap3 : cap h3 lS = cap h2 lS := by
        obtain ⟨cs2, al2, -⟩ := sh2.2.2.2.2.2
        have l2 := F2.wf.lt al2.1 (by decide)
        have gl2 : g2 lS = S := sh2.2.2.1
        have svS : Sep g2 h.nx S := sep_roots gv2 gS2 (by omega)
        have s7S : Sep g2 (p 7) S := sep_roots k92.2.1 gS2 (ne_kd k92.1 sh2.1 (by decide))
        obtain ⟨b1', b2', b3', b4', e', b5', b6'⟩ := id al2
        have ag := f13.2.1 lS l2 (svS.ch gl2).1 (s7S.ch gl2).1
        rw [cap_e ((ag.fr 201).trans b5'), cap_e b5', f13.2.2.1.2.2.2.1]
        rcases b6' with z | z
        · rw [if_pos z.1, if_pos z.1]
        · rw [f13.2.2.1.2.2.2.2 e' (F2.wf.lt z.1 (by decide))]
      have cap0 : cap h2 (h.nx + 1 + 1) = 0 := b4
      unfold Rdi at f12
      unfold Ins at i5
      unfold Rdo at *
      omega
theorem au_diff {g : Nat → Nat} {h : Hp} {d0 : AnD} {au ah od T : Nat} {ord : List Nat} (q : Kr g h p G fv lr B V ts D ac cm ot ct rs d0 R cO) (w : Wf g h) (a : Au g h au (p 0) (p 4) cm.length ah od) (o : Odr h od ord) (hord : ord.length = cm.length) (hox : ∀ x ∈ ord, x < cm.length) (hcm : ∀ i ∈ cm, i < ts.length) (hT : T < 80000) (hsum : (ord.map (ncl D cm)).sum ≤ T) (hok : ∀ j ∈ cm, OkC (D j).2.2.2.2.2.2.2 [] 0) (N : Nat) (hN : 1000000 < N) : ∃ h' g' d' W' m', J_X1_differences N au h (some (p 7)) = some (h', nI (m' + B.countP (fun y => decide (thr1 y.2 ≠ thr1 (chn W' y.1))))) ∧ RepA D cm ord 0 [] 0 W' m' ∧ Kr g' h' p G fv lr B V ts D ac cm ot ct rs d' R cO ∧ Wf g' h' ∧ h'.nx ≤ h.nx + 2 + 4 * cm.length + 6 * T ∧ h'.su ≤ h.su + 44 + 61 * cm.length + 30 * T := by
  have F1 := Fr.new w h.nx 8 0 1 h.nx (Nat.le_refl _)
  have k1 : (h.new 8 0 1).kd h.nx = 8 := new_kd (n := 0) (sl := 1)
  obtain ⟨h2, b1, b2, b3, b4, b5, b6⟩ := sh_init (g := va_up g h.nx h.nx) k1 F1.wf N
  have nx1 : (h.new 8 0 1).nx = h.nx + 1 := rfl
  have su1 : (h.new 8 0 1).su = h.su + 1 := rfl
  rw [nx1] at b2 b3 b4 b5
  have F2 : Fr g (va_up (va_up g h.nx h.nx) (h.nx + 1) h.nx) h.nx h h2 := F1.tr w b3
  have q2 := q.new w (Nat.le_refl _) F2
  have a2 := a.fr w F2 (sep_ge w (Nat.le_refl _) (w.lt a.1 (by decide)))
  have a12 := a.2.2.2.2.2.2.2.2.2.2.2.1
  have o2 : Odr h2 od ord := fun x y hxy => by
    rw [(F2.ag w a12 (by decide) (sep_ge w (Nat.le_refl _) (w.lt a12 (by decide))).1).ai]
    exact o x y hxy
  have a15 := a.2.2.2.2.2.2.2.2.2.2.2.2.2.2
  have gS2 : va_up (va_up g h.nx h.nx) (h.nx + 1) h.nx h.nx = h.nx := by rw [va_up_ne _ _ (by omega), va_up_self]
  have hS : p 0 ≠ h.nx := fun z => by have := w.lt q.2.1.2.1.1 (by decide); omega
  obtain ⟨h3, g3, d3, W3, m3, r1, r2, r3, r4, r5⟩ := di_out (T := T) hord hox hcm hS hT hok N hN ord.length 0 N _ h2 d0 [] [] 0 rfl (Nat.zero_le _) (by omega) q2 b3.wf a2 o2 gS2 b2 (fun k => rfl) List.Pairwise.nil (fun x hx => absurd hx List.not_mem_nil) (by rw [List.drop_zero, List.length_nil, Nat.zero_add]; exact hsum)
  rw [List.drop_zero] at r2 r5
  refine ⟨h3, g3, d3, W3, m3, ?_, r2, r3, r4, ?_, ?_⟩
  · unfold J_X1_differences B_X1_differences_0 B_X1_differences_3
    refine (dr_e (by exact rfl) (by exact k1)).trans ?_
    refine (bnd (by exact b1)).trans ?_
    unfold B_X1_differences_7
    exact r1
  · unfold Rdo at r5; omega
  · unfold Rdo at r5
    rw [b4] at r5
    omega
end DK
