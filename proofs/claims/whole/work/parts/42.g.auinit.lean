theorem au_init {g : Nat → Nat} {h : Hp} {au S lc : Nat} {xs : List Nat} (hk : h.kd au = 4) (hr : g au = au) (w : Wf g h) (al : Al g h lc xs) (hn : xs.length ≤ 1000) (N : Nat) : ∃ h' g' ah od, J_X1_init N au h (some S) (some lc) = some (h', ()) ∧ Au g' h' au S lc xs.length ah od ∧ Mx h' ah xs.length (fun _ _ => False) ∧ Fr g g' au h h' ∧ h'.nx = h.nx + 2 ∧ h'.su = h.su + xs.length * wd xs.length + xs.length := by
  have hau := w.lt hk (by decide)
  have hb := nwb hn
  have wl : wd xs.length ≤ 16 := by unfold wd; omega
  have F1 := Fr.sfr w (Un.rf g au) 400 (some S)
  have F2 := Fr.sfr F1.wf (Un.rf g au) 401 (some lc)
  have F12 := F1.tr w F2
  have al2 : Al g ((h.sfr 400 au (some S)).sfr 401 au (some lc)) lc xs := (al.sfr (Or.inr (by decide))).sfr (Or.inr (by decide))
  have r0 : ((h.sfr 400 au (some S)).sfr 401 au (some lc)).fr 400 au = some S := by rw [fr_oth (by decide)]; exact fr_same
  have r1 : ((h.sfr 400 au (some S)).sfr 401 au (some lc)).fr 401 au = some lc := fr_same
  have k2 : ((h.sfr 400 au (some S)).sfr 401 au (some lc)).kd au = 4 := hk
  have kl2 := al2.1
  have nx2 : ((h.sfr 400 au (some S)).sfr 401 au (some lc)).nx = h.nx := rfl
  have su2 : ((h.sfr 400 au (some S)).sfr 401 au (some lc)).su = h.su := rfl
  have w2 := F2.wf
  have step0 : ∀ {z : Option (Hp × Unit)}, B_X1_init_19 N au ((h.sfr 400 au (some S)).sfr 401 au (some lc)) (some au) (nI xs.length) = z → J_X1_init N au h (some S) (some lc) = z := by
    intro z hz
    unfold J_X1_init B_X1_init_0
    refine (dr_e (by exact rfl) (by exact kl2)).trans ?_
    refine (bnd (by exact al_size al2 N)).trans ?_
    exact hz
  generalize (h.sfr 400 au (some S)).sfr 401 au (some lc) = h2 at *
  have e2 : (h2.sfi 402 au (nI xs.length)).fi 402 au = nI xs.length := fi_same
  have e3 : (nI xs.length + 63).toUInt32 >>> ((6 : Int32).toUInt32 &&& Int32.toUInt32 31) = ((nI (xs.length + 63)).toUInt32 >>> ((6 : Int32).toUInt32 &&& Int32.toUInt32 31)) := by rw [show nI xs.length + 63 = nI (xs.length + 63) from nI_add xs.length 63]
  have e4 : ((nI xs.length + 63).toUInt32 >>> ((6 : Int32).toUInt32 &&& Int32.toUInt32 31)).toInt32 = nI (wd xs.length) := by rw [e3, shr6 (by omega)]; rfl
  have G1 := Fr.sfi w2 (Un.rf g au) 402 (nI xs.length)
  have G2 := Fr.sfi G1.wf (Un.rf g au) 403 (nI (wd xs.length))
  have G12 := F12.tr w (G1.tr w2 G2)
  have v2 : ((h2.sfi 402 au (nI xs.length)).sfi 403 au (nI (wd xs.length))).fi 402 au = nI xs.length := by rw [fi_oth (by decide)]; exact fi_same
  have v3 : ((h2.sfi 402 au (nI xs.length)).sfi 403 au (nI (wd xs.length))).fi 403 au = nI (wd xs.length) := fi_same
  have k3 : ((h2.sfi 402 au (nI xs.length)).sfi 403 au (nI (wd xs.length))).kd au = 4 := k2
  have r30 : ((h2.sfi 402 au (nI xs.length)).sfi 403 au (nI (wd xs.length))).fr 400 au = some S := r0
  have r31 : ((h2.sfi 402 au (nI xs.length)).sfi 403 au (nI (wd xs.length))).fr 401 au = some lc := r1
  have nx3 : ((h2.sfi 402 au (nI xs.length)).sfi 403 au (nI (wd xs.length))).nx = h.nx := nx2
  have su3 : ((h2.sfi 402 au (nI xs.length)).sfi 403 au (nI (wd xs.length))).su = h.su := su2
  have w3 := G2.wf
  have step1 : ∀ {z : Option (Hp × Unit)}, B_X1_init_48 N au (((h2.sfi 402 au (nI xs.length)).sfi 403 au (nI (wd xs.length))).new 21 (xs.length * wd xs.length) (xs.length * wd xs.length)) (some au) (some h.nx) = z → J_X1_init N au h (some S) (some lc) = z := by
    intro z hz
    refine step0 ?_
    unfold B_X1_init_19
    refine (dr_e (by exact rfl) (by exact k2)).trans ?_
    rw [e2, e4, v2, v3, nI_mul, ni_clp (by omega), nx3]
    refine (ck_eq (by exact ⟨ni_nn (by omega), by omega⟩)).trans ?_
    exact hz
  generalize (h2.sfi 402 au (nI xs.length)).sfi 403 au (nI (wd xs.length)) = h3 at *
  have F4 := Fr.new w3 au 21 (xs.length * wd xs.length) (xs.length * wd xs.length) au (by omega)
  rw [nx3] at F4
  have k4 : (h3.new 21 (xs.length * wd xs.length) (xs.length * wd xs.length)).kd au = 4 := F4.kd w3 k3 (by decide)
  have F5 := Fr.sfr F4.wf (Un.rf (va_up g h.nx au) au) 404 (some h.nx)
  have k5 : ((h3.new 21 (xs.length * wd xs.length) (xs.length * wd xs.length)).sfr 404 au (some h.nx)).kd au = 4 := k4
  have o4 : ∀ f, (h3.new 21 (xs.length * wd xs.length) (xs.length * wd xs.length)).fr f au = h3.fr f au := fun f => by rw [pj_new_fr, if_neg (by omega)]
  have r50 : ((h3.new 21 (xs.length * wd xs.length) (xs.length * wd xs.length)).sfr 404 au (some h.nx)).fr 400 au = some S := by rw [fr_oth (by decide), o4]; exact r30
  have r51 : ((h3.new 21 (xs.length * wd xs.length) (xs.length * wd xs.length)).sfr 404 au (some h.nx)).fr 401 au = some lc := by rw [fr_oth (by decide), o4]; exact r31
  have r54 : ((h3.new 21 (xs.length * wd xs.length) (xs.length * wd xs.length)).sfr 404 au (some h.nx)).fr 404 au = some h.nx := fr_same
  have v52 : ((h3.new 21 (xs.length * wd xs.length) (xs.length * wd xs.length)).sfr 404 au (some h.nx)).fi 402 au = nI xs.length := by rw [pj_sfr_fi, pj_new_fi, if_neg (by omega)]; exact v2
  have v53 : ((h3.new 21 (xs.length * wd xs.length) (xs.length * wd xs.length)).sfr 404 au (some h.nx)).fi 403 au = nI (wd xs.length) := by rw [pj_sfr_fi, pj_new_fi, if_neg (by omega)]; exact v3
  have ka5 : ((h3.new 21 (xs.length * wd xs.length) (xs.length * wd xs.length)).sfr 404 au (some h.nx)).kd h.nx = 21 := by rw [pj_sfr_kd, pj_new_kd, if_pos nx3.symm]
  have la5 : ((h3.new 21 (xs.length * wd xs.length) (xs.length * wd xs.length)).sfr 404 au (some h.nx)).al h.nx = xs.length * wd xs.length := by rw [pj_sfr_al, pj_new_al, if_pos nx3.symm]
  have aw5 : ((h3.new 21 (xs.length * wd xs.length) (xs.length * wd xs.length)).sfr 404 au (some h.nx)).aw h.nx = fun _ => 0 := by rw [pj_sfr_aw, pj_new_aw, if_pos nx3.symm]
  have nx5 : ((h3.new 21 (xs.length * wd xs.length) (xs.length * wd xs.length)).sfr 404 au (some h.nx)).nx = h.nx + 1 := by rw [pj_sfr_nx, pj_new_nx, nx3]
  have su5 : ((h3.new 21 (xs.length * wd xs.length) (xs.length * wd xs.length)).sfr 404 au (some h.nx)).su = h.su + xs.length * wd xs.length := by rw [pj_sfr_su, pj_new_su, su3]
  have w5 := F5.wf
  have FF5 := (G12.tr w F4).tr w F5
  have step2 : ∀ {z : Option (Hp × Unit)}, B_X1_init_58 N au (((h3.new 21 (xs.length * wd xs.length) (xs.length * wd xs.length)).sfr 404 au (some h.nx)).new 20 xs.length xs.length) (some au) (some (h.nx + 1)) = z → J_X1_init N au h (some S) (some lc) = z := by
    intro z hz
    refine step1 ?_
    unfold B_X1_init_48
    refine (dr_e (by exact rfl) (by exact k4)).trans ?_
    rw [v52, ni_clp (by omega), nx5]
    refine (ck_eq (by exact ⟨ni_nn (by omega), by omega⟩)).trans ?_
    exact hz
  generalize (h3.new 21 (xs.length * wd xs.length) (xs.length * wd xs.length)).sfr 404 au (some h.nx) = h5 at *
  have F6 := Fr.new w5 au 20 xs.length xs.length au (by omega)
  rw [nx5] at F6
  have F7 := Fr.sfr F6.wf (Un.rf (va_up (va_up g h.nx au) (h.nx + 1) au) au) 405 (some (h.nx + 1))
  have k6 : (h5.new 20 xs.length xs.length).kd au = 4 := F6.kd w5 k5 (by decide)
  have o6 : ∀ f, f ≠ 405 → ((h5.new 20 xs.length xs.length).sfr 405 au (some (h.nx + 1))).fr f au = h5.fr f au := fun f hf => by rw [fr_oth hf, pj_new_fr, if_neg (by omega)]
  refine ⟨(h5.new 20 xs.length xs.length).sfr 405 au (some (h.nx + 1)), va_up (va_up g h.nx au) (h.nx + 1) au, h.nx, h.nx + 1, step2 ?_, ⟨k6, ?_, ?_, ?_, ?_, ?_, ?_, ?_, ?_, ?_, fr_same, ?_, va_up_self _ _ _, ?_, hn⟩, ⟨fun _ _ z => z.elim, fun y k j _ _ _ => ?_⟩, (FF5.tr w F6).tr w F7, ?_, ?_⟩
  · unfold B_X1_init_58
    refine (dr_e (by exact rfl) (by exact k6)).trans ?_
    rfl
  · rw [va_up_ne _ _ (by omega), va_up_ne _ _ (by omega)]; exact hr
  · exact (o6 _ (by decide)).trans r50
  · exact (o6 _ (by decide)).trans r51
  · rw [pj_sfr_fi, pj_new_fi, if_neg (by omega)]; exact v52
  · rw [pj_sfr_fi, pj_new_fi, if_neg (by omega)]; exact v53
  · exact (o6 _ (by decide)).trans r54
  · rw [pj_sfr_kd, pj_new_kd, if_neg (by omega)]; exact ka5
  · rw [va_up_ne _ _ (by omega), va_up_self]
  · rw [pj_sfr_al, pj_new_al, if_neg (by omega)]; exact la5
  · rw [pj_sfr_kd, pj_new_kd, if_pos nx5.symm]
  · rw [pj_sfr_al, pj_new_al, if_pos nx5.symm]
  · rw [pj_sfr_aw, pj_new_aw, if_neg (by omega), aw5]
    show bt 0 j = true ↔ False
    rw [bt_0]
    simp
  · rw [pj_sfr_nx, pj_new_nx, nx5]
  · rw [pj_sfr_su, pj_new_su, su5]
/-- lineUp, whole -/
theorem au_lineUp {g0 g : Nat → Nat} {h0 h : Hp} {au S lc n ah od : Nat} {M : Nat → Nat → Prop} (w0 : Wf g0 h0) (F : Fr g0 g h0.nx h0 h) (hau : h0.nx ≤ au) (q : Au g h au S lc n ah od) (m : Mx h ah n M) (N : Nat) (hN : 100000 < N) : ∃ h' g' ord v, J_X1_lineUp N au h = some (h', v) ∧ LinS M n ord ∧ Odr h' od ord ∧ ((v = 1 ∧ ord.length = n) ∨ (v = 0 ∧ ord.length < n ∧ ∀ y, y < n → ¬ Cand M ord y)) ∧ Au g' h' au S lc n ah od ∧ Mx h' ah n M ∧ Fr g0 g' h0.nx h0 h' ∧ h'.nx = h.nx + 1 ∧ h'.su = h.su + wd n := by
  obtain ⟨a1, a2, a3, a4, a5, a6, a7, a8, a9, a10, a11, a12, a13, a14, a15⟩ := id q
  have wl : wd n ≤ 16 := by unfold wd; omega
  have F1 := Fr.new F.wf h.nx 21 (wd n) (wd n) h.nx (Nat.le_refl _)
  have q1 := q.fr F.wf F1 (sep_ge F.wf (Nat.le_refl _) (F.wf.lt a1 (by decide)))
  have hah := F.wf.lt a8 (by decide)
  have hod := F.wf.lt a12 (by decide)
  have m1 : Mx (h.new 21 (wd n) (wd n)) ah n M := ⟨m.1, fun y k j hy hk hj => by rw [pj_new_aw, if_neg (Nat.ne_of_lt hah)]; exact m.2 y k j hy hk hj⟩
  have d1 : Dn (h.new 21 (wd n) (wd n)) h.nx n (fun x => x ∈ ([] : List Nat)) := by
    refine ⟨new_kd (n := wd n) (sl := wd n), by rw [pj_new_al, if_pos rfl], fun x hx => absurd hx List.not_mem_nil, fun k j _ _ => ?_⟩
    rw [pj_new_aw, if_pos rfl]
    show bt 0 j = true ↔ _
    rw [bt_0]
    simp
  obtain ⟨h', h1, ord, v, r1, r2, r3, r4, r5, r6, r7, r8, r9, r10, r11⟩ := lu_loop (M := M) N hN (va_up_self g h.nx h.nx) (Nat.ne_of_gt (F.wf.lt a1 (by decide))) n 0 N (h.new 21 (wd n) (wd n)) [] rfl (Nat.zero_le _) (by omega) (Nat.zero_le _) (fun y hy => by omega) q1 F1.wf m1 d1 (fun i x hx => by simp at hx) (fun i x hx => by simp at hx)
  refine ⟨h', _, ord, v, ?_, r2, r3, r4, r5, r6, r8 g0 h0 w0 F.nx hau (F.trn w0 F1 F.nx), r10, r11⟩
  unfold J_X1_lineUp B_X1_lineUp_0
  rw [a6, ni_clp (by omega)]
  refine (ck_eq (by exact ⟨ni_nn (by omega), by omega⟩)).trans ?_
  exact r1
