/-! lists -/
/-- what a list's own array holds -/
def Ar (g : Nat → Nat) (h : Hp) (l e : Nat) (xs : List Nat) : Prop := h.kd e = 23 ∧ g e = l ∧ xs.length ≤ h.al e ∧ h.al e < 200000 ∧ 10 ≤ h.al e ∧ h.ar e = fun i => xs[i]?
def Al (g : Nat → Nat) (h : Hp) (l : Nat) (xs : List Nat) : Prop := h.kd l = 2 ∧ xs.length < 100000 ∧ h.fi 202 l = nI xs.length ∧ (∀ x ∈ xs, okE h x) ∧ ∃ e, h.fr 201 l = some e ∧ ((e = h.se.1 ∧ xs = []) ∨ Ar g h l e xs)
theorem al_size {g : Nat → Nat} {h : Hp} {l : Nat} {xs : List Nat} (a : Al g h l xs) (N : Nat) : J_Jx4a65c_size_8abf5 N l h = some (h, nI xs.length) := by
  show some (h, h.fi 202 l) = _
  rw [a.2.2.1]
theorem al_isEmpty {g : Nat → Nat} {h : Hp} {l : Nat} {xs : List Nat} (a : Al g h l xs) (N : Nat) : J_Jx4a65c_isEmpty_aae02 N l h = some (h, if xs = [] then 1 else 0) := by
  have hl := a.2.1
  unfold J_Jx4a65c_isEmpty_aae02 B_Jx4a65c_isEmpty_aae02_0
  rw [a.2.2.1]
  by_cases q : xs = []
  · subst q
    rfl
  · have hn : ¬ nI xs.length = 0 := fun z => q (List.eq_nil_of_length_eq_zero ((ni_inj (b := 0) (by omega) (by omega)).mp z))
    rw [if_neg hn, if_neg q]
    rfl
theorem ck_index {N : Nat} {h : Hp} {i n : Nat} (hi : i < n) (hn : n < 2147483648) : J_J15_checkIndex_7cf53 N h (nI i) (nI n) = some (h, nI i) := by
  unfold J_J15_checkIndex_7cf53 B_J15_checkIndex_7cf53_0 J_J3_checkIndex_8e157 B_J3_checkIndex_8e157_0
  rw [if_neg (ni_nn (by omega)), if_pos ((ni_lt (by omega) hn).mpr hi)]
  rfl
theorem al_get {g : Nat → Nat} {h : Hp} {l : Nat} {xs : List Nat} (a : Al g h l xs) (N : Nat) {i x : Nat} (hi : xs[i]? = some x) : J_Jx4a65c_get_915e3 N l h (nI i) = some (h, some x) := by
  obtain ⟨a1, a2, a3, a4, e, a5, a6⟩ := a
  have hlt : i < xs.length := (List.getElem?_eq_some_iff.mp hi).1
  have a6 : Ar g h l e xs := a6.resolve_left (fun q => by rw [q.2] at hlt; exact absurd hlt (Nat.not_lt_zero _))
  obtain ⟨b1, b2, b3, b4, b5, b6⟩ := a6
  unfold J_Jx4a65c_get_915e3 B_Jx4a65c_get_915e3_0
  rw [a3, ck_index hlt (by omega)]
  show (J_Jx4a65c_elementData_915e3 N l h (nI i)).bind _ = _
  unfold J_Jx4a65c_elementData_915e3 B_Jx4a65c_elementData_915e3_0
  rw [a5, dr_eq b1, ck_eq (ix_ok (by omega) (by omega)), b6, ni_clp (by omega)]
  show some (h, xs[i]?) = _
  rw [hi]
theorem okE_mo {g : Nat → Nat} {h h' : Hp} (w : Wf g h) (hm : Mo h h') {x : Nat} (q : okE h x) : okE h' x := by
  rcases q with q | q | q
  · exact Or.inl ((hm.1 x (w.lt q (by decide))).trans q)
  · exact Or.inr (Or.inl ((hm.1 x (w.lt q (by decide))).trans q))
  · exact Or.inr (Or.inr ((hm.1 x (w.lt q (by decide))).trans q))
theorem Ar.fr {g g' : Nat → Nat} {p : Nat} {h h' : Hp} {l e : Nat} {xs : List Nat} (a : Ar g h l e xs) (w : Wf g h) (F : Fr g g' p h h') (s : Sep g p l) : Ar g' h' l e xs := by
  obtain ⟨b1, b2, b3, b4, b5, b6⟩ := a
  have ag := F.ag w b1 (by decide) (s.ch b2).1
  have al := F.al w b1 (by decide)
  exact ⟨F.kd w b1 (by decide), (F.gg w b1 (by decide)).trans b2, by rw [al]; exact b3, by rw [al]; exact b4, by rw [al]; exact b5, by rw [ag.ar]; exact b6⟩
/-- a list is the same where nothing of it is touched -/
theorem Al.fr {g g' : Nat → Nat} {p : Nat} {h h' : Hp} {l : Nat} {xs : List Nat} (a : Al g h l xs) (w : Wf g h) (F : Fr g g' p h h') (s : Sep g p l) : Al g' h' l xs := by
  obtain ⟨a1, a2, a3, a4, e, a5, a6⟩ := a
  have ag := F.ag w a1 (by decide) s.1
  exact ⟨F.kd w a1 (by decide), a2, (ag.fi 202).trans a3, fun x hx => okE_mo w F.mo (a4 x hx), e, (ag.fr 201).trans a5, a6.elim (fun q => Or.inl ⟨by rw [F.se]; exact q.1, q.2⟩) (fun q => Or.inr (q.fr w F s))⟩
/-- how much room its array has -/
def cap (h : Hp) (l : Nat) : Nat := match h.fr 201 l with
  | none => 0
  | some e => if e = h.se.1 then 0 else h.al e
theorem okV_get {h : Hp} {xs : List Nat} (q : ∀ x ∈ xs, okE h x) (i : Nat) : okV h (xs[i]?) = true := by
  cases e : xs[i]? with
  | none => rfl
  | some x => exact decide_eq_true (q x (List.mem_of_getElem? e))
theorem shr_half {c : Nat} (hc : c < 1000000) : nI c >>> ((1 : Int32) &&& 31) = nI (c / 2) := by
  apply Int32.toInt_inj.mp
  rw [show ((1 : Int32) &&& 31) = 1 from rfl]
  have h1 : (nI c).toInt = (c : Int) := nI_toInt (by omega)
  have h2 : (nI (c / 2)).toInt = ((c / 2 : Nat) : Int) := nI_toInt (by omega)
  rw [h2]
  have e : (nI c >>> (1 : Int32)).toInt = (nI c).toInt >>> 1 := by
    show (Int32.shiftRight (nI c) 1).toInt = _
    unfold Int32.shiftRight
    rw [Int32.toInt]
    show (BitVec.sshiftRight' (nI c).toBitVec _).toInt = _
    rw [BitVec.toInt_sshiftRight']
    rfl
  rw [e, h1, Int.shiftRight_eq_div_pow]
  omega
theorem new_len {N : Nat} {h : Hp} {c : Nat} (h1 : 1 ≤ c) (h2 : c < 200000) : J_J8_newLength_cabcc N h (nI c) (1 : Int32) (nI (c / 2)) = some (h, nI (c + max 1 (c / 2))) := by
  have e : (if (1 : Int32) < nI (c / 2) then nI (c / 2) else (1 : Int32)) = nI (max 1 (c / 2)) := by
    by_cases q : 1 < c / 2
    · rw [if_pos ((ni_1lt (by omega)).mpr q), Nat.max_eq_right (by omega)]
    · rw [if_neg (fun z => q ((ni_1lt (by omega)).mp z)), Nat.max_eq_left (by omega)]
      rfl
  have e2 : nI c + nI (max 1 (c / 2)) = nI (c + max 1 (c / 2)) := nI_add _ _
  unfold J_J8_newLength_cabcc B_J8_newLength_cabcc_0 B_J8_newLength_cabcc_6
  rw [e, e2, if_neg (fun z => by rw [ni_lz (by omega)] at z; omega), if_neg (fun z => by
    rw [show (2147483639 : Int32) = nI 2147483639 from rfl, ni_lt (by omega) (by omega)] at z
    omega)]
/-- a larger array, with what there was -/
theorem copy_of {N : Nat} {h : Hp} {g : Nat → Nat} {e c : Nat} {xs : List Nat} (w : Wf g h) (hk : h.kd e = 23) (hc : h.al e < 200000) (hle : h.al e ≤ c) (hcc : c < 1000000) (hxs : xs.length ≤ h.al e) (hok : ∀ x ∈ xs, okE h x) (har : h.ar e = fun i => xs[i]?) :
    J_J7_copyOf_1904c N h (some e) (nI c) = some ((h.new 23 c c).tar h.nx (fun i => xs[i]?), some h.nx) := by
  have hne : e ≠ h.nx := Nat.ne_of_lt (w.lt hk (by decide))
  have hse : e ≠ h.se.1 := fun q => by rw [q, w.2.1] at hk; cases hk
  unfold J_J7_copyOf_1904c B_J7_copyOf_1904c_0
  rw [dr_eq hk]
  unfold J_J7_copyOf_6403c B_J7_copyOf_6403c_0
  rw [if_pos rfl, ni_clp (by omega), ck_eq ⟨ni_nn (by omega), by omega⟩]
  unfold B_J7_copyOf_6403c_10 alO
  have k1 : (h.new 23 c c).kd e = 23 := new_kd_ne w hk (by decide)
  have k2 : (h.new 23 c c).kd h.nx = 23 := by rw [pj_new_kd, if_pos rfl]
  have a1 : (h.new 23 c c).al e = h.al e := by rw [pj_new_al, if_neg hne]
  have a2 : (h.new 23 c c).al h.nx = c := by rw [pj_new_al, if_pos rfl]
  have r1 : (h.new 23 c c).ar e = fun i => xs[i]? := by rw [pj_new_ar, if_neg hne]; exact har
  have r2 : (h.new 23 c c).ar h.nx = fun _ => none := by rw [pj_new_ar, if_pos rfl]
  show Option.bind (if e = (h.new 23 c c).se.1 then _ else _) _ = _
  rw [pj_new_se, if_neg hse, if_pos k1, a1]
  have em : (if nI c < nI (h.al e) then nI c else nI (h.al e)) = nI (h.al e) := by
    by_cases q : nI c < nI (h.al e)
    · rw [ni_lt (by omega) (by omega)] at q; omega
    · rw [if_neg q]
  dsimp only
  rw [em]
  unfold B_J7_copyOf_6403c_35
  rw [dr_eq k1, dr_eq k2, show (0 : Int32).toNatClampNeg = 0 from rfl, ni_clp (by omega), a1, a2, r1, r2]
  rw [ck_eq ⟨by decide, by decide, ni_nn (by omega), by omega, by omega⟩, ck_eq (fun i _ => by
    rw [Nat.zero_add]
    exact okV_get (fun x hx => okE_mo w (Mo.new h 23 c c) (hok x hx)) i)]
  show some (Hp.tar _ _ _, some h.nx) = _
  have ef : va_cpy (fun i => xs[i]?) (fun _ => none) 0 0 (h.al e) = fun i => xs[i]? := by
    funext i
    unfold va_cpy
    by_cases q : 0 ≤ i ∧ i < 0 + h.al e
    · rw [if_pos q]
      show xs[0 + (i - 0)]? = _
      rw [Nat.zero_add, Nat.sub_zero]
    · rw [if_neg q]
      exact (List.getElem?_eq_none (by omega)).symm
  rw [ef]
theorem cap_e {h : Hp} {l e : Nat} (he : h.fr 201 l = some e) : cap h l = if e = h.se.1 then 0 else h.al e := by unfold cap; rw [he]
theorem cap_z {h : Hp} {l e : Nat} (he : h.fr 201 l = some e) (q : e = h.se.1) : cap h l = 0 := by rw [cap_e he, if_pos q]
theorem cap_a {g : Nat → Nat} {h : Hp} {l e : Nat} (w : Wf g h) (he : h.fr 201 l = some e) (q : h.kd e = 23) : cap h l = h.al e := by rw [cap_e he, if_neg (fun z => by rw [z, w.2.1] at q; cases q)]
theorem cap_fr {g g' : Nat → Nat} {p : Nat} {h h' : Hp} {l : Nat} {xs : List Nat} (a : Al g h l xs) (w : Wf g h) (F : Fr g g' p h h') (s : Sep g p l) : cap h' l = cap h l := by
  obtain ⟨a1, a2, a3, a4, e, a5, a6⟩ := a
  have ag := F.ag w a1 (by decide) s.1
  rw [cap_e ((ag.fr 201).trans a5), cap_e a5, F.se]
  rcases a6 with q | q
  · rw [if_pos q.1, if_pos q.1]
  · rw [F.al w q.1 (by decide)]
/-- how a list's array has grown -/
def Gro (h h' : Hp) (l n : Nat) : Prop := h'.su + 4 * cap h l ≤ h.su + 4 * cap h' l ∧ cap h l ≤ cap h' l ∧ cap h' l ≤ max (cap h l) (2 * n + 10) ∧ h'.nx ≤ h.nx + 1 ∧ h'.su ≤ h.su + 2 * n + 10 ∧ h'.nx + cap h l ≤ h.nx + cap h' l
/-- a list whose array has room for one more -/
def Ro (g : Nat → Nat) (h : Hp) (l e : Nat) (xs : List Nat) : Prop := h.kd l = 2 ∧ xs.length < 99999 ∧ h.fi 202 l = nI xs.length ∧ (∀ x ∈ xs, okE h x) ∧ h.fr 201 l = some e ∧ Ar g h l e xs ∧ xs.length < h.al e
theorem Ro.al {g : Nat → Nat} {h : Hp} {l e : Nat} {xs : List Nat} (a : Ro g h l e xs) : Al g h l xs := ⟨a.1, by have := a.2.1; omega, a.2.2.1, a.2.2.2.1, e, a.2.2.2.2.1, Or.inr a.2.2.2.2.2.1⟩
theorem al_grow {g : Nat → Nat} {h : Hp} {l : Nat} {xs : List Nat} (a : Al g h l xs) (w : Wf g h) (hfull : xs.length = cap h l) (hb : xs.length < 90000) (N : Nat) : ∃ h2, J_Jx4a65c_grow_d5877 N l h = some (h2, some h.nx) ∧ Ro (va_up g h.nx l) h2 l h.nx xs ∧ Fr g (va_up g h.nx l) l h h2 ∧ Gro h h2 l xs.length := by
  obtain ⟨a1, a2, a3, a4, e, a5, a6⟩ := a
  have hll := w.lt a1 (by decide)
  have hlx : l ≠ h.nx := Nat.ne_of_lt hll
  have hnse : h.nx ≠ h.se.1 := Nat.ne_of_gt w.2.2.1
  have key : ∀ c, xs.length + 1 ≤ c → c ≤ 2 * xs.length + 10 → 10 ≤ c → 4 * xs.length ≤ 3 * c → Ro (va_up g h.nx l) (((h.new 23 c c).tar h.nx (fun i => xs[i]?)).sfr 201 l (some h.nx)) l h.nx xs ∧ Fr g (va_up g h.nx l) l h (((h.new 23 c c).tar h.nx (fun i => xs[i]?)).sfr 201 l (some h.nx)) ∧ Gro h (((h.new 23 c c).tar h.nx (fun i => xs[i]?)).sfr 201 l (some h.nx)) l xs.length := by
    intro c c1 c2 c3 c4
    have F1 := Fr.new w l 23 c c l (Nat.le_of_lt hll)
    have F2 := Fr.tar F1.wf (p := l) (a := h.nx) (Un.ch (va_up_self _ _ _)) (fun i => xs[i]?)
    have F3 := Fr.sfr F2.wf (Un.rf (va_up g h.nx l) l) 201 (some h.nx)
    have r1 : (((h.new 23 c c).tar h.nx (fun i => xs[i]?)).sfr 201 l (some h.nx)).fr 201 l = some h.nx := by rw [pj_sfr_fr, if_pos rfl, if_pos rfl]
    have l1 : (((h.new 23 c c).tar h.nx (fun i => xs[i]?)).sfr 201 l (some h.nx)).al h.nx = c := by show (h.new 23 c c).al h.nx = c; rw [pj_new_al, if_pos rfl]
    refine ⟨⟨?_, by omega, ?_, fun x hx => ?_, r1, ⟨?_, va_up_self _ _ _, by omega, by omega, by omega, ?_⟩, by omega⟩, (F1.tr w F2).tr w F3, ?_⟩
    · show (h.new 23 c c).kd l = 2
      rw [new_ne hlx]; exact a1
    · show (h.new 23 c c).fi 202 l = _
      rw [pj_new_fi, if_neg hlx]; exact a3
    · exact okE_mo w ((Mo.new h 23 c c).tr (Mo.rf _)) (a4 x hx)
    · exact new_kd (n := c) (sl := c)
    · show va_up (h.new 23 c c).ar h.nx _ h.nx = _
      rw [va_up_self]
    · have hc : cap (((h.new 23 c c).tar h.nx (fun i => xs[i]?)).sfr 201 l (some h.nx)) l = c := by
        rw [cap_e r1]
        show (if h.nx = h.se.1 then 0 else _) = c
        rw [if_neg hnse]; exact l1
      unfold Gro
      rw [hc, ← hfull]
      show h.su + c + _ ≤ _ ∧ _ ∧ _ ∧ h.nx + 1 ≤ _ ∧ h.su + c ≤ _ ∧ h.nx + 1 + _ ≤ _
      omega
  unfold J_Jx4a65c_grow_d5877 B_Jx4a65c_grow_d5877_0
  rw [a3, ni_inc]
  unfold J_Jx4a65c_grow_92f84 B_Jx4a65c_grow_92f84_0
  rcases a6 with ⟨q1, q2⟩ | ⟨b1, b2, b3, b4, b6, b5⟩
  · subst q2
    refine ⟨_, ?_, key 10 (by decide) (by decide) (by decide) (by decide)⟩
    rw [a5]
    unfold alO
    show Option.bind (if e = h.se.1 then _ else _) _ = _
    rw [if_pos q1]
    dsimp only
    rw [if_neg (by decide), if_pos (by rw [q1])]
    unfold B_Jx4a65c_grow_92f84_52
    rw [ck_eq ⟨by decide, by decide⟩]
    unfold B_Jx4a65c_grow_92f84_55
    rw [dr_eq (new_kd_ne w a1 (by decide))]
    show some (_, _) = some (_, _)
    have : (h.new 23 10 10).tar h.nx (fun i => ([] : List Nat)[i]?) = h.new 23 10 10 := by
      unfold Hp.tar
      have e : va_up (h.new 23 10 10).ar h.nx (fun i => ([] : List Nat)[i]?) = (h.new 23 10 10).ar := by
        funext b
        by_cases q : b = h.nx
        · rw [q, va_up_self]
          show _ = va_up h.ar h.nx (fun _ => none) h.nx
          rw [va_up_self]
          rfl
        · rw [va_up_ne _ _ q]
      rw [e]
      rfl
    rw [this]
    rfl
  · have hal : h.al e = xs.length := by rw [hfull, cap_a w a5 b1]
    have hse : e ≠ h.se.1 := fun z => by rw [z, w.2.1] at b1; cases b1
    have hm : xs.length + 1 ≤ xs.length + max 1 (xs.length / 2) ∧ xs.length + max 1 (xs.length / 2) ≤ 2 * xs.length + 10 := by omega
    refine ⟨_, ?_, key (xs.length + max 1 (xs.length / 2)) hm.1 hm.2 (by omega) (by omega)⟩
    rw [a5]
    unfold alO
    show Option.bind (if e = h.se.1 then _ else if h.kd e = 23 then _ else _) _ = _
    rw [if_neg hse, if_pos b1]
    dsimp only
    rw [if_pos ((ni_gz (by omega)).mpr (by omega))]
    unfold B_Jx4a65c_grow_92f84_20
    rw [hal, show nI (xs.length + 1) - nI xs.length = (1 : Int32) by rw [ni_sub (by omega)]; rw [show xs.length + 1 - xs.length = 1 by omega]; rfl, shr_half (by omega), new_len (by omega) (by omega)]
    show Option.bind (B_Jx4a65c_grow_92f84_30 N l h (nI (xs.length + max 1 (xs.length / 2)))) _ = _
    unfold B_Jx4a65c_grow_92f84_30
    rw [a5, copy_of (c := xs.length + max 1 (xs.length / 2)) (g := g) w b1 (by omega) (by omega) (by omega) (by omega) a4 b5]
    show Option.bind (B_Jx4a65c_grow_92f84_40 N l ((h.new 23 (xs.length + max 1 (xs.length / 2)) (xs.length + max 1 (xs.length / 2))).tar h.nx (fun i => xs[i]?)) (some l) (some h.nx)) _ = _
    unfold B_Jx4a65c_grow_92f84_40
    rw [dr_tar, dr_eq (new_kd_ne w a1 (by decide))]
    rfl
theorem Gro.rf (h : Hp) (l n : Nat) : Gro h h l n := ⟨Nat.le_refl _, Nat.le_refl _, Nat.le_max_left _ _, Nat.le_succ _, by omega, Nat.le_refl _⟩
/-- ahead of an addition room is made -/
theorem al_room {g : Nat → Nat} {h : Hp} {l : Nat} {xs : List Nat} (a : Al g h l xs) (w : Wf g h) (hb : xs.length < 90000) (N : Nat) : ∃ (h2 : Hp) (g2 : Nat → Nat) (e : Nat), (∀ (K2 : Hp × Option Nat → Option (Hp × Unit)), alO h (h.fr 201 l) (fun n => if h.fi 202 l = n then (J_Jx4a65c_grow_d5877 N l h).bind K2 else K2 (h, h.fr 201 l)) = K2 (h2, some e)) ∧ Ro g2 h2 l e xs ∧ Fr g g2 l h h2 ∧ Gro h h2 l xs.length := by
  have a0 := a
  obtain ⟨a1, a2, a3, a4, e, a5, a6⟩ := a
  by_cases hful : xs.length = cap h l
  · obtain ⟨h2, e1, r, F, G⟩ := al_grow a0 w hful (by omega) N
    refine ⟨h2, _, h.nx, fun K2 => ?_, r, F, G⟩
    rw [a5]
    unfold alO
    rcases a6 with ⟨q1, q2⟩ | ⟨b1, b2, b3, b4, b6, b5⟩
    · show (if e = h.se.1 then _ else _) = _
      rw [if_pos q1, a3, q2, e1]
      rfl
    · show (if e = h.se.1 then _ else if h.kd e = 23 then _ else _) = _
      rw [if_neg (fun z => by rw [z, w.2.1] at b1; cases b1), if_pos b1, a3, hful, cap_a w a5 b1]
      dsimp only
      rw [if_pos rfl, e1]
      rfl
  · rcases a6 with ⟨q1, q2⟩ | ⟨b1, b2, b3, b4, b6, b5⟩
    · exact absurd (by rw [cap_z a5 q1, q2]; rfl) hful
    · have hcap := cap_a w a5 b1
      have hlt : xs.length < h.al e := by omega
      refine ⟨h, g, e, fun K2 => ?_, ⟨a1, by omega, a3, a4, a5, ⟨b1, b2, b3, b4, b6, b5⟩, hlt⟩, Fr.rf w l, Gro.rf h l _⟩
      rw [a5, a3]
      unfold alO
      show (if e = h.se.1 then _ else if h.kd e = 23 then _ else _) = _
      rw [if_neg (fun z => by rw [z, w.2.1] at b1; cases b1), if_pos b1]
      dsimp only
      rw [if_neg (fun z => by rw [ni_inj (by omega) (by omega)] at z; omega)]
/-- a list's array and size written anew -/
theorem al_set {g : Nat → Nat} {h : Hp} {l e : Nat} {xs : List Nat} (a : Ro g h l e xs) (w : Wf g h) {ys : List Nat} (hy : ys.length ≤ xs.length + 1) (hok : ∀ x ∈ ys, okE h x) {h' : Hp} (he : h' = (h.tar e (fun i => ys[i]?)).sfi 202 l (nI ys.length)) : Al g h' l ys ∧ Fr g g l h h' ∧ cap h' l = cap h l := by
  subst he
  obtain ⟨a1, a2, a3, a4, a5, ⟨b1, b2, b3, b4, b5, b6⟩, a7⟩ := a
  refine ⟨⟨a1, by omega, ?_, hok, e, a5, Or.inr ⟨b1, b2, by show _ ≤ h.al e; omega, b4, b5, ?_⟩⟩, ?_, ?_⟩
  · rw [pj_sfi_fi, if_pos rfl, if_pos rfl]
  · show va_up h.ar e _ e = _
    rw [va_up_self]
  · have F1 := Fr.tar w (p := l) (a := e) (Un.ch b2) (fun i => ys[i]?)
    exact F1.tr w (Fr.sfi F1.wf (Un.rf g l) 202 _)
  · exact (cap_e a5).trans (cap_e a5).symm
theorem Gro.cap {h h2 h3 : Hp} {l n : Nat} (G : Gro h h2 l n) (e : cap h3 l = cap h2 l) (e1 : h3.nx = h2.nx) (e2 : h3.su = h2.su) : Gro h h3 l n := by
  unfold Gro at *
  rw [e, e1, e2]
  exact G
theorem app_get {xs : List Nat} {x : Nat} : va_up (fun i => xs[i]?) xs.length (some x) = fun i => (xs ++ [x])[i]? := by
  funext i
  by_cases q : i = xs.length
  · subst q
    rw [va_up_self]
    simp
  · rw [va_up_ne _ _ q]
    by_cases q2 : i < xs.length
    · rw [List.getElem?_append_left q2]
    · rw [List.getElem?_append_right (by omega), List.getElem?_eq_none (by omega), List.getElem?_eq_none (by simp; omega)]
theorem ins_get {xs : List Nat} {x i : Nat} (hi : i ≤ xs.length) : va_up (va_cpy (fun i => xs[i]?) (fun i => xs[i]?) i (i + 1) (xs.length - i)) i (some x) = fun j => (xs.insertIdx i x)[j]? := by
  funext j
  rw [List.getElem?_insertIdx]
  by_cases q : j = i
  · subst q
    rw [va_up_self, if_neg (by omega), if_pos rfl, if_pos hi]
  · rw [va_up_ne _ _ q]
    unfold va_cpy
    by_cases q2 : j < i
    · rw [if_neg (by omega), if_pos q2]
    · rw [if_neg q2, if_neg q]
      by_cases q3 : i + 1 ≤ j ∧ j < i + 1 + (xs.length - i)
      · rw [if_pos q3]
        show xs[i + (j - (i + 1))]? = _
        rw [show i + (j - (i + 1)) = j - 1 by omega]
      · rw [if_neg q3]
        show xs[j]? = _
        rw [List.getElem?_eq_none (by omega), List.getElem?_eq_none (by omega)]
theorem era_get {xs : List Nat} {i : Nat} (hi : i < xs.length) : va_up (if xs.length - 1 ≤ i then (fun i => xs[i]?) else va_cpy (fun i => xs[i]?) (fun i => xs[i]?) (i + 1) i (xs.length - 1 - i)) (xs.length - 1) none = fun j => (xs.eraseIdx i)[j]? := by
  funext j
  rw [List.getElem?_eraseIdx]
  by_cases q : j = xs.length - 1
  · rw [q, va_up_self]
    by_cases q2 : xs.length - 1 < i
    · omega
    · rw [if_neg q2, List.getElem?_eq_none (by omega)]
  · rw [va_up_ne _ _ q]
    by_cases q2 : xs.length - 1 ≤ i
    · rw [if_pos q2]
      by_cases q3 : j < i
      · rw [if_pos q3]
      · rw [if_neg q3, List.getElem?_eq_none (by omega), List.getElem?_eq_none (by omega)]
    · rw [if_neg q2]
      unfold va_cpy
      by_cases q3 : j < i
      · rw [if_pos q3, if_neg (by omega)]
      · rw [if_neg q3]
        by_cases q4 : i ≤ j ∧ j < i + (xs.length - 1 - i)
        · rw [if_pos q4]
          show xs[i + 1 + (j - i)]? = _
          rw [show i + 1 + (j - i) = j + 1 by omega]
        · rw [if_neg q4]
          show xs[j]? = _
          rw [List.getElem?_eq_none (by omega), List.getElem?_eq_none (by omega)]
theorem sar_tar (h : Hp) (e i : Nat) (v : Option Nat) : h.sar e i v = h.tar e (va_up (h.ar e) i v) := rfl
theorem tar_tar (h : Hp) (e : Nat) (f f2 : Nat → Option Nat) : (h.tar e f).tar e f2 = h.tar e f2 := by
  unfold Hp.tar
  have : va_up (va_up h.ar e f) e f2 = va_up h.ar e f2 := by
    funext b
    by_cases q : b = e
    · rw [q, va_up_self, va_up_self]
    · rw [va_up_ne _ _ q, va_up_ne _ _ q, va_up_ne _ _ q]
  show (_, _, _, _, _, _, _, _, _, _, va_up (va_up h.ar e f) e f2, _) = _
  rw [this]
  rfl
/-- add at the end -/
theorem al_add {g : Nat → Nat} {h : Hp} {l x : Nat} {xs : List Nat} (a : Al g h l xs) (w : Wf g h) (hx : okE h x) (hb : xs.length < 90000) (N : Nat) : ∃ (h' : Hp) (g' : Nat → Nat), J_Jx4a65c_add_9ea2d N l h (some x) = some (h', 1) ∧ Al g' h' l (xs ++ [x]) ∧ Fr g g' l h h' ∧ Gro h h' l xs.length := by
  have F0 := Fr.sfi w (Un.rf g l) 200 (h.fi 200 l + 1)
  obtain ⟨h2, g2, e, e1, r, F, G⟩ := al_room (h := h.sfi 200 l (h.fi 200 l + 1)) a F0.wf hb N
  have r0 := r
  obtain ⟨r1, r2, r3, r4, r5, ⟨s1, s2, s3, s4, s5, s6⟩, r7⟩ := r
  have hx2 : okE h2 x := okE_mo w F.mo hx
  obtain ⟨q1, q2, q3⟩ := al_set r0 F.wf (ys := xs ++ [x]) (by simp) (fun z hz => by
    rcases List.mem_append.mp hz with q | q
    · exact r4 z q
    · rw [List.mem_singleton.mp q]; exact hx2) rfl
  refine ⟨_, g2, ?_, q1, (F0.tr w F).tr w q2, G.cap q3 rfl rfl⟩
  unfold J_Jx4a65c_add_9ea2d B_Jx4a65c_add_9ea2d_0 J_Jx4a65c_add_72be8 B_Jx4a65c_add_72be8_0
  have e2 := e1 (fun z => B_Jx4a65c_add_72be8_11 N l z.1 (some x) z.2 ((h.sfi 200 l (h.fi 200 l + 1)).fi 202 l))
  have e3 : B_Jx4a65c_add_72be8_11 N l h2 (some x) (some e) ((h.sfi 200 l (h.fi 200 l + 1)).fi 202 l) = some ((h2.tar e (fun i => (xs ++ [x])[i]?)).sfi 202 l (nI (xs ++ [x]).length), ()) := by
    unfold B_Jx4a65c_add_72be8_11
    rw [show (h.sfi 200 l (h.fi 200 l + 1)).fi 202 l = nI xs.length from a.2.2.1, dr_eq s1, ck_ix (by omega) (by omega), ni_clp (by omega), ck_eq (show okV h2 (some x) = true from decide_eq_true hx2), ni_inc, sar_tar, s6, app_get, List.length_append]
    rfl
  have e4 := e2.trans e3
  refine (congrArg (fun o => Option.bind o _) e4).trans ?_
  rfl
/-- add at a place -/
theorem al_ins {g : Nat → Nat} {h : Hp} {l x i : Nat} {xs : List Nat} (a : Al g h l xs) (w : Wf g h) (hx : okE h x) (hi : i ≤ xs.length) (hb : xs.length < 90000) (N : Nat) : ∃ (h' : Hp) (g' : Nat → Nat), J_Jx4a65c_add_7a177 N l h (nI i) (some x) = some (h', ()) ∧ Al g' h' l (xs.insertIdx i x) ∧ Fr g g' l h h' ∧ Gro h h' l xs.length := by
  have F0 := Fr.sfi w (Un.rf g l) 200 (h.fi 200 l + 1)
  obtain ⟨h2, g2, e, e1, r, F, G⟩ := al_room (h := h.sfi 200 l (h.fi 200 l + 1)) a F0.wf hb N
  have r0 := r
  obtain ⟨r1, r2, r3, r4, r5, ⟨s1, s2, s3, s4, s5, s6⟩, r7⟩ := r
  have hx2 : okE h2 x := okE_mo w F.mo hx
  have hlen : (xs.insertIdx i x).length = xs.length + 1 := by rw [List.length_insertIdx, if_pos hi]
  obtain ⟨q1, q2, q3⟩ := al_set r0 F.wf (ys := xs.insertIdx i x) (by omega) (fun z hz => by
    rcases (List.mem_insertIdx hi).mp hz with q | q
    · rw [q]; exact hx2
    · exact r4 z q) rfl
  refine ⟨_, g2, ?_, q1, (F0.tr w F).tr w q2, G.cap q3 rfl rfl⟩
  unfold J_Jx4a65c_add_7a177 B_Jx4a65c_add_7a177_0 J_Jx4a65c_rangeCheckForAdd_d00df B_Jx4a65c_rangeCheckForAdd_d00df_0
  rw [a.2.2.1, if_neg (fun q => by rw [ni_lt (by omega) (by omega)] at q; omega), if_pos (ni_0le (by omega))]
  show B_Jx4a65c_add_7a177_5 N l h (nI i) (some x) = _
  unfold B_Jx4a65c_add_7a177_5
  have e2 := e1 (fun z => B_Jx4a65c_add_7a177_38 N l z.1 (nI i) (some x) ((h.sfi 200 l (h.fi 200 l + 1)).fi 202 l) z.2)
  refine e2.trans ?_
  show B_Jx4a65c_add_7a177_38 N l h2 (nI i) (some x) ((h.sfi 200 l (h.fi 200 l + 1)).fi 202 l) (some e) = _
  unfold B_Jx4a65c_add_7a177_38
  rw [show (h.sfi 200 l (h.fi 200 l + 1)).fi 202 l = nI xs.length from a.2.2.1, dr_eq s1, ni_inc, ni_inc, ni_sub hi]
  rw [ck_eq (by rw [ni_clp (by omega), ni_clp (by omega), ni_clp (by omega)]; exact ⟨ni_nn (by omega), ni_nn (by omega), ni_nn (by omega), by omega, by omega⟩), ck_eq (fun j _ => by rw [s6]; exact okV_get r4 _), pj_tar_al, ck_ix (show i < h2.al e by omega) (show h2.al e < _ by omega), ck_eq (show okV (h2.tar e _) (some x) = true from decide_eq_true hx2), ni_clp (by omega), ni_clp (by omega), ni_clp (by omega), sar_tar, tar_tar, s6]
  have e5 : va_up ((h2.tar e (va_cpy (fun i => xs[i]?) (fun i => xs[i]?) i (i + 1) (xs.length - i))).ar e) i (some x) = fun j => (xs.insertIdx i x)[j]? := by
    rw [← ins_get hi]
    show va_up (va_up h2.ar e _ e) i _ = _
    rw [va_up_self]
  rw [e5, hlen]
theorem sfi_tar (h : Hp) (f a : Nat) (v : Int32) (e : Nat) (q : Nat → Option Nat) : (h.sfi f a v).tar e q = (h.tar e q).sfi f a v := rfl
theorem fast_last {N : Nat} {h : Hp} {l e n : Nat} (hk : h.kd e = 23) (hn : n < h.al e) (hb : h.al e < 2147483648) : B_Jx4a65c_fastRemove_b59b0_34 N l h (some e) (nI n) = some ((h.tar e (va_up (h.ar e) n none)).sfi 202 l (nI n), ()) := by
  unfold B_Jx4a65c_fastRemove_b59b0_34
  refine (dr_e (by exact rfl) (by exact hk)).trans ?_
  refine (ck_ix (show _ < h.al e by omega) (show h.al e < _ by omega)).trans ?_
  refine (ck_eq (by rfl)).trans ?_
  rw [ni_clp (by omega), sar_tar, sfi_tar, pj_sfi_ar]
theorem fast_rem {N : Nat} {h : Hp} {l e i : Nat} {xs : List Nat} (hk : h.kd e = 23) (hn : xs.length ≤ h.al e) (hb : h.al e < 200000) (hl : h.fi 202 l = nI xs.length) (hi : i < xs.length) (hr : h.ar e = fun i => xs[i]?) (ho : ∀ x ∈ xs, okE h x) : J_Jx4a65c_fastRemove_b59b0 N l h (some e) (nI i) = some (((h.sfi 200 l (h.fi 200 l + 1)).tar e (fun j => (xs.eraseIdx i)[j]?)).sfi 202 l (nI (xs.length - 1)), ()) := by
  unfold J_Jx4a65c_fastRemove_b59b0 B_Jx4a65c_fastRemove_b59b0_0
  have z2 : nI xs.length - (1 : Int32) = nI (xs.length - 1) := ni_sub (a := xs.length) (b := 1) (by omega)
  rw [show (h.sfi 200 l (h.fi 200 l + 1)).fi 202 l = nI xs.length from hl, z2, ← era_get hi]
  by_cases q : xs.length - 1 ≤ i
  · refine (if_pos (by exact (ni_le (by omega) (by omega)).mpr q)).trans ?_
    rw [fast_last (h := h.sfi 200 l (h.fi 200 l + 1)) hk (show _ < h.al e by omega) (show h.al e < _ by omega), if_pos q, pj_sfi_ar, hr]
  · refine (if_neg (by exact fun z => q ((ni_le (by omega) (by omega)).mp z))).trans ?_
    refine (dr_e (by exact rfl) (by exact hk)).trans ?_
    rw [ni_inc, ni_sub (by omega), pj_sfi_ar, hr]
    refine (ck_eq (by rw [ni_clp (by omega), ni_clp (by omega), ni_clp (by omega)]; exact ⟨ni_nn (by omega), ni_nn (by omega), ni_nn (by omega), by show _ ≤ h.al e; omega, by show _ ≤ h.al e; omega⟩)).trans ?_
    refine (ck_eq (by exact fun j _ => okV_get (h := h) ho _)).trans ?_
    rw [ni_clp (by omega), ni_clp (by omega), ni_clp (by omega), fast_last (h := (h.sfi 200 l (h.fi 200 l + 1)).tar e _) hk (show _ < h.al e by omega) (show h.al e < _ by omega), tar_tar, if_neg q, pj_tar_ar, if_pos rfl]
/-- remove from a place -/
theorem al_rem {g : Nat → Nat} {h : Hp} {l i x : Nat} {xs : List Nat} (a : Al g h l xs) (w : Wf g h) (hi : xs[i]? = some x) (N : Nat) : ∃ h', J_Jx4a65c_remove_915e3 N l h (nI i) = some (h', some x) ∧ Al g h' l (xs.eraseIdx i) ∧ Fr g g l h h' ∧ cap h' l = cap h l ∧ h'.nx = h.nx ∧ h'.su = h.su := by
  obtain ⟨a1, a2, a3, a4, e, a5, a6⟩ := a
  have hlt : i < xs.length := (List.getElem?_eq_some_iff.mp hi).1
  have a6 : Ar g h l e xs := a6.resolve_left (fun q => by rw [q.2] at hlt; exact absurd hlt (Nat.not_lt_zero _))
  obtain ⟨b1, b2, b3, b4, b5, b6⟩ := a6
  have hlen : (xs.eraseIdx i).length = xs.length - 1 := List.length_eraseIdx_of_lt hlt
  have F0 := Fr.sfi w (Un.rf g l) 200 (h.fi 200 l + 1)
  have F1 := Fr.tar F0.wf (p := l) (a := e) (Un.ch b2) (fun j => (xs.eraseIdx i)[j]?)
  have F2 := Fr.sfi F1.wf (Un.rf g l) 202 (nI (xs.length - 1))
  refine ⟨(((h.sfi 200 l (h.fi 200 l + 1)).tar e (fun j => (xs.eraseIdx i)[j]?))).sfi 202 l (nI (xs.length - 1)), ?_, ⟨a1, by omega, ?_, fun z hz => a4 z (List.mem_of_mem_eraseIdx hz), e, a5, Or.inr ⟨b1, b2, by show _ ≤ h.al e; omega, b4, b5, ?_⟩⟩, (F0.tr w F1).tr w F2, ?_, rfl, rfl⟩
  · unfold J_Jx4a65c_remove_915e3 B_Jx4a65c_remove_915e3_0
    rw [a3, ck_index hlt (by omega)]
    show B_Jx4a65c_remove_915e3_8 N l h (nI i) (nI i) = _
    unfold B_Jx4a65c_remove_915e3_8
    refine (dr_e (by exact a5) (by exact b1)).trans ?_
    refine (ck_ix (show _ < h.al e by omega) (show h.al e < _ by omega)).trans ?_
    rw [fast_rem b1 b3 b4 a3 hlt b6 a4, b6, ni_clp (by omega)]
    show some (_, xs[i]?) = _
    rw [hi]
  · rw [pj_sfi_fi, if_pos rfl, if_pos rfl, hlen]
  · show va_up h.ar e _ e = _
    rw [va_up_self]
  · exact (cap_e (l := l) (h := ((h.sfi 200 l (h.fi 200 l + 1)).tar e _).sfi 202 l _) a5).trans (cap_e a5).symm
/-- a list made empty -/
theorem al_clear_loop {g : Nat → Nat} {l e : Nat} {n : Nat} (N : Nat) : ∀ (m k : Nat) (h : Hp) (F : Nat), m = n - k → k ≤ n → n < 1000000 → m < F → h.kd e = 23 → n ≤ h.al e → h.al e < 2147483648 → L_Jx4a65c_clear_da8c8_27 N l F h (some e) (nI n) (nI k) = some (h.tar e (fun i => if k ≤ i ∧ i < n then none else h.ar e i), ()) := by
  intro m
  induction m with
  | zero =>
    intro k h F hm hk hn hF h1 h2 h3
    obtain ⟨F, rfl⟩ : ∃ F', F = F' + 1 := ⟨F - 1, by omega⟩
    show B_Jx4a65c_clear_da8c8_27 N _ l h (some e) (nI n) (nI k) = _
    unfold B_Jx4a65c_clear_da8c8_27
    rw [if_pos ((ni_le (by omega) (by omega)).mpr (by omega))]
    have : (fun i => if k ≤ i ∧ i < n then none else h.ar e i) = h.ar e := by
      funext i
      rw [if_neg (by omega)]
    rw [this]
    unfold Hp.tar
    have : va_up h.ar e (h.ar e) = h.ar := by
      funext b
      by_cases q : b = e
      · rw [q, va_up_self]
      · rw [va_up_ne _ _ q]
    rw [this]
    rfl
  | succ m ih =>
    intro k h F hm hk hn hF h1 h2 h3
    obtain ⟨F, rfl⟩ : ∃ F', F = F' + 1 := ⟨F - 1, by omega⟩
    show B_Jx4a65c_clear_da8c8_27 N (L_Jx4a65c_clear_da8c8_27 N l F) l h (some e) (nI n) (nI k) = _
    unfold B_Jx4a65c_clear_da8c8_27
    rw [if_neg (fun z => by rw [ni_le (by omega) (by omega)] at z; omega), dr_eq h1, ck_ix (by omega) h3, ck_no, ni_inc, ni_clp (by omega), ih (k + 1) (h.sar e k none) F (by omega) (by omega) hn (by omega) h1 h2 h3, sar_tar, tar_tar]
    congr 4
    funext i
    by_cases q : i = k
    · subst q
      rw [if_neg (by omega), if_pos (by omega)]
      show va_up h.ar e (va_up (h.ar e) i none) e i = none
      rw [va_up_self, va_up_self]
    · have : (h.tar e (va_up (h.ar e) k none)).ar e i = h.ar e i := by
        show va_up h.ar e (va_up (h.ar e) k none) e i = _
        rw [va_up_self, va_up_ne _ _ q]
      rw [this]
      by_cases q2 : k + 1 ≤ i ∧ i < n
      · rw [if_pos q2, if_pos (by omega)]
      · rw [if_neg q2, if_neg (by omega)]
theorem al_clear {g : Nat → Nat} {h : Hp} {l : Nat} {xs : List Nat} (a : Al g h l xs) (w : Wf g h) (N : Nat) (hN : 100000 < N) : ∃ h', J_Jx4a65c_clear_da8c8 N l h = some (h', ()) ∧ Al g h' l [] ∧ Fr g g l h h' ∧ cap h' l = cap h l ∧ h'.nx = h.nx ∧ h'.su = h.su := by
  obtain ⟨a1, a2, a3, a4, e, a5, a6⟩ := a
  have F0 := Fr.sfi w (Un.rf g l) 200 (h.fi 200 l + 1)
  have F1 := Fr.sfi F0.wf (Un.rf g l) 202 (0 : Int32)
  unfold J_Jx4a65c_clear_da8c8 B_Jx4a65c_clear_da8c8_0
  rw [show (h.sfi 200 l (h.fi 200 l + 1)).fi 202 l = nI xs.length from a3, show (h.sfi 200 l (h.fi 200 l + 1)).fr 201 l = some e from a5]
  rcases a6 with ⟨q1, q2⟩ | ⟨b1, b2, b3, b4, b5, b6⟩
  · subst q2
    obtain ⟨N, rfl⟩ : ∃ F', N = F' + 1 := ⟨N - 1, by omega⟩
    refine ⟨_, rfl, ⟨a1, (by decide), ?_, (fun z hz => absurd hz (List.not_mem_nil)), e, a5, Or.inl ⟨q1, rfl⟩⟩, F0.tr w F1, ?_, rfl, rfl⟩
    · rw [pj_sfi_fi, if_pos rfl, if_pos rfl]
      rfl
    · exact (cap_e (l := l) (h := (h.sfi 200 l (h.fi 200 l + 1)).sfi 202 l 0) a5).trans (cap_e a5).symm
  · rw [show (0 : Int32) = nI 0 from rfl, al_clear_loop (e := e) (g := g) N xs.length 0 ((h.sfi 200 l (h.fi 200 l + 1)).sfi 202 l (nI 0)) N (by omega) (by omega) (by omega) (by omega) b1 b3 (show h.al e < _ by omega)]
    refine ⟨_, rfl, ⟨a1, (by decide), ?_, (fun z hz => absurd hz (List.not_mem_nil)), e, a5, Or.inr ⟨b1, b2, Nat.zero_le _, b4, b5, ?_⟩⟩, (F0.tr w F1).tr w (Fr.tar F1.wf (p := l) (a := e) (Un.ch b2) _), ?_, rfl, rfl⟩
    · show ((h.sfi 200 l (h.fi 200 l + 1)).sfi 202 l (nI 0)).fi 202 l = _
      rw [pj_sfi_fi, if_pos rfl, if_pos rfl]
      rfl
    · show va_up h.ar e _ e = _
      rw [va_up_self]
      funext i
      by_cases q : 0 ≤ i ∧ i < xs.length
      · rw [if_pos q]; rfl
      · rw [if_neg q]
        show h.ar e i = none
        rw [b6]
        exact List.getElem?_eq_none (by omega)
    · exact (cap_e (l := l) (h := ((h.sfi 200 l (h.fi 200 l + 1)).sfi 202 l (nI 0)).tar e _) a5).trans (cap_e a5).symm
/-- a new list -/
theorem al_init {g : Nat → Nat} {h : Hp} {l : Nat} (hk : h.kd l = 2) (hz : h.fi 202 l = 0) (w : Wf g h) (N : Nat) : ∃ h', J_Jx4a65c_init_da8c8 N l h = some (h', ()) ∧ Al g h' l [] ∧ Fr g g l h h' ∧ cap h' l = 0 ∧ h'.nx = h.nx ∧ h'.su = h.su := by
  have F1 := Fr.sfi w (Un.rf g l) 200 (0 : Int32)
  have F2 := Fr.sfr F1.wf (Un.rf g l) 201 (some h.se.1)
  have r1 : ((h.sfi 200 l 0).sfr 201 l (some h.se.1)).fr 201 l = some h.se.1 := by rw [pj_sfr_fr, if_pos rfl, if_pos rfl]
  exact ⟨(h.sfi 200 l 0).sfr 201 l (some h.se.1), rfl, ⟨hk, by decide, hz, (fun z hz => absurd hz (List.not_mem_nil)), h.se.1, r1, Or.inl ⟨rfl, rfl⟩⟩, F1.tr w F2, (cap_e r1).trans (if_pos rfl), rfl, rfl⟩
