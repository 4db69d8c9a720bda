/-! the smaller methods of the object -/
theorem ni_of {x : Int32} (h : 0 ≤ x.toInt) : x = nI x.toInt.toNat := by
  apply Int32.toInt_inj.mp
  have := i32_rng x
  rw [nI_toInt (by omega)]
  omega
theorem i1 : (1 : Int32).toInt = 1 := rfl
theorem i0 : (0 : Int32).toInt = 0 := rfl
theorem adr_eq {ts : List Nat} {i t : Nat} (h : ts[i]? = some t) : adr ts i = t := by unfold adr; rw [h]; rfl
theorem adr_get {ts : List Nat} {i : Nat} (h : i < ts.length) : ts[i]? = some (adr ts i) := by unfold adr; rw [List.getElem?_eq_getElem h]; rfl
theorem map_get {ts xs : List Nat} {i j : Nat} (h : xs[i]? = some j) : (xs.map (adr ts))[i]? = some (adr ts j) := by rw [List.getElem?_map, h]; rfl
/-- what stands at number x, from 1 on -/
def num (ts : List Nat) (x : Int32) : Option Nat := if 1 ≤ x.toInt then ts[x.toInt.toNat - 1]? else none
section KM
variable {g : Nat → Nat} {h : Hp} {p : Nat → Nat} {G : Nat → Int32} {fv : Int64} {lr : Option Nat} {B : Shf} {V : List Kv} {ts : List Nat} {D : Nat → TD} {ac cm ot : List Nat} {ct rs : Nat → Int32} {d0 : AnD} {R : List (Int32 × Int64)} {cO : Nat}
theorem kr_numbered (q : Kr g h p G fv lr B V ts D ac cm ot ct rs d0 R cO) (N : Nat) (x : Int32) : J_X9_numbered N (p 11) h x = some (h, num ts x) := by
  obtain ⟨k1, k2, k3, k4, k5, k6, k7, k8, k9, k10, k11, k12⟩ := q
  have hl := k3.2.2.1
  have hx := i32_rng x
  unfold J_X9_numbered B_X9_numbered_0 num
  by_cases c : x < 1
  · have c' : ¬ 1 ≤ x.toInt := by rw [Int32.lt_iff_toInt_lt, i1] at c; omega
    rw [if_pos c, if_neg c']
    rfl
  · have c' : 1 ≤ x.toInt := by rw [Int32.lt_iff_toInt_lt, i1] at c; omega
    rw [if_neg c, if_pos c']
    refine (dr_e (by exact k1.2.2.2.2.2.1) (by exact k3.2.1)).trans ?_
    refine (bnd (by exact al_size k3.2 N)).trans ?_
    unfold B_X9_numbered_13
    obtain ⟨m, hm, e, hb⟩ : ∃ m : Nat, 1 ≤ m ∧ x = nI m ∧ m < 2147483648 ∧ x.toInt.toNat = m := ⟨x.toInt.toNat, by omega, ni_of (by omega), by omega, rfl⟩
    rw [hb.2]
    have hb := hb.1
    by_cases c2 : nI ts.length < x
    · refine (if_pos (by exact c2)).trans ?_
      have : ts[m - 1]? = none := by
        rw [e, ni_lt (by omega) (by omega)] at c2
        exact List.getElem?_eq_none (by omega)
      rw [this]
      rfl
    · refine (if_neg (by exact c2)).trans ?_
      have hml : m ≤ ts.length := by
        rw [e, ni_lt (by omega) (by omega)] at c2
        omega
      have hg : ts[m - 1]? = some (adr ts (m - 1)) := adr_get (by omega)
      refine (dr_e (by exact k1.2.2.2.2.2.1) (by exact k3.2.1)).trans ?_
      rw [e, show nI m - 1 = nI (m - 1) from ni_sub (a := m) (b := 1) hm]
      refine (bnd (by exact al_get k3.2 N hg)).trans ?_
      unfold B_X9_numbered_26
      refine (dr_e (by exact rfl) (by exact (k11 _ _ hg).1)).trans ?_
      rw [hg]
      rfl
theorem num_some {ts : List Nat} {x : Int32} {t : Nat} (h : num ts x = some t) : ∃ m, 1 ≤ m ∧ x = nI m ∧ ts[m - 1]? = some t := by
  unfold num at h
  by_cases c : 1 ≤ x.toInt
  · rw [if_pos c] at h
    refine ⟨x.toInt.toNat, by omega, ni_of (by omega), h⟩
  · rw [if_neg c] at h; cases h
theorem num_nI {ts : List Nat} {m : Nat} (h1 : 1 ≤ m) (h2 : m < 2147483648) : num ts (nI m) = ts[m - 1]? := by
  unfold num
  have := nI_toInt (n := m) (by omega)
  rw [if_pos (by omega)]
  congr 2
  omega
theorem num_0 {ts : List Nat} : num ts 0 = none := by
  unfold num
  exact if_neg (by decide)
theorem kr_withMoment (q : Kr g h p G fv lr B V ts D ac cm ot ct rs d0 R cO) (hcm : ∀ i ∈ cm, i < ts.length) (N : Nat) (x : Int32) : J_X9_withMoment N (p 11) h x = some (h, num (cm.map (adr ts)) x) := by
  obtain ⟨k1, k2, k3, k4, k5, k6, k7, k8, k9, k10, k11, k12⟩ := q
  have hl := k5.2.2.1
  have hx := i32_rng x
  unfold J_X9_withMoment B_X9_withMoment_0 num
  by_cases c : x < 1
  · have c' : ¬ 1 ≤ x.toInt := by rw [Int32.lt_iff_toInt_lt, i1] at c; omega
    rw [if_pos c, if_neg c']
    rfl
  · have c' : 1 ≤ x.toInt := by rw [Int32.lt_iff_toInt_lt, i1] at c; omega
    rw [if_neg c, if_pos c']
    refine (dr_e (by exact k1.2.2.2.2.2.2.2.1) (by exact k5.2.1)).trans ?_
    refine (bnd (by exact al_size k5.2 N)).trans ?_
    unfold B_X9_withMoment_13
    obtain ⟨m, hm, e, hb⟩ : ∃ m : Nat, 1 ≤ m ∧ x = nI m ∧ m < 2147483648 ∧ x.toInt.toNat = m := ⟨x.toInt.toNat, by omega, ni_of (by omega), by omega, rfl⟩
    rw [hb.2]
    have hb := hb.1
    by_cases c2 : nI (cm.map (adr ts)).length < x
    · refine (if_pos (by exact c2)).trans ?_
      have : (cm.map (adr ts))[m - 1]? = none := by
        rw [e, ni_lt (by omega) (by omega)] at c2
        exact List.getElem?_eq_none (by omega)
      rw [this]
      rfl
    · refine (if_neg (by exact c2)).trans ?_
      have hml : m ≤ (cm.map (adr ts)).length := by
        rw [e, ni_lt (by omega) (by omega)] at c2
        omega
      have hml' : m ≤ cm.length := by rw [List.length_map] at hml; exact hml
      have hi : cm[m - 1]? = some cm[m - 1] := List.getElem?_eq_getElem (by omega)
      have hg := map_get (ts := ts) hi
      have hj := hcm _ (List.mem_of_getElem? hi)
      refine (dr_e (by exact k1.2.2.2.2.2.2.2.1) (by exact k5.2.1)).trans ?_
      rw [e, show nI m - 1 = nI (m - 1) from ni_sub (a := m) (b := 1) hm]
      refine (bnd (by exact al_get k5.2 N hg)).trans ?_
      unfold B_X9_withMoment_26
      refine (dr_e (by exact rfl) (by exact (k11 _ _ (adr_get hj)).1)).trans ?_
      rw [hg]
      rfl
theorem kr_horizon (q : Kr g h p G fv lr B V ts D ac cm ot ct rs d0 R cO) (hac : ∀ i ∈ ac, i < ts.length) (N : Nat) : J_X9_horizon N (p 11) h = some (h, match ac with | [] => nI cm.length | i :: _ => (D i).1 1001) := by
  obtain ⟨k1, k2, k3, k4, k5, k6, k7, k8, k9, k10, k11, k12⟩ := q
  unfold J_X9_horizon B_X9_horizon_0
  refine (dr_e (by exact k1.2.2.2.2.2.2.1) (by exact k4.2.1)).trans ?_
  refine (bnd (by exact al_isEmpty k4.2 N)).trans ?_
  unfold B_X9_horizon_7
  cases ac with
  | nil =>
    rw [show (if List.map (adr ts) [] = [] then (1 : Int32) else 0) = 1 from if_pos rfl]
    refine (if_neg (by show ¬ (1 : Int32) = 0; decide)).trans ?_
    refine (dr_e (by exact k1.2.2.2.2.2.2.2.1) (by exact k5.2.1)).trans ?_
    refine (bnd (by exact al_size k5.2 N)).trans ?_
    rw [List.length_map]
    rfl
  | cons i r =>
    rw [show (if List.map (adr ts) (i :: r) = [] then (1 : Int32) else 0) = 0 from if_neg (by simp)]
    refine (if_pos (by rfl)).trans ?_
    refine (dr_e (by exact k1.2.2.2.2.2.2.1) (by exact k4.2.1)).trans ?_
    have hj := hac i List.mem_cons_self
    refine (bnd (by exact al_get (i := 0) k4.2 N (map_get (ts := ts) (i := 0) rfl))).trans ?_
    unfold B_X9_horizon_28
    have tr := k11 _ _ (adr_get hj)
    refine (dr_e (by exact rfl) (by exact tr.1)).trans ?_
    rw [tr.2.2.1]
    rfl
theorem kr_take (q : Kr g h p G fv lr B V ts D ac cm ot ct rs d0 R cO) (w : Wf g h) (N n : Nat) (hn : n < 512) (e : G 1208 = nI n) : ∃ h', J_X9_takeRecord N (p 11) h = some (h', 1) ∧ Kr g h' p (va_up G 1208 (nI (n + 1))) fv lr B V ts D ac cm ot ct rs d0 R cO ∧ Fr g g (p 11) h h' ∧ h'.nx = h.nx ∧ h'.su = h.su := by
  refine ⟨h.sfi 1208 (p 11) (nI (n + 1)), ?_, q.sfi w 1208 (nI (n + 1)), Fr.sfi w (Un.rf g (p 11)) 1208 _, rfl, rfl⟩
  unfold J_X9_takeRecord B_X9_takeRecord_0
  rw [q.1.2.2.1 1208, e, ni_inc]
  refine (if_pos (by exact (ni_lt (b := 512) (by omega) (by omega)).mpr hn)).trans ?_
  rfl
theorem kr_value (q : Kr g h p G fv lr B V ts D ac cm ot ct rs d0 R cO) (N : Nat) : J_X9_value N (p 11) h = some (h, fv) := by
  unfold J_X9_value B_X9_value_0
  rw [q.1.2.2.2.1]
theorem kr_key (q : Kr g h p G fv lr B V ts D ac cm ot ct rs d0 R cO) (N : Nat) : J_X9_key N (p 11) h = some (h, G 1209) := by
  unfold J_X9_key B_X9_key_0
  rw [q.1.2.2.1]
theorem kr_why (q : Kr g h p G fv lr B V ts D ac cm ot ct rs d0 R cO) (N : Nat) (x : Int32) : J_X9_why N (p 11) h x = some (h, if 0 ≤ x.toInt ∧ x.toInt < 4 then rs x.toInt.toNat else 0) := by
  obtain ⟨k1, k2, k3, k4, k5, k6, k7, k8, k9, k10, k11, k12⟩ := q
  unfold J_X9_why B_X9_why_0 B_X9_why_22 B_X9_why_23
  by_cases c : x < 0
  · have c' : ¬ (0 ≤ x.toInt ∧ x.toInt < 4) := by rw [Int32.lt_iff_toInt_lt, i0] at c; omega
    rw [if_pos c, if_neg c']
  · have c1 : 0 ≤ x.toInt := by rw [Int32.lt_iff_toInt_lt, i0] at c; omega
    rw [if_neg c]
    refine (dr_e (by exact k1.2.2.2.2.2.2.2.2.2.1) (by exact k8.1)).trans ?_
    rw [k8.2.2.1]
    have e := ni_of c1
    have hb : x.toInt.toNat < 2147483648 := by have := i32_rng x; omega
    by_cases c2 : nI 4 ≤ x
    · have : ¬ (0 ≤ x.toInt ∧ x.toInt < 4) := by
        rw [e, ni_le (by omega) hb] at c2
        omega
      rw [if_pos c2, if_neg this]
    · have c3 : 0 ≤ x.toInt ∧ x.toInt < 4 := by
        rw [e, ni_le (by omega) hb] at c2
        omega
      rw [if_neg c2, if_pos c3]
      refine (dr_e (by exact k1.2.2.2.2.2.2.2.2.2.1) (by exact k8.1)).trans ?_
      rw [k8.2.2.1]
      have e2 : x.toNatClampNeg = x.toInt.toNat := rfl
      rw [e2]
      refine (ck_eq (by exact fun z => z.elim c (fun y => by omega))).trans ?_
      rw [k8.2.2.2]
/-- a transaction that is active -/
theorem kr_active (q : Kr g h p G fv lr B V ts D ac cm ot ct rs d0 R cO) (N : Nat) {x : Int32} {i t : Nat} (hx : x = nI (i + 1)) (hi : ts[i]? = some t) (hs : (D i).1 1006 = 1) : J_X9_activeOne N (p 11) h x = some (h, some t) := by
  have hl := q.2.2.1.2.2.1
  have hlt := (List.getElem?_eq_some_iff.mp hi).1
  have e : num ts x = some t := by rw [hx, num_nI (by omega) (by omega)]; exact hi
  have tr := q.2.2.2.2.2.2.2.2.2.2.1 i t hi
  unfold J_X9_activeOne B_X9_activeOne_0
  refine (bnd (by exact kr_numbered q N x)).trans ?_
  unfold B_X9_activeOne_5
  refine (nl_so (by exact e)).trans ?_
  refine (ck_eq (by exact tr.1)).trans ?_
  refine (if_pos (by rw [tr.2.2.1]; exact hs)).trans ?_
  rfl
theorem kr_writing (q : Kr g h p G fv lr B V ts D ac cm ot ct rs d0 R cO) (N : Nat) {x : Int32} {i t : Nat} (hx : x = nI (i + 1)) (hi : ts[i]? = some t) (hs : (D i).1 1006 = 1) (hk : (D i).1 1005 = 0) : J_X9_writingOne N (p 11) h x = some (h, some t) := by
  have tr := q.2.2.2.2.2.2.2.2.2.2.1 i t hi
  unfold J_X9_writingOne B_X9_writingOne_0
  refine (bnd (by exact kr_active q N hx hi hs)).trans ?_
  unfold B_X9_writingOne_5
  refine (dr_e (by exact rfl) (by exact tr.1)).trans ?_
  refine (if_pos (by rw [tr.2.2.1]; exact hk)).trans ?_
  rfl
end KM
