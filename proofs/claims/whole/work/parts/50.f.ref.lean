/-! isIdle, ownOf, momentOf, versionAt, sees -/
section RF6
variable {h : Hp} {M b c w l v k r : Nat}
/-- x is the number of one at work -/
def actT (h : Hp) (M b : Nat) (x : Int32) : Prop := ∃ t, x = nI t ∧ 1 ≤ t ∧ t ≤ b ∧ h.bi (M + 1) t = 1
theorem rf_isIdle (q : Rk h M) (n : Rn h M b c w l v k r) (N : Nat) (x : Int32) : (actT h M b x ∧ J_X10_isIdle N M h x = some (h.sgi 1300 M 0, 0)) ∨ (¬ actT h M b x ∧ J_X10_isIdle N M h x = some (h.sgi 1300 M 1, 1)) := by
  have hb := n.2.2.2.2.2.2.2.1
  have t1 : B_X10_isIdle_24 N M h (some M) = some (h.sgi 1300 M 1, 1) := by
    unfold B_X10_isIdle_24 B_X10_isIdle_29 B_X10_isIdle_44
    refine (dr_e (by exact rfl) (by exact q.1)).trans ?_
    rw [gi_same]
    refine (if_neg (by decide)).trans ?_
    exact ck_eq (Or.inr rfl)
  have t0 : B_X10_isIdle_29 N M h (some M) 0 = some (h.sgi 1300 M 0, 0) := by
    unfold B_X10_isIdle_29 B_X10_isIdle_44
    refine (dr_e (by exact rfl) (by exact q.1)).trans ?_
    rw [gi_same]
    refine (if_pos (by decide)).trans ?_
    exact ck_eq (Or.inl rfl)
  unfold J_X10_isIdle B_X10_isIdle_0
  rw [n.1]
  by_cases z1 : x < 1
  · right
    rw [if_pos z1]
    refine ⟨fun ⟨t, e, h1, h2, _⟩ => ?_, t1⟩
    rw [e, ni_lt1 (by omega)] at z1
    omega
  · rw [if_neg z1]
    by_cases z2 : nI b < x
    · right
      rw [if_pos z2]
      refine ⟨fun ⟨t, e, h1, h2, _⟩ => ?_, t1⟩
      rw [e, ni_lt (by omega) (by omega)] at z2
      omega
    · rw [if_neg z2]
      have tb : x.toInt.toNat ≤ b ∧ 1 ≤ x.toInt.toNat := by
        rw [Int32.lt_iff_toInt_lt, i1] at z1
        rw [Int32.lt_iff_toInt_lt, nI_toInt (by omega)] at z2
        omega
      have e : x = nI x.toInt.toNat := ni_of (by omega)
      generalize x.toInt.toNat = t at e tb
      rw [e]
      rw [rd_1301 q, rx_1301 q (by omega)]
      rw [ni_clp (by omega)]
      by_cases z3 : h.bi (M + 1) t = 1
      · left
        rw [if_pos z3]
        exact ⟨⟨t, rfl, tb.2, tb.1, z3⟩, t0⟩
      · right
        rw [if_neg z3]
        refine ⟨fun ⟨t', e', h1, h2, h3⟩ => z3 ?_, t1⟩
        rw [ni_inj (by omega) (by omega)] at e'
        rw [e']; exact h3
def ownC (h : Hp) (M t : Nat) (key : Int32) (i : Nat) : Prop := h.bi (M + 11) i = nI t ∧ h.bi (M + 12) i = key ∧ h.bi (M + 15) i = 0
/-- the last i < w with P, or -1 -/
def lastS (P : Nat → Prop) (w : Nat) (x : Int32) : Prop := (x = -1 ∧ ∀ i, i < w → ¬ P i) ∨ ∃ i, i < w ∧ x = nI i ∧ P i ∧ ∀ j, i < j → j < w → ¬ P j
theorem lastS.uniq {P : Nat → Prop} {w : Nat} {x y : Int32} (p : lastS P w x) (q : lastS P w y) : x = y := by
  rcases p with ⟨p1, p2⟩ | ⟨i, p1, p2, p3, p4⟩ <;> rcases q with ⟨q1, q2⟩ | ⟨j, q1, q2, q3, q4⟩
  · rw [p1, q1]
  · exact absurd q3 (p2 j q1)
  · exact absurd p3 (q2 i p1)
  · have : i = j := by
      rcases Nat.lt_trichotomy i j with z | z | z
      · exact absurd q3 (p4 j z q1)
      · exact z
      · exact absurd p3 (q4 i z p1)
    rw [p2, q2, this]
theorem rf_ownOf (q : Rk h M) (n : Rn h M b c w l v k r) (N : Nat) (hN : 1000 < N) (t : Nat) (key : Int32) : ∃ x, J_X10_ownOf N M h (nI t) key = some (h, x) ∧ lastS (ownC h M t key) w x := by
  have hw := n.2.2.2.2.2.2.2.2.2.1
  have key := lp_dn (G := fun F i (_ : Unit) => L_X10_ownOf_7 N M F h (nI t) key (nI i - 1)) (Inv := fun i _ => i ≤ w ∧ ∀ j, i ≤ j → j < w → ¬ ownC h M t key j) (Q := fun o => ∃ x, o = some (h, x) ∧ lastS (ownC h M t key) w x) ?_ ?_ w N () (by omega) ⟨Nat.le_refl _, fun j h1 h2 => by omega⟩
  · unfold J_X10_ownOf B_X10_ownOf_0
    rw [n.2.2.1]
    exact key
  · intro F s hs
    refine ⟨-1, ?_, Or.inl ⟨rfl, fun i hi => hs.2 i (Nat.zero_le _) hi⟩⟩
    show B_X10_ownOf_7 N _ M h (nI t) key (nI 0 - 1) = _
    unfold B_X10_ownOf_7
    refine (if_pos (by decide)).trans ?_
    rfl
  · intro F i s hs
    obtain ⟨iw, hs⟩ := hs
    have body : L_X10_ownOf_7 N M (F + 1) h (nI t) key (nI (i + 1) - 1) = if h.bi (M + 11) i = nI t then (if h.bi (M + 12) i = key then (if h.bi (M + 15) i = 0 then some (h, nI i) else L_X10_ownOf_7 N M F h (nI t) key (nI i - 1)) else L_X10_ownOf_7 N M F h (nI t) key (nI i - 1)) else L_X10_ownOf_7 N M F h (nI t) key (nI i - 1) := by
      show B_X10_ownOf_7 N (L_X10_ownOf_7 N M F) M h (nI t) key (nI (i + 1) - 1) = _
      rw [ni_pred]
      unfold B_X10_ownOf_7 B_X10_ownOf_42
      refine (if_neg (by exact ni_nn (by omega))).trans ?_
      rw [rd_1314 q, rx_1314 q (by omega), rd_1315 q, rx_1315 q (by omega), rd_1318 q, rx_1318 q (by omega)]
      rw [ni_clp (by omega), ni_m]
    show (∃ s' : Unit, (i ≤ w ∧ ∀ j, i ≤ j → j < w → ¬ ownC h M t key j) ∧ L_X10_ownOf_7 N M (F + 1) h (nI t) key (nI (i + 1) - 1) = L_X10_ownOf_7 N M F h (nI t) key (nI i - 1)) ∨ ∃ x, L_X10_ownOf_7 N M (F + 1) h (nI t) key (nI (i + 1) - 1) = some (h, x) ∧ lastS (ownC h M t key) w x
    rw [body]
    by_cases z : ownC h M t key i
    · right
      rw [if_pos z.1, if_pos z.2.1, if_pos z.2.2]
      exact ⟨_, rfl, Or.inr ⟨i, by omega, rfl, z, fun j h1 h2 => hs j h1 h2⟩⟩
    · left
      refine ⟨(), ⟨by omega, fun j h1 h2 => ?_⟩, ?_⟩
      · by_cases e : j = i
        · rw [e]; exact z
        · exact hs j (by omega) h2
      · by_cases z1 : h.bi (M + 11) i = nI t
        · rw [if_pos z1]
          by_cases z2 : h.bi (M + 12) i = key
          · rw [if_pos z2, if_neg (fun y => z ⟨z1, z2, y⟩)]
          · rw [if_neg z2]
        · rw [if_neg z1]
/-- the moment of a version -/
def vMo (h : Hp) (M i : Nat) : Int32 := h.bi (M + 4) (h.bi (M + 20) i).toNatClampNeg
def VtOk (h : Hp) (M b v : Nat) : Prop := ∀ i, i < v → ∃ u, 1 ≤ u ∧ u ≤ b ∧ h.bi (M + 20) i = nI u
theorem rf_momentOf (q : Rk h M) (n : Rn h M b c w l v k r) (N : Nat) (g : VtOk h M b v) {i : Nat} (hi : i < v) : J_X10_momentOf N M h (nI i) = some (h, vMo h M i) := by
  have hb := n.2.2.2.2.2.2.2.1
  have hv := n.2.2.2.2.2.2.2.2.2.2.2.1
  obtain ⟨u, u1, u2, u3⟩ := g i hi
  unfold J_X10_momentOf B_X10_momentOf_0 vMo
  rw [rd_1325 q, rx_1325 q (by omega)]
  rw [ni_clp (by omega), u3]
  rw [rd_1304 q, rx_1304 q (by omega)]
def vatC (h : Hp) (M : Nat) (key m : Int32) (i : Nat) : Prop := h.bi (M + 19) i = key ∧ vMo h M i ≤ m
theorem rf_versionAt (q : Rk h M) (n : Rn h M b c w l v k r) (N : Nat) (hN : 1000 < N) (g : VtOk h M b v) (key m : Int32) : ∃ x, J_X10_versionAt N M h key m = some (h, x) ∧ lastS (vatC h M key m) v x := by
  have hv := n.2.2.2.2.2.2.2.2.2.2.2.1
  have key := lp_inv (G := fun F i (s : Int32) => L_X10_versionAt_5 N M F h key m s (nI i)) (hi := v) (Inv := fun i s => lastS (vatC h M key m) i s) (Q := fun o => ∃ x, o = some (h, x) ∧ lastS (vatC h M key m) v x) ?_ ?_ v 0 N (-1) (by omega) (by omega) (by omega) (Or.inl ⟨rfl, fun i hi => by omega⟩)
  · exact key
  · intro F s hs
    refine ⟨s, ?_, hs⟩
    show B_X10_versionAt_5 N _ M h key m s (nI v) = _
    unfold B_X10_versionAt_5
    rw [n.2.2.2.2.1]
    refine (if_pos (by exact (ni_le (by omega) (by omega)).mpr (by omega))).trans ?_
    rfl
  · intro F i s hi hs
    left
    have body : L_X10_versionAt_5 N M (F + 1) h key m s (nI i) = if h.bi (M + 19) i = key then (if m < vMo h M i then L_X10_versionAt_5 N M F h key m s (nI (i + 1)) else L_X10_versionAt_5 N M F h key m (nI i) (nI (i + 1))) else L_X10_versionAt_5 N M F h key m s (nI (i + 1)) := by
      show B_X10_versionAt_5 N (L_X10_versionAt_5 N M F) M h key m s (nI i) = _
      unfold B_X10_versionAt_5
      rw [n.2.2.2.2.1]
      refine (if_neg (by exact fun z => by rw [ni_le (by omega) (by omega)] at z; omega)).trans ?_
      rw [rd_1324 q, rx_1324 q (by omega)]
      rw [ni_clp (by omega)]
      by_cases z : h.bi (M + 19) i = key
      · rw [if_pos z, if_pos z]
        refine (bnd (by exact rf_momentOf q n N g hi)).trans ?_
        unfold B_X10_versionAt_31 B_X10_versionAt_38
        rw [ni_inc]
      · rw [if_neg z, if_neg z]
        unfold B_X10_versionAt_38
        rw [ni_inc]
    have skip : ¬ vatC h M key m i → lastS (vatC h M key m) (i + 1) s := by
      intro z
      rcases hs with ⟨p1, p2⟩ | ⟨j, p1, p2, p3, p4⟩
      · refine Or.inl ⟨p1, fun u hu => ?_⟩
        by_cases e : u = i
        · rw [e]; exact z
        · exact p2 u (by omega)
      · refine Or.inr ⟨j, by omega, p2, p3, fun u u1 u2 => ?_⟩
        by_cases e : u = i
        · rw [e]; exact z
        · exact p4 u u1 (by omega)
    show ∃ s' : Int32, lastS (vatC h M key m) (i + 1) s' ∧ L_X10_versionAt_5 N M (F + 1) h key m s (nI i) = L_X10_versionAt_5 N M F h key m s' (nI (i + 1))
    rw [body]
    by_cases z1 : h.bi (M + 19) i = key
    · rw [if_pos z1]
      by_cases z2 : m < vMo h M i
      · rw [if_pos z2]
        refine ⟨s, skip (fun y => ?_), rfl⟩
        have := y.2
        rw [Int32.le_iff_toInt_le] at this
        rw [Int32.lt_iff_toInt_lt] at z2
        omega
      · rw [if_neg z2]
        refine ⟨nI i, Or.inr ⟨i, by omega, rfl, ⟨z1, ?_⟩, fun u u1 u2 => by omega⟩, rfl⟩
        rw [Int32.le_iff_toInt_le]
        rw [Int32.lt_iff_toInt_lt] at z2
        omega
    · rw [if_neg z1]
      exact ⟨s, skip (fun y => z1 y.1), rfl⟩
/-- booleans of writes and versions -/
def WvB (h : Hp) (M w v : Nat) : Prop := (∀ i, i < w → h.bi (M + 14) i = 0 ∨ h.bi (M + 14) i = 1) ∧ ∀ i, i < v → h.bi (M + 22) i = 0 ∨ h.bi (M + 22) i = 1
/-- what t sees of a key -/
def SeeR (h : Hp) (M w v t : Nat) (key : Int32) (h' : Hp) (x : Int32) : Prop := (∃ i, i < w ∧ lastS (ownC h M t key) w (nI i) ∧ h' = h.sgl 1351 M (h.bw (M + 13) i) ∧ x = h.bi (M + 14) i) ∨ (lastS (ownC h M t key) w (-1) ∧ ((lastS (vatC h M key (h.bi (M + 3) t)) v (-1) ∧ h' = h ∧ x = 0) ∨ ∃ i, i < v ∧ lastS (vatC h M key (h.bi (M + 3) t)) v (nI i) ∧ h' = h.sgl 1351 M (h.bw (M + 21) i) ∧ x = h.bi (M + 22) i))
theorem rf_sees (q : Rk h M) (n : Rn h M b c w l v k r) (N : Nat) (hN : 1000 < N) (g : VtOk h M b v) (B : WvB h M w v) {t : Nat} (ht : t < 514) (key : Int32) : ∃ h' x, J_X10_sees N M h (nI t) key = some (h', x) ∧ SeeR h M w v t key h' x := by
  have hw := n.2.2.2.2.2.2.2.2.2.1
  have hv := n.2.2.2.2.2.2.2.2.2.2.2.1
  obtain ⟨x1, e1, e2⟩ := rf_ownOf q n N hN t key
  unfold J_X10_sees B_X10_sees_0
  have st : ∀ {y : Option (Hp × Int32)}, B_X10_sees_6 N M h (nI t) key x1 = y → (J_X10_ownOf N M h (nI t) key).bind (fun z => B_X10_sees_6 N M z.1 (nI t) key z.2) = y := fun hz => (bnd e1).trans hz
  rcases e2 with ⟨p1, p2⟩ | ⟨i, p1, p2, p3, p4⟩
  · obtain ⟨x2, f1, f2⟩ := rf_versionAt q n N hN g key (h.bi (M + 3) t)
    have st2 : ∀ {y : Option (Hp × Int32)}, B_X10_sees_40 N M h x2 = y → B_X10_sees_6 N M h (nI t) key x1 = y := by
      intro y hy
      unfold B_X10_sees_6
      refine (if_pos (by exact p1)).trans ?_
      rw [rd_1303 q, rx_1303 q ht]
      rw [ni_clp (by omega)]
      refine (bnd (by exact f1)).trans ?_
      exact hy
    rcases f2 with ⟨r1, r2⟩ | ⟨i, r1, r2, r3, r4⟩
    · refine ⟨h, 0, st (st2 ?_), Or.inr ⟨Or.inl ⟨rfl, p2⟩, Or.inl ⟨Or.inl ⟨rfl, r2⟩, rfl, rfl⟩⟩⟩
      unfold B_X10_sees_40
      refine (if_pos (by exact r1)).trans ?_
      rfl
    · refine ⟨_, _, st (st2 ?_), Or.inr ⟨Or.inl ⟨rfl, p2⟩, Or.inr ⟨i, r1, Or.inr ⟨i, r1, rfl, r3, r4⟩, rfl, rfl⟩⟩⟩
      unfold B_X10_sees_40
      rw [r2]
      refine (if_neg (by exact ni_m1 (by omega))).trans ?_
      rw [rd_1326 q, rx_1326 q (by omega)]
      rw [ni_clp (by omega)]
      rw [pj_sgl_gr, dr_sgl, rd_1327 q, pj_sgl_al, ry_1327 q (by omega), pj_sgl_bi]
      exact ck_eq (B.2 i r1)
  · refine ⟨_, _, st ?_, Or.inl ⟨i, p1, Or.inr ⟨i, p1, rfl, p3, p4⟩, rfl, rfl⟩⟩
    unfold B_X10_sees_6
    rw [p2]
    refine (if_neg (by exact ni_m1 (by omega))).trans ?_
    rw [rd_1316 q, rx_1316 q (by omega)]
    rw [ni_clp (by omega)]
    rw [pj_sgl_gr, dr_sgl, rd_1317 q, pj_sgl_al, ry_1317 q (by omega), pj_sgl_bi]
    exact ck_eq (B.1 i p1)
end RF6
