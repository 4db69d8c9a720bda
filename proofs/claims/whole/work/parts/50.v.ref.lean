/-! rows, value, key, thrown, why -/
section RF22
variable {h : Hp} {M : Nat}
theorem rf_isRow (q : Rk h M) (N : Nat) {m : Nat} (hm : m < 2147483648) (em : h.gi 1346 M = nI m) (x : Int32) : (∃ i, x = nI i ∧ i < m ∧ J_X10_isRow N M h x = some (h.sgi 1300 M 0, 1)) ∨ ((¬ ∃ i, x = nI i ∧ i < m) ∧ J_X10_isRow N M h x = some (h.sgi 1300 M 1, 0)) := by
  have t1 : B_X10_isRow_13 N M h (some M) = some (h.sgi 1300 M 1, 0) := by
    unfold B_X10_isRow_13 B_X10_isRow_18 B_X10_isRow_33
    refine (dr_e (by exact rfl) (by exact q.1)).trans ?_
    rw [gi_same]
    refine (if_neg (by decide)).trans ?_
    exact ck_eq (Or.inl rfl)
  have t0 : B_X10_isRow_18 N M h (some M) 0 = some (h.sgi 1300 M 0, 1) := by
    unfold B_X10_isRow_18 B_X10_isRow_33
    refine (dr_e (by exact rfl) (by exact q.1)).trans ?_
    rw [gi_same]
    refine (if_pos (by rfl)).trans ?_
    exact ck_eq (Or.inr rfl)
  unfold J_X10_isRow B_X10_isRow_0
  rw [em]
  by_cases z1 : x < 0
  · right
    rw [if_pos z1]
    exact ⟨fun ⟨i, e, hi⟩ => ni_nn (show i < _ by omega) (by rw [← e]; exact z1), t1⟩
  · rw [if_neg z1]
    have hx : 0 ≤ x.toInt := by
      rw [Int32.lt_iff_toInt_lt, i0] at z1
      omega
    have e := ni_of hx
    have hj : x.toInt.toNat < 2147483648 := by
      have := i32_rng x
      omega
    generalize x.toInt.toNat = i at e hj
    by_cases z2 : x < nI m
    · left
      rw [if_pos z2]
      rw [e, ni_lt hj hm] at z2
      exact ⟨i, e, z2, t0⟩
    · right
      rw [if_neg z2]
      refine ⟨fun ⟨i', e', hi'⟩ => z2 ?_, t1⟩
      rw [e', ni_lt (by omega) hm]
      exact hi'
theorem rf_rowKey (q : Rk h M) (N : Nat) {m s : Nat} (hm : s + m < 42000) (em : h.gi 1346 M = nI m) (es : h.gi 1345 M = nI s) (x : Int32) : (∃ i, x = nI i ∧ i < m ∧ J_X10_rowKey N M h x = some (h.sgi 1300 M 0, h.bi (M + 33) (s + i))) ∨ ((¬ ∃ i, x = nI i ∧ i < m) ∧ J_X10_rowKey N M h x = some (h.sgi 1300 M 1, 0)) := by
  have q' : ∀ y, Rk (h.sgi 1300 M y) M := fun y => q.sgi _ _ _
  unfold J_X10_rowKey B_X10_rowKey_0
  rcases rf_isRow q N (show m < _ by omega) em x with ⟨i, e, hi, r⟩ | ⟨no, r⟩
  · refine Or.inl ⟨i, e, hi, ?_⟩
    refine (bnd (by exact r)).trans ?_
    show B_X10_rowKey_5 N M (h.sgi 1300 M 0) x 1 = _
    unfold B_X10_rowKey_5 B_X10_rowKey_23
    rw [if_neg (show ¬ (1 : Int32) = 0 by decide), gi_oth (by decide), es, e, show nI s + nI i = nI (s + i) from nI_add _ _, rd_1340 (q' 0), rx_1340 (q' 0) (by omega), ni_clp (by omega), pj_sgi_bi]
  · refine Or.inr ⟨no, ?_⟩
    refine (bnd (by exact r)).trans ?_
    show B_X10_rowKey_5 N M (h.sgi 1300 M 1) x 0 = _
    unfold B_X10_rowKey_5 B_X10_rowKey_23
    exact if_pos rfl
theorem rf_rowValue (q : Rk h M) (N : Nat) {m s : Nat} (hm : s + m < 42000) (em : h.gi 1346 M = nI m) (es : h.gi 1345 M = nI s) (x : Int32) : (∃ i, x = nI i ∧ i < m ∧ J_X10_rowValue N M h x = some (h.sgi 1300 M 0, h.bw (M + 34) (s + i))) ∨ ((¬ ∃ i, x = nI i ∧ i < m) ∧ J_X10_rowValue N M h x = some (h.sgi 1300 M 1, 0)) := by
  have q' : ∀ y, Rk (h.sgi 1300 M y) M := fun y => q.sgi _ _ _
  unfold J_X10_rowValue B_X10_rowValue_0
  rcases rf_isRow q N (show m < _ by omega) em x with ⟨i, e, hi, r⟩ | ⟨no, r⟩
  · refine Or.inl ⟨i, e, hi, ?_⟩
    refine (bnd (by exact r)).trans ?_
    show B_X10_rowValue_5 N M (h.sgi 1300 M 0) x 1 = _
    unfold B_X10_rowValue_5 B_X10_rowValue_23
    rw [if_neg (show ¬ (1 : Int32) = 0 by decide), gi_oth (by decide), es, e, show nI s + nI i = nI (s + i) from nI_add _ _, rd_1341 (q' 0), rx_1341 (q' 0) (by omega), ni_clp (by omega), pj_sgi_bw]
  · refine Or.inr ⟨no, ?_⟩
    refine (bnd (by exact r)).trans ?_
    show B_X10_rowValue_5 N M (h.sgi 1300 M 1) x 0 = _
    unfold B_X10_rowValue_5 B_X10_rowValue_23
    exact if_pos rfl
theorem rf_value (N : Nat) : J_X10_value N M h = some (h.sgi 1300 M 0, h.gl 1343 M) := by
  unfold J_X10_value B_X10_value_0
  rw [pj_sgi_gl]
theorem rf_key (N : Nat) : J_X10_key N M h = some (h.sgi 1300 M 0, h.gi 1344 M) := by
  unfold J_X10_key B_X10_key_0
  rw [gi_oth (by decide)]
theorem rf_thrown (N : Nat) : J_X10_thrown N M h = some (h, h.gi 1300 M) := by
  unfold J_X10_thrown B_X10_thrown_0
  rfl
theorem rf_why (N : Nat) (x : Int32) : J_X10_why N M h x = some (h.sgi 1300 M 0, if x = 0 then h.gi 1347 M else if x = 1 then h.gi 1348 M else if x = 2 then h.gi 1349 M else if x = 3 then h.gi 1350 M else 0) := by
  unfold J_X10_why B_X10_why_0 B_X10_why_53
  rw [gi_oth (by decide), gi_oth (by decide), gi_oth (by decide), gi_oth (by decide)]
  by_cases z0 : x = 0
  · rw [if_pos z0, if_pos z0]
  · rw [if_neg z0, if_neg z0]
    by_cases z1 : x = 1
    · rw [if_pos z1, if_pos z1]
    · rw [if_neg z1, if_neg z1]
      by_cases z2 : x = 2
      · rw [if_pos z2, if_pos z2]
      · rw [if_neg z2, if_neg z2]
        by_cases z3 : x = 3
        · rw [if_pos z3, if_pos z3]
        · rw [if_neg z3, if_neg z3]
end RF22
