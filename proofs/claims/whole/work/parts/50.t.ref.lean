/-! isKeptVersion, versionOf -/
section RF20
variable {h : Hp} {M b c w l v k r : Nat}
/-- version i is kept at the horizon m -/
def keptV (h : Hp) (M v : Nat) (m : Int32) (i : Nat) : Prop := m < vMo h M i ∨ (lastS (vatC h M (h.bi (M + 19) i) m) v (nI i) ∧ h.bi (M + 22) i ≠ 0)
theorem rf_isKeptVersion (q : Rk h M) (n : Rn h M b c w l v k r) (N : Nat) (hN : 1000 < N) (g : VtOk h M b v) {i : Nat} (hi : i < v) (m : Int32) : ∃ x, J_X10_isKeptVersion N M h (nI i) m = some (h, x) ∧ B01 x (keptV h M v m i) := by
  have hv := n.2.2.2.2.2.2.2.2.2.2.2.1
  have st : ∀ {y : Option (Hp × Int32)}, B_X10_isKeptVersion_5 N M h (nI i) m (vMo h M i) = y → J_X10_isKeptVersion N M h (nI i) m = y := by
    intro y hy
    unfold J_X10_isKeptVersion B_X10_isKeptVersion_0
    refine (bnd (by exact rf_momentOf q n N g hi)).trans ?_
    exact hy
  by_cases z : vMo h M i ≤ m
  · obtain ⟨x, e1, e2⟩ := rf_versionAt q n N hN g (h.bi (M + 19) i) m
    have nlt : ¬ m < vMo h M i := fun y => by
      rw [Int32.le_iff_toInt_le] at z
      rw [Int32.lt_iff_toInt_lt] at y
      omega
    have st2 : ∀ {y : Option (Hp × Int32)}, (if x = nI i then (if h.bi (M + 22) i = 0 then some (h, (0 : Int32)) else some (h, 1)) else some (h, 0)) = y → J_X10_isKeptVersion N M h (nI i) m = y := by
      intro y hy
      refine st ?_
      unfold B_X10_isKeptVersion_5
      rw [if_pos z, rd_1324 q, rx_1324 q (show i < 514 by omega), ni_clp (show i < _ by omega)]
      refine (bnd (by exact e1)).trans ?_
      show B_X10_isKeptVersion_22 N M h (nI i) x = y
      unfold B_X10_isKeptVersion_22 B_X10_isKeptVersion_39 B_X10_isKeptVersion_40
      rw [rd_1327 q, rx_1327 q (show i < 514 by omega), ni_clp (show i < _ by omega), ck_eq (Or.inl rfl), ck_eq (Or.inr rfl)]
      exact hy
    by_cases z1 : x = nI i
    · by_cases z2 : h.bi (M + 22) i = 0
      · refine ⟨0, st2 (by rw [if_pos z1, if_pos z2]), Or.inr ⟨rfl, fun y => y.elim nlt (fun y => y.2 z2)⟩⟩
      · refine ⟨1, st2 (by rw [if_pos z1, if_neg z2]), Or.inl ⟨rfl, Or.inr ⟨by rw [← z1]; exact e2, z2⟩⟩⟩
    · exact ⟨0, st2 (by rw [if_neg z1]), Or.inr ⟨rfl, fun y => y.elim nlt (fun y => z1 (e2.uniq y.1))⟩⟩
  · refine ⟨1, st ?_, Or.inl ⟨rfl, Or.inl ?_⟩⟩
    · unfold B_X10_isKeptVersion_5
      exact if_neg z
    · rw [Int32.le_iff_toInt_le] at z
      rw [Int32.lt_iff_toInt_lt]
      omega
/-- the n-th from the top with P, or -1 -/
def nthS (P : Nat → Prop) (v n : Nat) (x : Int32) : Prop := (x = -1 ∧ cntQ P v ≤ n) ∨ ∃ i, i < v ∧ x = nI i ∧ P i ∧ n + cntQ P (i + 1) = cntQ P v + 0
def kvP (h : Hp) (M v : Nat) (key m : Int32) (i : Nat) : Prop := h.bi (M + 19) i = key ∧ keptV h M v m i
theorem rf_vo16 (q : Rk h M) (n : Rn h M b c w l v k r) (N : Nat) (hN : 1000 < N) (g : VtOk h M b v) (key m : Int32) {j : Nat} (hj : j < 2147483648) : ∃ x, L_X10_versionOf_16 N M N h key (nI j) m (nI j) (nI v - 1) = some (h, x) ∧ nthS (kvP h M v key m) v j x := by
  have hv := n.2.2.2.2.2.2.2.2.2.2.2.1
  refine lp_dn (G := fun F i (s : Int32) => L_X10_versionOf_16 N M F h key (nI j) m s (nI i - 1)) (Inv := fun i s => i ≤ v ∧ ∃ d, s = nI d ∧ j + cntQ (kvP h M v key m) i = d + cntQ (kvP h M v key m) v ∧ d ≤ j) (Q := fun o => ∃ x, o = some (h, x) ∧ nthS (kvP h M v key m) v j x) ?_ ?_ v N (nI j) (by omega) ⟨Nat.le_refl _, j, rfl, rfl, Nat.le_refl _⟩
  · intro F s hs
    obtain ⟨_, d, _, e, _⟩ := hs
    refine ⟨-1, ?_, Or.inl ⟨rfl, ?_⟩⟩
    · show B_X10_versionOf_16 N _ M h key (nI j) m s (nI 0 - 1) = _
      unfold B_X10_versionOf_16 B_X10_versionOf_66
      exact if_pos (by decide)
    · have : cntQ (kvP h M v key m) 0 = 0 := rfl
      omega
  · intro F i s hs
    obtain ⟨iv, d, es, ec, dj⟩ := hs
    obtain ⟨x, e1, e2⟩ := rf_isKeptVersion q n N hN g (show i < v by omega) m
    have body : L_X10_versionOf_16 N M (F + 1) h key (nI j) m s (nI (i + 1) - 1) = if h.bi (M + 19) i = key then (if x = 0 then L_X10_versionOf_16 N M F h key (nI j) m s (nI i - 1) else if s = 0 then some (h, nI i) else L_X10_versionOf_16 N M F h key (nI j) m (s + (-1 : Int32)) (nI i - 1)) else L_X10_versionOf_16 N M F h key (nI j) m s (nI i - 1) := by
      show B_X10_versionOf_16 N (L_X10_versionOf_16 N M F) M h key (nI j) m s (nI (i + 1) - 1) = _
      rw [ni_pred]
      unfold B_X10_versionOf_16 B_X10_versionOf_60
      refine (if_neg (by exact ni_nn (by omega))).trans ?_
      refine (if_neg (by exact ni_nn (by omega))).trans ?_
      rw [rd_1324 q, rx_1324 q (show i < 514 by omega), ni_clp (show i < _ by omega), ni_m]
      by_cases z : h.bi (M + 19) i = key
      · rw [if_pos z, if_pos z]
        refine (bnd (by exact e1)).trans ?_
        show B_X10_versionOf_43 N (L_X10_versionOf_16 N M F) M h key (nI j) m s (nI i) x = _
        unfold B_X10_versionOf_43 B_X10_versionOf_60
        rw [ni_m (nI i)]
      · rw [if_neg z, if_neg z]
    have cs : cntQ (kvP h M v key m) (i + 1) = cntQ (kvP h M v key m) i + @ite Nat (kvP h M v key m i) (Classical.propDecidable _) 1 0 := rfl
    show (∃ s' : Int32, (i ≤ v ∧ ∃ d, s' = nI d ∧ j + cntQ (kvP h M v key m) i = d + cntQ (kvP h M v key m) v ∧ d ≤ j) ∧ L_X10_versionOf_16 N M (F + 1) h key (nI j) m s (nI (i + 1) - 1) = L_X10_versionOf_16 N M F h key (nI j) m s' (nI i - 1)) ∨ ∃ x, L_X10_versionOf_16 N M (F + 1) h key (nI j) m s (nI (i + 1) - 1) = some (h, x) ∧ nthS (kvP h M v key m) v j x
    rw [body]
    have skip : ¬ kvP h M v key m i → i ≤ v ∧ ∃ d, s = nI d ∧ j + cntQ (kvP h M v key m) i = d + cntQ (kvP h M v key m) v ∧ d ≤ j := by
      intro z
      rw [if_neg z] at cs
      exact ⟨by omega, d, es, by omega, dj⟩
    by_cases z1 : h.bi (M + 19) i = key
    · rw [if_pos z1]
      rcases e2 with ⟨y1, y2⟩ | ⟨y1, y2⟩
      · rw [if_neg (by rw [y1]; decide)]
        have kv : kvP h M v key m i := ⟨z1, y2⟩
        rw [if_pos kv] at cs
        by_cases z2 : s = 0
        · rw [if_pos z2]
          right
          have d0 : d = 0 := (ni_inj (b := 0) (by omega) (by omega)).mp (es.symm.trans z2)
          exact ⟨_, rfl, Or.inr ⟨i, by omega, rfl, kv, by omega⟩⟩
        · rw [if_neg z2]
          left
          have dp : d ≠ 0 := fun e => z2 (by rw [es, e]; rfl)
          obtain ⟨d', rfl⟩ : ∃ d', d = d' + 1 := ⟨d - 1, by omega⟩
          exact ⟨_, ⟨by omega, d', by rw [es, ni_dec], by omega, by omega⟩, rfl⟩
      · rw [if_pos y1]
        exact Or.inl ⟨s, skip (fun y => y2 y.2), rfl⟩
    · rw [if_neg z1]
      exact Or.inl ⟨s, skip (fun y => z1 y.1), rfl⟩
end RF20
