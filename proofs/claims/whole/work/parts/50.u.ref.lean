/-! versionOf, version, versionValue, manyThat -/
section RF21
variable {h : Hp} {M b c w l v k r : Nat}
/-- the place of the x-th kept version of key -/
def verS (h : Hp) (M b c v : Nat) (key x : Int32) (y : Int32) : Prop := (x < 0 ∧ y = -1) ∨ ∃ j m, x = nI j ∧ j < 2147483648 ∧ hznS h M c (b + 1) m ∧ nthS (kvP h M v key m) v j y
theorem rf_versionOf (q : Rk h M) (n : Rn h M b c w l v k r) (N : Nat) (hN : 1000 < N) (g : VtOk h M b v) (key x : Int32) : ∃ y, J_X10_versionOf N M h key x = some (h, y) ∧ verS h M b c v key x y := by
  have hv := n.2.2.2.2.2.2.2.2.2.2.2.1
  obtain ⟨m, e1, e2⟩ := rf_horizon q n N hN
  have st : ∀ {z : Option (Hp × Int32)}, L_X10_versionOf_16 N M N h key x m x (nI v - 1) = z → J_X10_versionOf N M h key x = z := by
    intro z hz
    unfold J_X10_versionOf B_X10_versionOf_0
    refine (bnd (by exact e1)).trans ?_
    unfold B_X10_versionOf_4
    rw [n.2.2.2.2.1]
    exact hz
  by_cases z : x < 0
  · refine ⟨-1, st ?_, Or.inl ⟨z, rfl⟩⟩
    obtain ⟨N', rfl⟩ : ∃ N', N = N' + 1 := ⟨N - 1, by omega⟩
    show B_X10_versionOf_16 (N' + 1) _ M h key x m x (nI v - 1) = _
    unfold B_X10_versionOf_16 B_X10_versionOf_66
    by_cases z2 : nI v - 1 < 0
    · exact if_pos z2
    · rw [if_neg z2]
      exact if_pos z
  · have hx : 0 ≤ x.toInt := by
      rw [Int32.lt_iff_toInt_lt, i0] at z
      omega
    have e := ni_of hx
    have hj : x.toInt.toNat < 2147483648 := by
      have := i32_rng x
      omega
    generalize x.toInt.toNat = j at e hj
    obtain ⟨y, y1, y2⟩ := rf_vo16 q n N hN g key m hj
    rw [← e] at y1
    exact ⟨y, st y1, Or.inr ⟨j, m, e, hj, e2, y2⟩⟩
/-- what version tells of place y -/
def verA (h : Hp) (M : Nat) (what y : Int32) (x : Int32) : Prop := (y = -1 ∧ x = -1) ∨ ∃ i, i < 514 ∧ y = nI i ∧ x = (if what = 0 then vMo h M i else if what = 1 then (if h.bi (M + 22) i = 0 then 0 else 1) else if what = 2 then h.bi (M + 20) i else -1)
theorem verS.pl {key x y : Int32} (s : verS h M b c v key x y) : y = -1 ∨ ∃ i, i < v ∧ y = nI i := by
  rcases s with ⟨_, e⟩ | ⟨j, m, _, _, _, ⟨e, _⟩ | ⟨i, i1, i2, _⟩⟩
  · exact Or.inl e
  · exact Or.inl e
  · exact Or.inr ⟨i, i1, i2⟩
theorem rf_version (q : Rk h M) (n : Rn h M b c w l v k r) (N : Nat) (hN : 1000 < N) (g : VtOk h M b v) (key x what : Int32) : ∃ y z, J_X10_version N M h key x what = some (h.sgi 1300 M 0, z) ∧ verS h M b c v key x y ∧ verA h M what y z := by
  have hv := n.2.2.2.2.2.2.2.2.2.2.2.1
  have f : RfO [] [1300] M h (h.sgi 1300 M 0) := RfO.sgi (by decide) _
  have q' := f.rk q
  have n' := f.rn n (by decide)
  have g' := g.con f (by decide)
  obtain ⟨y, e1, e2⟩ := rf_versionOf q' n' N hN g' key x
  have st : ∀ {z : Option (Hp × Int32)}, B_X10_version_11 N M (h.sgi 1300 M 0) what y = z → J_X10_version N M h key x what = z := by
    intro z hz
    unfold J_X10_version B_X10_version_0
    refine (bnd (by exact e1)).trans ?_
    exact hz
  have e2' : verS h M b c v key x y := e2
  rcases e2.pl with a | ⟨i, i1, a⟩
  · refine ⟨y, -1, st ?_, e2', Or.inl ⟨a, rfl⟩⟩
    unfold B_X10_version_11
    exact if_pos a
  · refine ⟨y, _, st ?_, e2', Or.inr ⟨i, by omega, a, rfl⟩⟩
    unfold B_X10_version_11 B_X10_version_73
    rw [a, if_neg (ni_m1 (by omega))]
    by_cases c0 : what = 0
    · rw [if_pos c0, if_pos c0]
      refine (bnd (by exact rf_momentOf q' n' N g' i1)).trans ?_
      rfl
    · rw [if_neg c0, if_neg c0]
      by_cases c1 : what = 1
      · rw [if_pos c1, if_pos c1, rd_1327 q', rx_1327 q' (show i < 514 by omega), ni_clp (show i < _ by omega), pj_sgi_bi]
        by_cases c3 : h.bi (M + 22) i = 0
        · rw [if_pos c3, if_pos c3]
        · rw [if_neg c3, if_neg c3]
      · rw [if_neg c1, if_neg c1]
        by_cases c2 : what = 2
        · rw [if_pos c2, if_pos c2, rd_1325 q', rx_1325 q' (show i < 514 by omega), ni_clp (show i < _ by omega), pj_sgi_bi]
        · rw [if_neg c2, if_neg c2]
theorem rf_versionValue (q : Rk h M) (n : Rn h M b c w l v k r) (N : Nat) (hN : 1000 < N) (g : VtOk h M b v) (key x : Int32) : ∃ y z, J_X10_versionValue N M h key x = some (h.sgi 1300 M 0, z) ∧ verS h M b c v key x y ∧ ((y = -1 ∧ z = 0) ∨ ∃ i, i < v ∧ y = nI i ∧ z = if h.bi (M + 22) i = 0 then 0 else h.bw (M + 21) i) := by
  have hv := n.2.2.2.2.2.2.2.2.2.2.2.1
  have f : RfO [] [1300] M h (h.sgi 1300 M 0) := RfO.sgi (by decide) _
  have q' := f.rk q
  have n' := f.rn n (by decide)
  obtain ⟨y, e1, e2⟩ := rf_versionOf q' n' N hN (g.con f (by decide)) key x
  have st : ∀ {z : Option (Hp × Int64)}, B_X10_versionValue_11 N M (h.sgi 1300 M 0) y = z → J_X10_versionValue N M h key x = z := by
    intro z hz
    unfold J_X10_versionValue B_X10_versionValue_0
    refine (bnd (by exact e1)).trans ?_
    exact hz
  have e2' : verS h M b c v key x y := e2
  rcases e2.pl with a | ⟨i, i1, a⟩
  · refine ⟨y, 0, st ?_, e2', Or.inl ⟨a, rfl⟩⟩
    unfold B_X10_versionValue_11 B_X10_versionValue_26 B_X10_versionValue_36
    exact if_pos a
  · refine ⟨y, _, st ?_, e2', Or.inr ⟨i, i1, a, rfl⟩⟩
    unfold B_X10_versionValue_11 B_X10_versionValue_26 B_X10_versionValue_36
    rw [a, if_neg (ni_m1 (by omega)), rd_1327 q', rx_1327 q' (show i < 514 by omega), rd_1326 q', rx_1326 q' (show i < 514 by omega), ni_clp (show i < _ by omega), pj_sgi_bi, pj_sgi_bw]
    by_cases c3 : h.bi (M + 22) i = 0
    · rw [if_pos c3, if_pos c3]
    · rw [if_neg c3, if_neg c3]
theorem rf_manyThat (q : Rk h M) (n : Rn h M b c w l v k r) (N : Nat) (hN : 1000 < N) (as : Int32) : J_X10_manyThat N M h as = some (h, nI (cntQ (fun u => 1 ≤ u ∧ h.bi (M + 1) u = as) (b + 1))) := by
  have hb := n.2.2.2.2.2.2.2.1
  refine lp_inv (G := fun F i (s : Int32) => L_X10_manyThat_4 N M F h as s (nI i)) (hi := b + 1) (Inv := fun i s => 1 ≤ i ∧ s = nI (cntQ (fun u => 1 ≤ u ∧ h.bi (M + 1) u = as) i)) (Q := fun o => o = some (h, nI (cntQ (fun u => 1 ≤ u ∧ h.bi (M + 1) u = as) (b + 1)))) ?_ ?_ b 1 N 0 (by omega) (by omega) (by omega) ⟨Nat.le_refl _, ?_⟩
  · intro F s hs
    show B_X10_manyThat_4 N _ M h as s (nI (b + 1)) = _
    unfold B_X10_manyThat_4
    rw [n.1, hs.2]
    exact if_pos ((ni_lt (by omega) (by omega)).mpr (by omega))
  · intro F i s hi hs
    left
    have body : L_X10_manyThat_4 N M (F + 1) h as s (nI i) = if h.bi (M + 1) i = as then L_X10_manyThat_4 N M F h as (s + 1) (nI (i + 1)) else L_X10_manyThat_4 N M F h as (s + 0) (nI (i + 1)) := by
      show B_X10_manyThat_4 N (L_X10_manyThat_4 N M F) M h as s (nI i) = _
      unfold B_X10_manyThat_4 B_X10_manyThat_28
      rw [n.1]
      refine (if_neg (by exact fun z => by rw [ni_lt (by omega) (by omega)] at z; omega)).trans ?_
      rw [rd_1301 q, rx_1301 q (show i < 514 by omega), ni_clp (show i < _ by omega), ni_inc]
    show ∃ s' : Int32, (1 ≤ i + 1 ∧ s' = nI (cntQ (fun u => 1 ≤ u ∧ h.bi (M + 1) u = as) i + _)) ∧ L_X10_manyThat_4 N M (F + 1) h as s (nI i) = L_X10_manyThat_4 N M F h as s' (nI (i + 1))
    rw [body]
    by_cases z : h.bi (M + 1) i = as
    · rw [if_pos z]
      refine ⟨_, ⟨by omega, ?_⟩, rfl⟩
      rw [if_pos ⟨hs.1, z⟩, hs.2, ni_inc]
    · rw [if_neg z]
      refine ⟨_, ⟨by omega, ?_⟩, rfl⟩
      rw [if_neg (fun y => z y.2), hs.2]
      exact nI_add _ 0
  · show (0 : Int32) = nI (0 + _)
    rw [if_neg (show ¬ (1 ≤ 0 ∧ h.bi (M + 1) 0 = as) from fun y => absurd y.1 (by decide))]
    rfl
end RF21
