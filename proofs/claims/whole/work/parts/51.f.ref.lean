/-! doing again: keyAt, hasNow -/
abbrev Ow := List (Int32 × Option Int64)
/-- the last entry of a key -/
def lkO (L : Ow) (key : Int32) : Option (Option Int64) := L.foldl (fun a y => if y.1 = key then some y.2 else a) none
theorem lkO_snoc (L : Ow) (y : Int32 × Option Int64) (key : Int32) : lkO (L ++ [y]) key = if y.1 = key then some y.2 else lkO L key := by
  unfold lkO
  rw [List.foldl_append]
  rfl
theorem lkO_nil (key : Int32) : lkO [] key = none := rfl
def nowF (L : Ow) (mp : Int32 → Option Int64) (key : Int32) : Option Int64 := (lkO L key).getD (mp key)
section RF31
variable {h : Hp} {M m : Nat}
def OwR (h : Hp) (M : Nat) (L : Ow) : Prop := h.gi 1363 M = nI L.length ∧ ∀ (i : Nat) (y : Int32 × Option Int64), L[i]? = some y → h.bi (M + 42) i = y.1 ∧ ((y.2 = none ∧ h.bi (M + 44) i = 0) ∨ ∃ x, y.2 = some x ∧ h.bi (M + 44) i = 1 ∧ h.bw (M + 43) i = x)
def MpR (h : Hp) (M m : Nat) (mp : Int32 → Option Int64) : Prop := (∀ j, j < m → (mp (h.bi (M + 35) j) = none ∧ h.bi (M + 40) j = 0) ∨ ∃ x, mp (h.bi (M + 35) j) = some x ∧ h.bi (M + 40) j = 1 ∧ h.bw (M + 41) j = x) ∧ ∀ key, (¬ ∃ j, j < m ∧ h.bi (M + 35) j = key) → mp key = none
/-- the keys, the own writes, the map -/
def RpS (h : Hp) (M m : Nat) (L : Ow) (mp : Int32 → Option Int64) : Prop := h.gi 1353 M = nI m ∧ m ≤ 512 ∧ (∀ i j, i < j → j < m → h.bi (M + 35) i < h.bi (M + 35) j) ∧ OwR h M L ∧ L.length ≤ 512 ∧ MpR h M m mp
theorem RpS.con {A G : List Nat} {h' : Hp} {L : Ow} {mp : Int32 → Option Int64} (f : RfO A G M h h') (hA : ∀ x ∈ [35, 40, 41, 42, 43, 44], x ∉ A) (hG : ∀ x ∈ [1353, 1363], x ∉ G) (s : RpS h M m L mp) : RpS h' M m L mp := by
  unfold RpS OwR MpR at s ⊢
  rw [f.gi (hG 1353 (by decide)), f.gi (hG 1363 (by decide)), f.bi (hA 35 (by decide)), f.bi (hA 40 (by decide)), f.bi (hA 42 (by decide)), f.bi (hA 44 (by decide)), f.bw (hA 41 (by decide)), f.bw (hA 43 (by decide))]
  exact s
theorem rf_keyAt (q : Rk h M) (em : h.gi 1353 M = nI m) (hm : m ≤ 512) (N : Nat) (hN : 1000 < N) (key : Int32) : ∃ x, J_X10_keyAt N M h key = some (h, x) ∧ ((x = -1 ∧ ¬ ∃ j, j < m ∧ h.bi (M + 35) j = key) ∨ ∃ j, j < m ∧ x = nI j ∧ h.bi (M + 35) j = key) := by
  refine lp_inv (G := fun F j (_ : Unit) => L_X10_keyAt_2 N M F h key (nI j)) (hi := m) (Inv := fun j _ => ∀ u, u < j → h.bi (M + 35) u ≠ key) (Q := fun o => ∃ x, o = some (h, x) ∧ ((x = -1 ∧ ¬ ∃ j, j < m ∧ h.bi (M + 35) j = key) ∨ ∃ j, j < m ∧ x = nI j ∧ h.bi (M + 35) j = key)) ?_ ?_ m 0 N () (by omega) (by omega) (by omega) (fun u hu => by omega)
  · intro F s hs
    refine ⟨-1, ?_, Or.inl ⟨rfl, fun ⟨j, h1, h2⟩ => hs j h1 h2⟩⟩
    show B_X10_keyAt_2 N _ M h key (nI m) = _
    unfold B_X10_keyAt_2
    rw [em]
    exact if_pos ((ni_le (by omega) (by omega)).mpr (Nat.le_refl _))
  · intro F j s hj hs
    have body : L_X10_keyAt_2 N M (F + 1) h key (nI j) = if h.bi (M + 35) j = key then some (h, nI j) else L_X10_keyAt_2 N M F h key (nI (j + 1)) := by
      show B_X10_keyAt_2 N (L_X10_keyAt_2 N M F) M h key (nI j) = _
      unfold B_X10_keyAt_2
      rw [em, if_neg (by rw [ni_le (by omega) (by omega)]; omega), rd_1352 q, rx_1352 q (show j < 514 by omega), ni_clp (show j < _ by omega), ni_inc]
    show (∃ s' : Unit, (∀ u, u < j + 1 → h.bi (M + 35) u ≠ key) ∧ L_X10_keyAt_2 N M (F + 1) h key (nI j) = L_X10_keyAt_2 N M F h key (nI (j + 1))) ∨ ∃ x, L_X10_keyAt_2 N M (F + 1) h key (nI j) = some (h, x) ∧ _
    rw [body]
    by_cases z : h.bi (M + 35) j = key
    · right
      rw [if_pos z]
      exact ⟨_, rfl, Or.inr ⟨j, hj, rfl, z⟩⟩
    · left
      rw [if_neg z]
      refine ⟨(), fun u hu => ?_, rfl⟩
      by_cases e : u = j
      · rw [e]; exact z
      · exact hs u (by omega)
theorem rf_hasNow (q : Rk h M) {L : Ow} {mp : Int32 → Option Int64} (s : RpS h M m L mp) (N : Nat) (hN : 1000 < N) (key : Int32) : ∃ h' x, J_X10_hasNow N M h key = some (h', x) ∧ RfO [] [1351] M h h' ∧ ((nowF L mp key = none ∧ x = 0) ∨ (x = 1 ∧ nowF L mp key = some (h'.gl 1351 M))) := by
  obtain ⟨em, hm, so, ow, hL, mr⟩ := s
  have rf := RfO.rf [] [1351] M h
  have key2 := lp_dn (G := fun F i (_ : Unit) => L_X10_hasNow_7 N M F h key (nI i - 1)) (Inv := fun i _ => i ≤ L.length ∧ lkO L key = lkO (L.take i) key) (Q := fun o => ∃ h' x, o = some (h', x) ∧ RfO [] [1351] M h h' ∧ ((nowF L mp key = none ∧ x = 0) ∨ (x = 1 ∧ nowF L mp key = some (h'.gl 1351 M)))) ?_ ?_ L.length N () (by omega) ⟨Nat.le_refl _, by rw [List.take_length]⟩
  · unfold J_X10_hasNow B_X10_hasNow_0
    rw [ow.1]
    exact key2
  · intro F s hs
    have e0 : lkO L key = none := hs.2
    have en : nowF L mp key = mp key := by unfold nowF; rw [e0]; rfl
    rw [en]
    obtain ⟨x, e1, e2⟩ := rf_keyAt q em hm N hN key
    have st : ∀ {o : Option (Hp × Int32)}, B_X10_hasNow_49 N M h x = o → L_X10_hasNow_7 N M (F + 1) h key (nI 0 - 1) = o := by
      intro o ho
      show B_X10_hasNow_7 N _ M h key (nI 0 - 1) = _
      unfold B_X10_hasNow_7
      rw [if_pos (by decide)]
      refine (bnd (by exact e1)).trans ?_
      exact ho
    rcases e2 with ⟨a1, a2⟩ | ⟨j, a1, a2, a3⟩
    · refine ⟨h, 0, st ?_, rf, Or.inl ⟨mr.2 key a2, rfl⟩⟩
      unfold B_X10_hasNow_49 B_X10_hasNow_64
      exact if_pos a1
    · have t49 : B_X10_hasNow_49 N M h x = if h.bi (M + 40) j = 0 then some (h, 0) else some (h.sgl 1351 M (h.bw (M + 41) j), 1) := by
        unfold B_X10_hasNow_49 B_X10_hasNow_64
        rw [a2, if_neg (ni_m1 (by omega)), rd_1358 q, rx_1358 q (show j < 514 by omega), rd_1359 q, rx_1359 q (show j < 514 by omega), ni_clp (show j < _ by omega)]
      have mj := mr.1 j a1
      rw [a3] at mj
      rcases mj with ⟨b1, b2⟩ | ⟨y, b1, b2, b3⟩
      · exact ⟨h, 0, st (by rw [t49, if_pos b2]), rf, Or.inl ⟨b1, rfl⟩⟩
      · exact ⟨_, 1, st (by rw [t49, if_neg (by rw [b2]; decide)]), RfO.sgl (by decide) _, Or.inr ⟨rfl, by rw [gl_same, b3]; exact b1⟩⟩
  · intro F i s hs
    obtain ⟨il, e0⟩ := hs
    obtain ⟨y, ey⟩ : ∃ y, L[i]? = some y := ⟨_, List.getElem?_eq_getElem (by omega)⟩
    have et : L.take (i + 1) = L.take i ++ [y] := by
      rw [List.take_succ, ey]
      rfl
    rw [et, lkO_snoc] at e0
    obtain ⟨o1, o2⟩ := ow.2 i y ey
    have bb : h.bi (M + 44) i = 0 ∨ h.bi (M + 44) i = 1 := o2.elim (fun z => Or.inl z.2) (fun ⟨_, z⟩ => Or.inr z.2.1)
    have body : L_X10_hasNow_7 N M (F + 1) h key (nI (i + 1) - 1) = if y.1 = key then some (h.sgl 1351 M (h.bw (M + 43) i), h.bi (M + 44) i) else L_X10_hasNow_7 N M F h key (nI i - 1) := by
      show B_X10_hasNow_7 N (L_X10_hasNow_7 N M F) M h key (nI (i + 1) - 1) = _
      rw [ni_pred]
      unfold B_X10_hasNow_7
      rw [if_neg (ni_nn (show i < _ by omega)), rd_1360 q, rx_1360 q (show i < 514 by omega), rd_1361 q, rx_1361 q (show i < 514 by omega), ni_clp (show i < _ by omega), pj_sgl_gr, dr_sgl, rd_1362 q, pj_sgl_al, ry_1362 q (show i < 514 by omega), pj_sgl_bi, ck_eq bb, o1, ni_m]
    show (∃ s' : Unit, (i ≤ L.length ∧ lkO L key = lkO (L.take i) key) ∧ L_X10_hasNow_7 N M (F + 1) h key (nI (i + 1) - 1) = L_X10_hasNow_7 N M F h key (nI i - 1)) ∨ ∃ h' x, L_X10_hasNow_7 N M (F + 1) h key (nI (i + 1) - 1) = some (h', x) ∧ _
    rw [body]
    by_cases z : y.1 = key
    · right
      rw [if_pos z] at e0 ⊢
      have en : nowF L mp key = y.2 := by unfold nowF; rw [e0]; rfl
      refine ⟨_, _, rfl, RfO.sgl (by decide) _, ?_⟩
      rw [en]
      rcases o2 with ⟨b1, b2⟩ | ⟨x, b1, b2, b3⟩
      · exact Or.inl ⟨b1, b2⟩
      · exact Or.inr ⟨b2, by rw [gl_same, b3]; exact b1⟩
    · left
      rw [if_neg z] at e0 ⊢
      exact ⟨(), ⟨by omega, e0⟩, rfl⟩
end RF31
