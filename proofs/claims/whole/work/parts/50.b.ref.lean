section RF2
variable {h : Hp} {M b c w l v k r : Nat}
/-- key is among the READ KEYS of t -/
def rdK (h : Hp) (M l t : Nat) (key : Int32) : Prop := h.bi (M + 7) t ≠ 1 ∧ ∃ i, i < l ∧ h.bi (M + 16) i = nI t ∧ h.bi (M + 17) i ≤ key ∧ key ≤ h.bi (M + 18) i
theorem rf_rk (q : Rk h M) (n : Rn h M b c w l v k r) (N t : Nat) (key : Int32) : ∀ (d i F : Nat), d = l - i → i ≤ l → d < F → (∀ j, j < i → ¬ (h.bi (M + 16) j = nI t ∧ h.bi (M + 17) j ≤ key ∧ key ≤ h.bi (M + 18) j)) → ∃ x, L_X10_isReadKey_14 N M F h (nI t) key (nI i) = some (h, x) ∧ ((x = 1 ∧ ∃ i, i < l ∧ h.bi (M + 16) i = nI t ∧ h.bi (M + 17) i ≤ key ∧ key ≤ h.bi (M + 18) i) ∨ (x = 0 ∧ ¬ ∃ i, i < l ∧ h.bi (M + 16) i = nI t ∧ h.bi (M + 17) i ≤ key ∧ key ≤ h.bi (M + 18) i)) := by
  have hl := n.2.2.2.2.2.2.2.2.2.2.1
  intro d
  induction d with
  | zero =>
    intro i F hd hi hF hp
    obtain ⟨F, rfl⟩ : ∃ F', F = F' + 1 := ⟨F - 1, by omega⟩
    refine ⟨0, ?_, Or.inr ⟨rfl, fun ⟨j, hj, z⟩ => hp j (by omega) z⟩⟩
    show B_X10_isReadKey_14 N _ M h (nI t) key (nI i) = _
    unfold B_X10_isReadKey_14
    rw [n.2.2.2.1]
    refine (if_pos (by exact (ni_le (by omega) (by omega)).mpr (by omega))).trans ?_
    rfl
  | succ d ih =>
    intro i F hd hi hF hp
    obtain ⟨F, rfl⟩ : ∃ F', F = F' + 1 := ⟨F - 1, by omega⟩
    have body : L_X10_isReadKey_14 N M (F + 1) h (nI t) key (nI i) = if h.bi (M + 16) i = nI t then (if key < h.bi (M + 17) i then L_X10_isReadKey_14 N M F h (nI t) key (nI (i + 1)) else if h.bi (M + 18) i < key then L_X10_isReadKey_14 N M F h (nI t) key (nI (i + 1)) else some (h, 1)) else L_X10_isReadKey_14 N M F h (nI t) key (nI (i + 1)) := by
      show B_X10_isReadKey_14 N (L_X10_isReadKey_14 N M F) M h (nI t) key (nI i) = _
      unfold B_X10_isReadKey_14 B_X10_isReadKey_54
      rw [n.2.2.2.1]
      refine (if_neg (by exact fun z => by rw [ni_le (by omega) (by omega)] at z; omega)).trans ?_
      rw [rd_1320 q, rx_1320 q (by omega), rd_1321 q, rx_1321 q (by omega), rd_1322 q, rx_1322 q (by omega), ni_clp (by omega), ni_inc]
    have next : ¬ (h.bi (M + 16) i = nI t ∧ h.bi (M + 17) i ≤ key ∧ key ≤ h.bi (M + 18) i) → ∃ x, L_X10_isReadKey_14 N M F h (nI t) key (nI (i + 1)) = some (h, x) ∧ ((x = 1 ∧ ∃ i, i < l ∧ h.bi (M + 16) i = nI t ∧ h.bi (M + 17) i ≤ key ∧ key ≤ h.bi (M + 18) i) ∨ (x = 0 ∧ ¬ ∃ i, i < l ∧ h.bi (M + 16) i = nI t ∧ h.bi (M + 17) i ≤ key ∧ key ≤ h.bi (M + 18) i)) := fun nz => ih (i + 1) F (by omega) (by omega) (by omega) (fun j hj => by
      by_cases e : j = i
      · rw [e]; exact nz
      · exact hp j (by omega))
    rw [body]
    by_cases z1 : h.bi (M + 16) i = nI t
    · rw [if_pos z1]
      by_cases z2 : key < h.bi (M + 17) i
      · rw [if_pos z2]
        exact next (fun z => by have := z.2.1; rw [Int32.le_iff_toInt_le] at this; rw [Int32.lt_iff_toInt_lt] at z2; omega)
      · rw [if_neg z2]
        by_cases z3 : h.bi (M + 18) i < key
        · rw [if_pos z3]
          exact next (fun z => by have := z.2.2; rw [Int32.le_iff_toInt_le] at this; rw [Int32.lt_iff_toInt_lt] at z3; omega)
        · rw [if_neg z3]
          refine ⟨1, rfl, Or.inl ⟨rfl, i, by omega, z1, ?_, ?_⟩⟩
          · rw [Int32.le_iff_toInt_le]; rw [Int32.lt_iff_toInt_lt] at z2; omega
          · rw [Int32.le_iff_toInt_le]; rw [Int32.lt_iff_toInt_lt] at z3; omega
    · rw [if_neg z1]
      exact next (fun z => z1 z.1)
theorem rf_isReadKey (q : Rk h M) (n : Rn h M b c w l v k r) (N : Nat) (hN : 1000 < N) {t : Nat} (ht : t < 514) (key : Int32) : ∃ x, J_X10_isReadKey N M h (nI t) key = some (h, x) ∧ ((x = 1 ∧ rdK h M l t key) ∨ (x = 0 ∧ ¬ rdK h M l t key)) := by
  have hl := n.2.2.2.2.2.2.2.2.2.2.1
  unfold J_X10_isReadKey B_X10_isReadKey_0 rdK
  rw [rd_1307 q, rx_1307 q ht, ni_clp (by omega)]
  by_cases z : h.bi (M + 7) t = 1
  · rw [if_pos z]
    exact ⟨0, rfl, Or.inr ⟨rfl, fun y => y.1 z⟩⟩
  · rw [if_neg z]
    obtain ⟨x, e1, e2⟩ := rf_rk q n N t key l 0 N rfl (Nat.zero_le _) (by omega) (fun j hj => by omega)
    exact ⟨x, e1, e2.imp (fun y => ⟨y.1, z, y.2⟩) (fun y => ⟨y.1, fun u => y.2 u.2⟩)⟩
/-- a PRECEDES b -/
def prec (h : Hp) (M l v s t : Nat) : Prop := s ≠ t ∧ h.bi (M + 1) t = 2 ∧ inT h M s ∧ h.bi (M + 3) s < h.bi (M + 4) t ∧ h.bi (M + 3) t < endT h M s ∧ ∃ i, i < v ∧ h.bi (M + 20) i = nI t ∧ rdK h M l s (h.bi (M + 19) i)
theorem rf_pl (q : Rk h M) (n : Rn h M b c w l v k r) (N : Nat) (hN : 1000 < N) {s t : Nat} (hs : s < 514) : ∀ (d i F : Nat), d = v - i → i ≤ v → d < F → (∀ j, j < i → ¬ (h.bi (M + 20) j = nI t ∧ rdK h M l s (h.bi (M + 19) j))) → ∃ x, L_X10_precedes_56 N M F h (nI s) (nI t) (nI i) = some (h, x) ∧ ((x = 1 ∧ ∃ i, i < v ∧ h.bi (M + 20) i = nI t ∧ rdK h M l s (h.bi (M + 19) i)) ∨ (x = 0 ∧ ¬ ∃ i, i < v ∧ h.bi (M + 20) i = nI t ∧ rdK h M l s (h.bi (M + 19) i))) := by
  have hv := n.2.2.2.2.2.2.2.2.2.2.2.1
  intro d
  induction d with
  | zero =>
    intro i F hd hi hF hp
    obtain ⟨F, rfl⟩ : ∃ F', F = F' + 1 := ⟨F - 1, by omega⟩
    refine ⟨0, ?_, Or.inr ⟨rfl, fun ⟨j, hj, z⟩ => hp j (by omega) z⟩⟩
    show B_X10_precedes_56 N _ M h (nI s) (nI t) (nI i) = _
    unfold B_X10_precedes_56
    rw [n.2.2.2.2.1]
    refine (if_pos (by exact (ni_le (by omega) (by omega)).mpr (by omega))).trans ?_
    rfl
  | succ d ih =>
    intro i F hd hi hF hp
    obtain ⟨F, rfl⟩ : ∃ F', F = F' + 1 := ⟨F - 1, by omega⟩
    have next := fun (nz : ¬ (h.bi (M + 20) i = nI t ∧ rdK h M l s (h.bi (M + 19) i))) => ih (i + 1) F (by omega) (by omega) (by omega) (fun j hj => by
      by_cases e : j = i
      · rw [e]; exact nz
      · exact hp j (by omega))
    have start : ∀ {z : Option (Hp × Int32)}, (if h.bi (M + 20) i = nI t then ((J_X10_isReadKey N M h (nI s) (h.bi (M + 19) i)).bind (fun z => B_X10_precedes_85 N (L_X10_precedes_56 N M F) M z.1 (nI s) (nI t) (nI i) z.2)) else B_X10_precedes_90 N (L_X10_precedes_56 N M F) M h (nI s) (nI t) (nI i)) = z → L_X10_precedes_56 N M (F + 1) h (nI s) (nI t) (nI i) = z := by
      intro z hz
      show B_X10_precedes_56 N (L_X10_precedes_56 N M F) M h (nI s) (nI t) (nI i) = _
      unfold B_X10_precedes_56
      rw [n.2.2.2.2.1]
      refine (if_neg (by exact fun z => by rw [ni_le (by omega) (by omega)] at z; omega)).trans ?_
      rw [rd_1325 q, rx_1325 q (by omega), rd_1324 q, rx_1324 q (by omega), ni_clp (by omega)]
      exact hz
    by_cases z1 : h.bi (M + 20) i = nI t
    · obtain ⟨x, e1, e2⟩ := rf_isReadKey q n N hN hs (h.bi (M + 19) i)
      rcases e2 with ⟨y1, y2⟩ | ⟨y1, y2⟩
      · refine ⟨1, start ?_, Or.inl ⟨rfl, i, by omega, z1, y2⟩⟩
        rw [if_pos z1]
        refine (bnd (by exact e1)).trans ?_
        unfold B_X10_precedes_85
        refine (if_neg (by rw [y1]; show ¬ (1 : Int32) = 0; decide)).trans ?_
        rfl
      · obtain ⟨x2, f1, f2⟩ := next (fun z => y2 z.2)
        refine ⟨x2, start ?_, f2⟩
        rw [if_pos z1]
        refine (bnd (by exact e1)).trans ?_
        unfold B_X10_precedes_85 B_X10_precedes_90
        refine (if_pos (by exact y1)).trans ?_
        rw [ni_inc]
        exact f1
    · obtain ⟨x2, f1, f2⟩ := next (fun z => z1 z.1)
      refine ⟨x2, start ?_, f2⟩
      rw [if_neg z1]
      unfold B_X10_precedes_90
      rw [ni_inc]
      exact f1
theorem rf_precedes (q : Rk h M) (n : Rn h M b c w l v k r) (N : Nat) (hN : 1000 < N) {s t : Nat} (hs : s < 514) (ht : t < 514) : ∃ x, J_X10_precedes N M h (nI s) (nI t) = some (h, x) ∧ ((x = 1 ∧ prec h M l v s t) ∨ (x = 0 ∧ ¬ prec h M l v s t)) := by
  have hv := n.2.2.2.2.2.2.2.2.2.2.2.1
  unfold prec
  unfold J_X10_precedes B_X10_precedes_0 B_X10_precedes_52
  by_cases z0 : s = t
  · rw [if_pos (by rw [z0])]
    exact ⟨0, rfl, Or.inr ⟨rfl, fun y => y.1 z0⟩⟩
  · rw [if_neg (fun z => z0 ((ni_inj (by omega) (by omega)).mp z)), rd_1301 q, rx_1301 q ht, ni_clp (by omega)]
    by_cases z1 : h.bi (M + 1) t = 2
    · rw [if_pos z1]
      obtain ⟨x1, e1, e2⟩ := rf_isIn q N hs
      have st : ∀ {y : Option (Hp × Int32)}, B_X10_precedes_20 N M h (nI s) (nI t) x1 = y → ((J_X10_isIn N M h (nI s)).bind (fun z => B_X10_precedes_20 N M z.1 (nI s) (nI t) z.2)) = y := fun hz => (bnd e1).trans hz
      rcases e2 with ⟨y1, y2⟩ | ⟨y1, y2⟩
      · have st2 : ∀ {y : Option (Hp × Int32)}, (if h.bi (M + 4) t ≤ h.bi (M + 3) s then some (h, (0 : Int32)) else if h.bi (M + 3) t < endT h M s then L_X10_precedes_56 N M N h (nI s) (nI t) (nI 0) else some (h, 0)) = y → B_X10_precedes_20 N M h (nI s) (nI t) x1 = y := by
          intro y hz
          unfold B_X10_precedes_20 B_X10_precedes_52
          refine (if_neg (by rw [y1]; show ¬ (1 : Int32) = 0; decide)).trans ?_
          rw [rd_1303 q, rx_1303 q hs, rd_1304 q, rx_1304 q ht, rd_1303 q, rx_1303 q ht, ni_clp (by omega), ni_clp (by omega)]
          by_cases c1 : h.bi (M + 4) t ≤ h.bi (M + 3) s
          · rw [if_pos c1] at hz ⊢; exact hz
          · rw [if_neg c1] at hz ⊢
            refine (bnd (by exact rf_endOf q N hs)).trans ?_
            unfold B_X10_precedes_49 B_X10_precedes_52
            exact hz
        by_cases c1 : h.bi (M + 4) t ≤ h.bi (M + 3) s
        · refine ⟨0, st (st2 (by rw [if_pos c1])), Or.inr ⟨rfl, fun u => ?_⟩⟩
          have := u.2.2.2.1
          rw [Int32.le_iff_toInt_le] at c1
          rw [Int32.lt_iff_toInt_lt] at this
          omega
        · by_cases c2 : h.bi (M + 3) t < endT h M s
          · obtain ⟨x2, f1, f2⟩ := rf_pl q n N hN (s := s) (t := t) hs v 0 N rfl (Nat.zero_le _) (by omega) (fun j hj => by omega)
            refine ⟨x2, st (st2 (by rw [if_neg c1, if_pos c2]; exact f1)), f2.imp (fun u => ⟨u.1, z0, z1, y2, ?_, c2, u.2⟩) (fun u => ⟨u.1, fun u2 => u.2 u2.2.2.2.2.2⟩)⟩
            rw [Int32.lt_iff_toInt_lt]
            rw [Int32.le_iff_toInt_le] at c1
            omega
          · exact ⟨0, st (st2 (by rw [if_neg c1, if_neg c2])), Or.inr ⟨rfl, fun u => c2 u.2.2.2.2.1⟩⟩
      · refine ⟨0, st ?_, Or.inr ⟨rfl, fun u => y2 u.2.2.1⟩⟩
        unfold B_X10_precedes_20 B_X10_precedes_52
        refine (if_pos (by exact y1)).trans ?_
        rfl
    · rw [if_neg z1]
      exact ⟨0, rfl, Or.inr ⟨rfl, fun u => z1 u.2.1⟩⟩
end RF2
