/-! horizon, isKept, manyThat -/
section RF19
variable {h : Hp} {M b c w l v k r : Nat}
/-- the least start of those at work ahead of n, or the count of commits -/
def hznS (h : Hp) (M c n : Nat) (x : Int32) : Prop := (x = nI c ∨ ∃ u, 1 ≤ u ∧ u < n ∧ h.bi (M + 1) u = 1 ∧ x = h.bi (M + 3) u) ∧ x ≤ nI c ∧ ∀ u, 1 ≤ u → u < n → h.bi (M + 1) u = 1 → x ≤ h.bi (M + 3) u
theorem hznS.uniq {n : Nat} {x y : Int32} (p : hznS h M c n x) (q : hznS h M c n y) : x = y := by
  have a1 : x ≤ y := by
    rcases q.1 with e | ⟨u, u1, u2, u3, e⟩
    · rw [e]; exact p.2.1
    · rw [e]; exact p.2.2 u u1 u2 u3
  have a2 : y ≤ x := by
    rcases p.1 with e | ⟨u, u1, u2, u3, e⟩
    · rw [e]; exact q.2.1
    · rw [e]; exact q.2.2 u u1 u2 u3
  rw [Int32.le_iff_toInt_le] at a1 a2
  exact Int32.toInt_inj.mp (by omega)
theorem rf_horizon (q : Rk h M) (n : Rn h M b c w l v k r) (N : Nat) (hN : 1000 < N) : ∃ x, J_X10_horizon N M h = some (h, x) ∧ hznS h M c (b + 1) x := by
  have hb := n.2.2.2.2.2.2.2.1
  have key := lp_inv (G := fun F i (s : Int32) => L_X10_horizon_7 N M F h s (nI i)) (hi := b + 1) (Inv := fun i s => 1 ≤ i ∧ hznS h M c i s) (Q := fun o => ∃ x, o = some (h, x) ∧ hznS h M c (b + 1) x) ?_ ?_ b 1 N (nI c) (by omega) (by omega) (by omega) ⟨Nat.le_refl _, Or.inl rfl, by rw [Int32.le_iff_toInt_le]; exact Int.le_refl _, fun u u1 u2 => by omega⟩
  · unfold J_X10_horizon B_X10_horizon_0
    rw [n.2.1]
    exact key
  · intro F s hs
    refine ⟨s, ?_, hs.2⟩
    show B_X10_horizon_7 N _ M h s (nI (b + 1)) = _
    unfold B_X10_horizon_7
    rw [n.1]
    exact if_pos ((ni_lt (by omega) (by omega)).mpr (by omega))
  · intro F i s hi hs
    obtain ⟨i1, p1, p2, p3⟩ := hs
    left
    have body : L_X10_horizon_7 N M (F + 1) h s (nI i) = if h.bi (M + 1) i = 1 then (if s ≤ h.bi (M + 3) i then L_X10_horizon_7 N M F h s (nI (i + 1)) else L_X10_horizon_7 N M F h (h.bi (M + 3) i) (nI (i + 1))) else L_X10_horizon_7 N M F h s (nI (i + 1)) := by
      show B_X10_horizon_7 N (L_X10_horizon_7 N M F) M h s (nI i) = _
      unfold B_X10_horizon_7 B_X10_horizon_42
      rw [n.1]
      refine (if_neg (by exact fun z => by rw [ni_lt (by omega) (by omega)] at z; omega)).trans ?_
      rw [rd_1301 q, rx_1301 q (by omega), rd_1303 q, rx_1303 q (by omega), rd_1303 q, rx_1303 q (by omega)]
      rw [ni_clp (by omega), ni_inc]
    have skip : (h.bi (M + 1) i = 1 → s ≤ h.bi (M + 3) i) → hznS h M c (i + 1) s := by
      intro z
      refine ⟨p1.imp id (fun ⟨u, u1, u2, u3⟩ => ⟨u, u1, by omega, u3⟩), p2, fun u u1 u2 u3 => ?_⟩
      by_cases e : u = i
      · rw [e] at u3 ⊢; exact z u3
      · exact p3 u u1 (by omega) u3
    show ∃ s' : Int32, (1 ≤ i + 1 ∧ hznS h M c (i + 1) s') ∧ L_X10_horizon_7 N M (F + 1) h s (nI i) = L_X10_horizon_7 N M F h s' (nI (i + 1))
    rw [body]
    by_cases z1 : h.bi (M + 1) i = 1
    · rw [if_pos z1]
      by_cases z2 : s ≤ h.bi (M + 3) i
      · rw [if_pos z2]
        exact ⟨s, ⟨by omega, skip (fun _ => z2)⟩, rfl⟩
      · rw [if_neg z2]
        rw [Int32.le_iff_toInt_le] at z2
        refine ⟨h.bi (M + 3) i, ⟨by omega, Or.inr ⟨i, i1, by omega, z1, rfl⟩, ?_, fun u u1 u2 u3 => ?_⟩, rfl⟩
        · rw [Int32.le_iff_toInt_le] at p2 ⊢; omega
        · by_cases e : u = i
          · rw [e, Int32.le_iff_toInt_le]; exact Int.le_refl _
          · have := p3 u u1 (by omega) u3
            rw [Int32.le_iff_toInt_le] at this ⊢; omega
    · rw [if_neg z1]
      exact ⟨s, ⟨by omega, skip (fun y => absurd y z1)⟩, rfl⟩
/-- t is kept -/
def keptT (h : Hp) (M b c t : Nat) : Prop := h.bi (M + 1) t = 2 ∧ ∃ x, hznS h M c (b + 1) x ∧ x < h.bi (M + 4) t
theorem rf_isKept (q : Rk h M) (n : Rn h M b c w l v k r) (N : Nat) (hN : 1000 < N) {t : Nat} (ht : t < 514) : ∃ x, J_X10_isKept N M h (nI t) = some (h, x) ∧ B01 x (keptT h M b c t) := by
  obtain ⟨z, e1, e2⟩ := rf_horizon q n N hN
  unfold J_X10_isKept B_X10_isKept_0
  rw [rd_1301 q, rx_1301 q ht, rd_1304 q, rx_1304 q ht, ni_clp (by omega)]
  by_cases c1 : h.bi (M + 1) t = 2
  · rw [if_pos c1]
    have st : ∀ {y : Option (Hp × Int32)}, B_X10_isKept_20 N M h (h.bi (M + 4) t) z = y → (J_X10_horizon N M h).bind (fun z => B_X10_isKept_20 N M z.1 (h.bi (M + 4) t) z.2) = y := fun hz => (bnd e1).trans hz
    by_cases c2 : h.bi (M + 4) t ≤ z
    · refine ⟨0, st ?_, Or.inr ⟨rfl, fun ⟨_, x, y1, y2⟩ => ?_⟩⟩
      · unfold B_X10_isKept_20 B_X10_isKept_27 B_X10_isKept_28
        rw [if_pos c2]
        exact ck_eq (Or.inl rfl)
      · rw [y1.uniq e2, Int32.lt_iff_toInt_lt] at y2
        rw [Int32.le_iff_toInt_le] at c2
        omega
    · refine ⟨1, st ?_, Or.inl ⟨rfl, c1, z, e2, ?_⟩⟩
      · unfold B_X10_isKept_20 B_X10_isKept_28
        rw [if_neg c2]
        exact ck_eq (Or.inr rfl)
      · rw [Int32.lt_iff_toInt_lt]
        rw [Int32.le_iff_toInt_le] at c2
        omega
  · rw [if_neg c1]
    refine ⟨0, ?_, Or.inr ⟨rfl, fun y => c1 y.1⟩⟩
    unfold B_X10_isKept_27 B_X10_isKept_28
    exact ck_eq (Or.inl rfl)
end RF19
