/-! the reference's bits: joins, has, nextOf, lastOf -/
theorem sar6 {n : Nat} (h : n < 576) : nI n >>> ((6 : Int32) &&& 31) = nI (n / 64) := by
  have : ∀ n : Fin 576, nI n.val >>> ((6 : Int32) &&& 31) = nI (n.val / 64) := by decide +kernel
  exact this ⟨n, h⟩
theorem sh64m {k : Nat} (hk : k < 64) : ((((nI k).toInt64 &&& 63).toBitVec).smod 64).toNat = k := by
  have : ∀ k : Fin 64, ((((nI k.val).toInt64 &&& 63).toBitVec).smod 64).toNat = k.val := by decide +kernel
  exact this ⟨k, hk⟩
theorem bt_sar0 (v : Int64) {k : Nat} (hk : k < 64) : bt (v >>> ((nI k).toInt64 &&& 63)) 0 = bt v k := by
  unfold bt
  rw [Int64.toBitVec_shiftRight, BitVec.sshiftRight', sh64m hk, BitVec.getLsbD_sshiftRight]
  simp [hk]
theorem bt_one (k : Nat) : bt 1 k = decide (k = 0) := by
  unfold bt
  show (1#64).getLsbD k = _
  rw [BitVec.getLsbD_one]
  by_cases e : k = 0
  · rw [e]; rfl
  · rw [decide_eq_false e]; simp [e]
/-- the test of the reference: an arithmetic shift -/
theorem bt_sar (v : Int64) {k : Nat} (hk : k < 64) : ((v >>> ((nI k).toInt64 &&& 63)) &&& (1 : Int64)) = 1 ↔ bt v k = true := by
  rw [← bt_sar0 v hk]
  constructor
  · intro e
    have := bt_and (v >>> ((nI k).toInt64 &&& 63)) 1 0
    rw [e, bt_one] at this
    simpa using this.symm
  · intro e
    refine bt_ext (fun j _ => ?_)
    rw [bt_and, bt_one]
    by_cases j0 : j = 0
    · rw [j0, e]; rfl
    · rw [decide_eq_false j0, Bool.and_false]
/-- the matrix in an array of nine words a row -/
def Rx (h : Hp) (a : Nat) (P : Nat → Nat → Prop) : Prop := ∀ x y, x < 514 → y < 576 → (bt (h.bw a (9 * x + y / 64)) (y % 64) = true ↔ P x y)
theorem Rx.cg {h : Hp} {a : Nat} {P Q : Nat → Nat → Prop} (m : Rx h a P) (e : ∀ x y, P x y ↔ Q x y) : Rx h a Q := fun x y hx hy => (m x y hx hy).trans (e x y)
theorem rx_ix {x y : Nat} (hy : y < 576) : (9 : Int32) * nI x + (nI y >>> ((6 : Int32) &&& 31)) = nI (9 * x + y / 64) := by
  rw [sar6 hy, show (9 : Int32) * nI x = nI (9 * x) from nI_mul 9 x]
  exact nI_add _ _
section RF29
variable {h : Hp} {M b c w l v k r : Nat}
theorem rf_joins (q : Rk h M) (N : Nat) {x y : Nat} (hx : x < 514) (hy : y < 514) {P : Nat → Nat → Prop} (m : Rx h (M + 38) P) : ∃ h', J_X10_joins N M h (nI x) (nI y) = some (h', ()) ∧ RfO [38] [] M h h' ∧ Rx h' (M + 38) (fun a c => P a c ∨ (a = x ∧ c = y ∧ x ≠ y)) := by
  by_cases z : x = y
  · refine ⟨h, ?_, RfO.rf _ _ _ _, m.cg (fun a c => ⟨Or.inl, fun u => u.elim id (fun u => absurd z u.2.2)⟩)⟩
    unfold J_X10_joins B_X10_joins_0
    rw [if_pos (by rw [z])]
    rfl
  · refine ⟨h.sbw (M + 38) (9 * x + y / 64) (h.bw (M + 38) (9 * x + y / 64) ||| ((1 : Int64) <<< ((nI (y % 64)).toInt64 &&& 63))), ?_, RfO.sbw (k := 38) (by decide) _ _, fun a c ha hc => ?_⟩
    · unfold J_X10_joins B_X10_joins_0 B_X10_joins_28
      rw [if_neg (fun u => z ((ni_inj (by omega) (by omega)).mp u)), rx_ix (show y < 576 by omega), rd_1356 q, rx_1356 q (show 9 * x + y / 64 < 4626 by omega), rx_1356 q (show 9 * x + y / 64 < 4626 by omega), ni_clp (show 9 * x + y / 64 < _ by omega), and63 y (by omega)]
    · rw [bw_at]
      by_cases e : 9 * a + c / 64 = 9 * x + y / 64
      · have e1 : a = x := by omega
        have e2 : c / 64 = y / 64 := by omega
        rw [if_pos e, bt_or, one_shl (show y % 64 < 64 by omega), ← e, Bool.or_eq_true, decide_eq_true_iff, m a c ha hc]
        refine or_congr Iff.rfl ⟨fun u => ⟨e1, by omega, z⟩, fun u => by rw [u.2.1]⟩
      · rw [if_neg e, m a c ha hc]
        exact ⟨Or.inl, fun u => u.elim id (fun u => absurd (by rw [u.1, u.2.1]) e)⟩
theorem rf_has (N : Nat) {o : Option Nat} {a : Nat} (eo : o = some a) (ka : h.kd a = 31) (la : h.al a = 4626) {P : Nat → Nat → Prop} (m : Rx h a P) {x y : Nat} (hx : x < 514) (hy : y < 514) : ∃ z, J_X10_has N h o (nI x) (nI y) = some (h, z) ∧ B01 z (P x y) := by
  have st : ∀ {z : Option (Hp × Int32)}, (if bt (h.bw a (9 * x + y / 64)) (y % 64) = true then some (h, (1 : Int32)) else some (h, 0)) = z → J_X10_has N h o (nI x) (nI y) = z := by
    intro z hz
    unfold J_X10_has B_X10_has_0 B_X10_has_28
    refine (dr_e (by exact eo) (by exact ka)).trans ?_
    rw [rx_ix (show y < 576 by omega), and63 y (by omega), la]
    refine (ck_ix (show 9 * x + y / 64 < 4626 by omega) (by omega)).trans ?_
    rw [ni_clp (show 9 * x + y / 64 < _ by omega), ← hz]
    by_cases e : bt (h.bw a (9 * x + y / 64)) (y % 64) = true
    · rw [if_pos e, if_pos (lg_cmp_ez.mpr ((bt_sar _ (show y % 64 < 64 by omega)).mpr e))]
      exact ck_eq (Or.inr rfl)
    · rw [if_neg e, if_neg (fun u => e ((bt_sar _ (show y % 64 < 64 by omega)).mp (lg_cmp_ez.mp u)))]
      exact ck_eq (Or.inl rfl)
  by_cases e : bt (h.bw a (9 * x + y / 64)) (y % 64) = true
  · exact ⟨1, st (if_pos e), Or.inl ⟨rfl, (m x y hx (by omega)).mp e⟩⟩
  · exact ⟨0, st (if_neg e), Or.inr ⟨rfl, fun u => e ((m x y hx (by omega)).mpr u)⟩⟩
/-- the next version of the same key -/
def nxtS (A : Nat → Int32) (v i : Nat) (x : Int32) : Prop := (x = -1 ∧ ∀ j, i < j → j < v → A j ≠ A i) ∨ ∃ j, i < j ∧ j < v ∧ x = nI j ∧ A j = A i ∧ ∀ u, i < u → u < j → A u ≠ A i
theorem rf_nextOf (q : Rk h M) (n : Rn h M b c w l v k r) (N : Nat) (hN : 1000 < N) {i : Nat} (hi : i < v) : ∃ x, J_X10_nextOf N M h (nI i) = some (h, x) ∧ nxtS (h.bi (M + 19)) v i x := by
  have hv := n.2.2.2.2.2.2.2.2.2.2.2.1
  have key := lp_inv (G := fun F j (_ : Unit) => L_X10_nextOf_4 N M F h (nI i) (nI j)) (hi := v) (Inv := fun j _ => i < j ∧ ∀ u, i < u → u < j → h.bi (M + 19) u ≠ h.bi (M + 19) i) (Q := fun o => ∃ x, o = some (h, x) ∧ nxtS (h.bi (M + 19)) v i x) ?_ ?_ (v - (i + 1)) (i + 1) N () (by omega) (by omega) (by omega) ⟨by omega, fun u h1 h2 => by omega⟩
  · unfold J_X10_nextOf B_X10_nextOf_0
    rw [ni_inc]
    exact key
  · intro F s hs
    refine ⟨-1, ?_, Or.inl ⟨rfl, hs.2⟩⟩
    show B_X10_nextOf_4 N _ M h (nI i) (nI v) = _
    unfold B_X10_nextOf_4
    rw [n.2.2.2.2.1]
    exact if_pos ((ni_le (by omega) (by omega)).mpr (Nat.le_refl _))
  · intro F j s hj hs
    have body : L_X10_nextOf_4 N M (F + 1) h (nI i) (nI j) = if h.bi (M + 19) j = h.bi (M + 19) i then some (h, nI j) else L_X10_nextOf_4 N M F h (nI i) (nI (j + 1)) := by
      show B_X10_nextOf_4 N (L_X10_nextOf_4 N M F) M h (nI i) (nI j) = _
      unfold B_X10_nextOf_4
      rw [n.2.2.2.2.1, if_neg (by rw [ni_le (by omega) (by omega)]; omega), rd_1324 q, rx_1324 q (show j < 514 by omega), rd_1324 q, rx_1324 q (show i < 514 by omega), ni_clp (show i < _ by omega), ni_clp (show j < _ by omega), ni_inc]
    show (∃ s' : Unit, (i < j + 1 ∧ ∀ u, i < u → u < j + 1 → h.bi (M + 19) u ≠ h.bi (M + 19) i) ∧ L_X10_nextOf_4 N M (F + 1) h (nI i) (nI j) = L_X10_nextOf_4 N M F h (nI i) (nI (j + 1))) ∨ ∃ x, L_X10_nextOf_4 N M (F + 1) h (nI i) (nI j) = some (h, x) ∧ _
    rw [body]
    by_cases z : h.bi (M + 19) j = h.bi (M + 19) i
    · right
      rw [if_pos z]
      exact ⟨_, rfl, Or.inr ⟨j, hs.1, hj, rfl, z, hs.2⟩⟩
    · left
      rw [if_neg z]
      refine ⟨(), ⟨by omega, fun u h1 h2 => ?_⟩, rfl⟩
      by_cases e : u = j
      · rw [e]; exact z
      · exact hs.2 u h1 (by omega)
theorem rf_lastOf (q : Rk h M) (n : Rn h M b c w l v k r) (N : Nat) (hN : 1000 < N) {i : Nat} (hi : i < v) : ∃ x, J_X10_lastOf N M h (nI i) = some (h, x) ∧ lastS (fun j => h.bi (M + 19) j = h.bi (M + 19) i) i x := by
  have hv := n.2.2.2.2.2.2.2.2.2.2.2.1
  have key := lp_dn (G := fun F j (_ : Unit) => L_X10_lastOf_4 N M F h (nI i) (nI j - 1)) (Inv := fun j _ => j ≤ i ∧ ∀ u, j ≤ u → u < i → ¬ h.bi (M + 19) u = h.bi (M + 19) i) (Q := fun o => ∃ x, o = some (h, x) ∧ lastS (fun j => h.bi (M + 19) j = h.bi (M + 19) i) i x) ?_ ?_ i N () (by omega) ⟨Nat.le_refl _, fun u h1 h2 => by omega⟩
  · exact key
  · intro F s hs
    refine ⟨-1, ?_, Or.inl ⟨rfl, fun j hj => hs.2 j (Nat.zero_le _) hj⟩⟩
    show B_X10_lastOf_4 N _ M h (nI i) (nI 0 - 1) = _
    unfold B_X10_lastOf_4
    exact if_pos (by decide)
  · intro F j s hs
    have body : L_X10_lastOf_4 N M (F + 1) h (nI i) (nI (j + 1) - 1) = if h.bi (M + 19) j = h.bi (M + 19) i then some (h, nI j) else L_X10_lastOf_4 N M F h (nI i) (nI j - 1) := by
      show B_X10_lastOf_4 N (L_X10_lastOf_4 N M F) M h (nI i) (nI (j + 1) - 1) = _
      rw [ni_pred]
      unfold B_X10_lastOf_4
      rw [if_neg (ni_nn (show j < _ by omega)), rd_1324 q, rx_1324 q (show j < 514 by omega), rd_1324 q, rx_1324 q (show i < 514 by omega), ni_clp (show i < _ by omega), ni_clp (show j < _ by omega), ni_m]
    show (∃ s' : Unit, (j ≤ i ∧ ∀ u, j ≤ u → u < i → ¬ h.bi (M + 19) u = h.bi (M + 19) i) ∧ L_X10_lastOf_4 N M (F + 1) h (nI i) (nI (j + 1) - 1) = L_X10_lastOf_4 N M F h (nI i) (nI j - 1)) ∨ ∃ x, L_X10_lastOf_4 N M (F + 1) h (nI i) (nI (j + 1) - 1) = some (h, x) ∧ _
    rw [body]
    by_cases z : h.bi (M + 19) j = h.bi (M + 19) i
    · right
      rw [if_pos z]
      exact ⟨_, rfl, Or.inr ⟨j, by omega, rfl, z, fun u h1 h2 => hs.2 u h1 h2⟩⟩
    · left
      rw [if_neg z]
      refine ⟨(), ⟨by omega, fun u h1 h2 => ?_⟩, rfl⟩
      by_cases e : u = j
      · rw [e]; exact z
      · exact hs.2 u (by omega) h2
end RF29
