noncomputable def cnt (P : Nat → Prop) (n : Nat) : Nat := (List.range n).countP (fun k => @decide (P k) (Classical.propDecidable _))
theorem cnt_s (P : Nat → Prop) (n : Nat) (h : P n) : cnt P (n + 1) = cnt P n + 1 := by
  unfold cnt
  rw [List.range_succ, List.countP_append]
  congr 1
  rw [List.countP_singleton, if_pos (@decide_eq_true _ (Classical.propDecidable _) h)]
theorem cnt_n (P : Nat → Prop) (n : Nat) (h : ¬ P n) : cnt P (n + 1) = cnt P n := by
  unfold cnt
  rw [List.range_succ, List.countP_append, List.countP_singleton, if_neg (fun z => h (@of_decide_eq_true _ (Classical.propDecidable _) z))]
  rfl
theorem cnt_le (P : Nat → Prop) (n : Nat) : cnt P n ≤ n := by
  unfold cnt
  refine Nat.le_trans List.countP_le_length ?_
  rw [List.length_range]
  exact Nat.le_refl _
theorem or_count {g : Nat → Nat} {h : Hp} {au S lc n ah od : Nat} {M : Nat → Nat → Prop} (q : Au g h au S lc n ah od) (m : Mx h ah n M) (N : Nat) : ∀ (c y F : Nat), c = n - y → y ≤ n → c < F → L_X1_onRings_51 N au F h (nI (cnt (fun x => M x x) y)) (nI y) = some (h, nI (cnt (fun x => M x x) n)) := by
  have a15 := q.2.2.2.2.2.2.2.2.2.2.2.2.2.2
  intro c
  induction c with
  | zero =>
    intro y F hc hy hF
    obtain ⟨F, rfl⟩ : ∃ F', F = F' + 1 := ⟨F - 1, by omega⟩
    have : y = n := by omega
    subst this
    show B_X1_onRings_51 N _ au h _ (nI y) = _
    unfold B_X1_onRings_51
    rw [q.2.2.2.2.1]
    refine (if_pos (by exact (ni_le (by omega) (by omega)).mpr (by omega))).trans ?_
    rfl
  | succ c ih =>
    intro y F hc hy hF
    obtain ⟨F, rfl⟩ : ∃ F', F = F' + 1 := ⟨F - 1, by omega⟩
    obtain ⟨v, v1, v2⟩ := au_isAhead q m N (show y < n by omega) (show y < n by omega)
    have s1 := ih (y + 1) F (by omega) (by omega) (by omega)
    show B_X1_onRings_51 N (L_X1_onRings_51 N au F) au h _ (nI y) = _
    unfold B_X1_onRings_51
    rw [q.2.2.2.2.1]
    refine (if_neg (by exact fun z => by rw [ni_le (by omega) (by omega)] at z; omega)).trans ?_
    refine (bnd (by exact v1)).trans ?_
    unfold B_X1_onRings_65 B_X1_onRings_71
    rw [ni_inc, ni_inc]
    rcases v2 with ⟨z1, z2⟩ | ⟨z1, z2⟩
    · rw [cnt_s (fun x => M x x) _ z2] at s1
      refine (if_neg (by rw [z1]; show ¬ (1 : Int32) = 0; decide)).trans ?_
      exact s1
    · rw [cnt_n (fun x => M x x) _ z2] at s1
      refine (if_pos (by exact z1)).trans ?_
      exact s1
theorem or_outer {g : Nat → Nat} {au S lc n ah od : Nat} (N : Nat) (hN : 100000 < N) {M : Nat → Nat → Prop} : ∀ (c o F : Nat) (h : Hp), c = n - o → o ≤ n → c < F → Au g h au S lc n ah od → Wf g h → Mx h ah n (Pth M o) → ∃ h', L_X1_onRings_2 N au F h (nI o) = some (h', nI (cnt (fun x => Pth M n x x) n)) ∧ Fr g g au h h' ∧ h'.nx = h.nx ∧ h'.su = h.su := by
  intro c
  induction c with
  | zero =>
    intro o F h hc ho hF q w m
    obtain ⟨F, rfl⟩ : ∃ F', F = F' + 1 := ⟨F - 1, by omega⟩
    have a15 := q.2.2.2.2.2.2.2.2.2.2.2.2.2.2
    have : o = n := by omega
    subst this
    refine ⟨h, ?_, Fr.rf w au, rfl, rfl⟩
    show B_X1_onRings_2 N _ au h (nI o) = _
    unfold B_X1_onRings_2
    rw [q.2.2.2.2.1]
    refine (if_pos (by exact (ni_le (by omega) (by omega)).mpr (by omega))).trans ?_
    exact or_count q m N o 0 N rfl (Nat.zero_le _) (by omega)
  | succ c ih =>
    intro o F h hc ho hF q w m
    obtain ⟨F, rfl⟩ : ∃ F', F = F' + 1 := ⟨F - 1, by omega⟩
    have a15 := q.2.2.2.2.2.2.2.2.2.2.2.2.2.2
    obtain ⟨h2, b1, b2, b3, b4, b5, b6⟩ := or_inner N hN (show o < n by omega) (M := Pth M o) (L_X1_onRings_2 N au F) n 0 N h rfl (Nat.zero_le _) (by omega) q w ⟨fun a b z => z.elim (m.1 a b) (fun z => by omega), fun b i j hb hi hj => (m.2 b i j hb hi hj).trans ⟨Or.inl, fun z => z.elim id (fun z => by omega)⟩⟩
    obtain ⟨h3, r1, r2, r3, r4⟩ := ih (o + 1) F h2 (by omega) (by omega) (by omega) b2 b4.wf b3
    refine ⟨h3, ?_, b4.tr w r2, r3.trans b5, r4.trans b6⟩
    show B_X1_onRings_2 N (L_X1_onRings_2 N au F) au h (nI o) = _
    unfold B_X1_onRings_2
    rw [q.2.2.2.2.1]
    refine (if_neg (by exact fun z => by rw [ni_le (by omega) (by omega)] at z; omega)).trans ?_
    exact b1.trans r1
theorem au_onRings {g : Nat → Nat} {h : Hp} {au S lc n ah od : Nat} {M : Nat → Nat → Prop} (q : Au g h au S lc n ah od) (w : Wf g h) (m : Mx h ah n M) (N : Nat) (hN : 100000 < N) : ∃ h', J_X1_onRings N au h = some (h', nI (cnt (fun x => Pth M n x x) n)) ∧ Fr g g au h h' ∧ h'.nx = h.nx ∧ h'.su = h.su := or_outer N hN (M := M) n 0 N h rfl (Nat.zero_le _) (by have := q.2.2.2.2.2.2.2.2.2.2.2.2.2.2; omega) q w m
/-! the order -/
def Dn (h : Hp) (dn n : Nat) (E : Nat → Prop) : Prop := h.kd dn = 21 ∧ h.al dn = wd n ∧ (∀ x, E x → x < n) ∧ ∀ k j, k < wd n → j < 64 → (bt (h.aw dn k) j = true ↔ E (64 * k + j))
theorem dn_is {h : Hp} {dn n : Nat} {E : Nat → Prop} (q : Dn h dn n E) (N au : Nat) {x : Nat} (hx : x < n) (hn : n ≤ 1000) : ∃ v, J_X1_isDone N au h (nI x) (some dn) = some (h, v) ∧ ((v = 1 ∧ E x) ∨ (v = 0 ∧ ¬ E x)) := by
  have hw := wdl hx
  have wl : wd n ≤ 16 := by unfold wd; omega
  have bit := q.2.2.2 (x / 64) (x % 64) hw (Nat.mod_lt _ (by decide))
  rw [Nat.div_add_mod] at bit
  have start : ∀ {v : Int32}, (if bt (h.aw dn (x / 64)) (x % 64) = false then B_X1_isDone_23 N au h 0 else B_X1_isDone_23 N au h 1) = some (h, v) → J_X1_isDone N au h (nI x) (some dn) = some (h, v) := by
    intro v hv
    unfold J_X1_isDone B_X1_isDone_0
    rw [shr6 (by omega), and63 x (by omega), ni_clp (by omega)]
    refine (dr_e (by exact rfl) (by exact q.1)).trans ?_
    rw [q.2.1]
    refine (ck_eq (by exact ix_ok2 hw (by omega))).trans ?_
    by_cases z : bt (h.aw dn (x / 64)) (x % 64) = false
    · rw [if_pos z] at hv
      refine (if_pos (by exact lg_cmp_ez.mpr ((bt_lshr _ (Nat.mod_lt _ (by decide))).mpr z))).trans ?_
      exact hv
    · rw [if_neg z] at hv
      refine (if_neg (by exact fun y => z ((bt_lshr _ (Nat.mod_lt _ (by decide))).mp (lg_cmp_ez.mp y)))).trans ?_
      exact hv
  cases e : bt (h.aw dn (x / 64)) (x % 64) with
  | true => exact ⟨1, start (by rw [e]; rfl), Or.inl ⟨rfl, bit.mp e⟩⟩
  | false => exact ⟨0, start (by rw [e]; rfl), Or.inr ⟨rfl, fun z => by rw [bit.mpr z] at e; cases e⟩⟩
theorem rd_loop {g : Nat → Nat} {h : Hp} {au S lc n ah od dn : Nat} {M : Nat → Nat → Prop} {E : Nat → Prop} (q : Au g h au S lc n ah od) (m : Mx h ah n M) (d : Dn h dn n E) (N : Nat) {y : Nat} (hy : y < n) : ∀ (c k F : Nat), c = wd n - k → k ≤ wd n → c < F → (∀ a, a < 64 * k → M a y → E a) → ∃ v, L_X1_isReady_2 N au F h (nI y) (some dn) (nI k) = some (h, v) ∧ ((v = 1 ∧ ∀ a, M a y → E a) ∨ (v = 0 ∧ ¬ ∀ a, M a y → E a)) := by
  obtain ⟨a1, a2, a3, a4, a5, a6, a7, a8, a9, a10, a11, a12, a13, a14, a15⟩ := id q
  have hb := nwb a15
  have wl : wd n ≤ 16 := by unfold wd; omega
  intro c
  induction c with
  | zero =>
    intro k F hc hk hF hp
    obtain ⟨F, rfl⟩ : ∃ F', F = F' + 1 := ⟨F - 1, by omega⟩
    refine ⟨1, ?_, Or.inl ⟨rfl, fun a ha => hp a (by have := (m.1 a y ha).1; unfold wd at *; omega) ha⟩⟩
    show B_X1_isReady_2 N _ au h (nI y) (some dn) (nI k) = _
    unfold B_X1_isReady_2
    rw [a6]
    refine (if_pos (by exact (ni_le (by omega) (by omega)).mpr (by omega))).trans ?_
    rfl
  | succ c ih =>
    intro k F hc hk hF hp
    obtain ⟨F, rfl⟩ : ∃ F', F = F' + 1 := ⟨F - 1, by omega⟩
    have hkw : k < wd n := by omega
    have i2 := ixl hkw hy
    have start : ∀ {z : Option (Hp × Int32)}, (if h.aw ah (y * wd n + k) &&& (h.aw dn k ^^^ (-1 : Int64)) = 0 then L_X1_isReady_2 N au F h (nI y) (some dn) (nI (k + 1)) else some (h, 0)) = z → L_X1_isReady_2 N au (F + 1) h (nI y) (some dn) (nI k) = z := by
      intro z hz
      show B_X1_isReady_2 N (L_X1_isReady_2 N au F) au h (nI y) (some dn) (nI k) = _
      unfold B_X1_isReady_2
      rw [a6, nI_mul, nI_add, ni_clp (show y * wd n + k < 2147483648 by omega), ni_clp (show k < 2147483648 by omega)]
      refine (if_neg (by exact fun z => by rw [ni_le (by omega) (by omega)] at z; omega)).trans ?_
      refine (dr_e (by exact a7) (by exact a8)).trans ?_
      rw [a10]
      refine (ck_eq (by exact ix_ok2 i2 (by omega))).trans ?_
      refine (dr_e (by exact rfl) (by exact d.1)).trans ?_
      rw [d.2.1]
      refine (ck_eq (by exact ix_ok2 hkw (by omega))).trans ?_
      rw [ni_inc]
      by_cases c1 : h.aw ah (y * wd n + k) &&& (h.aw dn k ^^^ (-1 : Int64)) = 0
      · rw [if_pos c1] at hz
        refine (if_pos (by exact lg_cmp_ez.mpr c1)).trans ?_
        exact hz
      · rw [if_neg c1] at hz
        refine (if_neg (by exact fun y => c1 (lg_cmp_ez.mp y))).trans ?_
        exact hz
    have sub : h.aw ah (y * wd n + k) &&& (h.aw dn k ^^^ (-1 : Int64)) = 0 ↔ ∀ j, j < 64 → M (64 * k + j) y → E (64 * k + j) := by
      rw [bt_sub]
      constructor
      · intro z j hj hm
        exact (d.2.2.2 k j hkw hj).mp (z j hj ((m.2 y k j hy hkw hj).mpr hm))
      · intro z j hj hm
        exact (d.2.2.2 k j hkw hj).mpr (z j hj ((m.2 y k j hy hkw hj).mp hm))
    by_cases c1 : h.aw ah (y * wd n + k) &&& (h.aw dn k ^^^ (-1 : Int64)) = 0
    · obtain ⟨v, s1, s2⟩ := ih (k + 1) F (by omega) (by omega) (by omega) (fun a ha hm => by
        by_cases c2 : a < 64 * k
        · exact hp a c2 hm
        · have := sub.mp c1 (a - 64 * k) (by omega)
          rw [show 64 * k + (a - 64 * k) = a by omega] at this
          exact this hm)
      exact ⟨v, start (by rw [if_pos c1]; exact s1), s2⟩
    · refine ⟨0, start (by rw [if_neg c1]), Or.inr ⟨rfl, fun z => c1 (sub.mpr (fun j _ hm => z _ hm))⟩⟩
theorem au_isReady {g : Nat → Nat} {h : Hp} {au S lc n ah od dn : Nat} {M : Nat → Nat → Prop} {E : Nat → Prop} (q : Au g h au S lc n ah od) (m : Mx h ah n M) (d : Dn h dn n E) (N : Nat) (hN : 100000 < N) {y : Nat} (hy : y < n) : ∃ v, J_X1_isReady N au h (nI y) (some dn) = some (h, v) ∧ ((v = 1 ∧ ∀ a, M a y → E a) ∨ (v = 0 ∧ ¬ ∀ a, M a y → E a)) := rd_loop q m d N hy (wd n) 0 N rfl (Nat.zero_le _) (by have := q.2.2.2.2.2.2.2.2.2.2.2.2.2.2; unfold wd; omega) (fun a ha => by omega)
