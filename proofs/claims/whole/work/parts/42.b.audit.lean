/-! the audit: a matrix of bits -/
theorem nI_mul (a b : Nat) : nI a * nI b = nI (a * b) := by
  apply Int32.toBitVec_inj.mp
  rw [Int32.toBitVec_mul, nI_bv, nI_bv, nI_bv]
  exact (BitVec.ofNat_mul ..).symm
def wd (n : Nat) : Nat := (n + 63) / 64
theorem ixw {w y k y' k' : Nat} (h1 : k < w) (h2 : k' < w) (e : y * w + k = y' * w + k') : y = y' ∧ k = k' := by
  have d : ∀ y k, k < w → (y * w + k) / w = y := fun y k h => by
    rw [Nat.mul_comm, Nat.mul_add_div (by omega), Nat.div_eq_of_lt h, Nat.add_zero]
  have a1 := d y k h1
  have a2 := d y' k' h2
  rw [e, a2] at a1
  subst a1
  exact ⟨rfl, by omega⟩
theorem ixl {w y k n : Nat} (h1 : k < w) (h2 : y < n) : y * w + k < n * w := by
  have : (y + 1) * w ≤ n * w := Nat.mul_le_mul_right w h2
  rw [Nat.add_mul, Nat.one_mul] at this
  omega
theorem nwb {n : Nat} (h : n ≤ 1000) : n * wd n ≤ 16000 := by
  have : wd n ≤ 16 := by unfold wd; omega
  exact Nat.le_trans (Nat.mul_le_mul h this) (by decide)
theorem wdl {n x : Nat} (h : x < n) : x / 64 < wd n := by unfold wd; omega
/-- the audit at au: store S, committed lc, n of them, the rows ah, the order od -/
def Au (g : Nat → Nat) (h : Hp) (au S lc n ah od : Nat) : Prop := h.kd au = 4 ∧ g au = au ∧ h.fr 400 au = some S ∧ h.fr 401 au = some lc ∧ h.fi 402 au = nI n ∧ h.fi 403 au = nI (wd n) ∧ h.fr 404 au = some ah ∧ h.kd ah = 21 ∧ g ah = au ∧ h.al ah = n * wd n ∧ h.fr 405 au = some od ∧ h.kd od = 20 ∧ g od = au ∧ h.al od = n ∧ n ≤ 1000
theorem Au.fr {g g' : Nat → Nat} {p : Nat} {h h' : Hp} {au S lc n ah od : Nat} (q : Au g h au S lc n ah od) (w : Wf g h) (F : Fr g g' p h h') (s : Sep g p au) : Au g' h' au S lc n ah od := by
  obtain ⟨a1, a2, a3, a4, a5, a6, a7, a8, a9, a10, a11, a12, a13, a14, a15⟩ := q
  have ag := F.ag w a1 (by decide) s.1
  exact ⟨F.kd w a1 (by decide), (F.gg w a1 (by decide)).trans a2, (ag.fr _).trans a3, (ag.fr _).trans a4, (ag.fi _).trans a5, (ag.fi _).trans a6, (ag.fr _).trans a7, F.kd w a8 (by decide), (F.gg w a8 (by decide)).trans a9, (F.al w a8 (by decide)).trans a10, (ag.fr _).trans a11, F.kd w a12 (by decide), (F.gg w a12 (by decide)).trans a13, (F.al w a12 (by decide)).trans a14, a15⟩
theorem Au.saw {g : Nat → Nat} {h : Hp} {au S lc n ah od : Nat} (q : Au g h au S lc n ah od) (a i : Nat) (v : Int64) : Au g (h.saw a i v) au S lc n ah od := q
theorem Au.sai {g : Nat → Nat} {h : Hp} {au S lc n ah od : Nat} (q : Au g h au S lc n ah od) (a i : Nat) (v : Int32) : Au g (h.sai a i v) au S lc n ah od := q
/-- the rows hold M: M x y, x comes ahead of y -/
def Mx (h : Hp) (ah n : Nat) (M : Nat → Nat → Prop) : Prop := (∀ x y, M x y → x < n ∧ y < n) ∧ ∀ y k j, y < n → k < wd n → j < 64 → (bt (h.aw ah (y * wd n + k)) j = true ↔ M (64 * k + j) y)
theorem Mx.bit {h : Hp} {ah n : Nat} {M : Nat → Nat → Prop} (m : Mx h ah n M) {x y : Nat} (hx : x < n) (hy : y < n) : bt (h.aw ah (y * wd n + x / 64)) (x % 64) = true ↔ M x y := by
  have := m.2 y (x / 64) (x % 64) hy (wdl hx) (Nat.mod_lt _ (by decide))
  rw [Nat.div_add_mod] at this
  exact this
theorem au_draw {g : Nat → Nat} {h : Hp} {au S lc n ah od : Nat} {M : Nat → Nat → Prop} (q : Au g h au S lc n ah od) (w : Wf g h) (m : Mx h ah n M) (N : Nat) {x y : Nat} (hx : x < n) (hy : y < n) : ∃ h', J_X1_draw N au h (nI (x + 1)) (nI (y + 1)) = some (h', ()) ∧ Au g h' au S lc n ah od ∧ Mx h' ah n (fun a b => M a b ∨ (a = x ∧ b = y ∧ x ≠ y)) ∧ Fr g g au h h' ∧ h'.nx = h.nx ∧ h'.su = h.su ∧ h'.ai = h.ai := by
  obtain ⟨a1, a2, a3, a4, a5, a6, a7, a8, a9, a10, a11, a12, a13, a14, a15⟩ := id q
  have hb := nwb a15
  have hil := ixl (wdl hx) hy
  unfold J_X1_draw B_X1_draw_0
  rw [ni_pred, ni_pred, a5, a6]
  by_cases c : x = y
  · rw [if_pos (by rw [c])]
    refine ⟨h, rfl, q, ⟨fun a b z => z.elim (m.1 a b) (fun z => absurd c z.2.2), fun b k j hb hk hj => ?_⟩, Fr.rf w au, rfl, rfl, rfl⟩
    rw [m.2 b k j hb hk hj]
    exact ⟨Or.inl, fun z => z.elim id (fun z => absurd c z.2.2)⟩
  · rw [if_neg (fun z => c ((ni_inj (by omega) (by omega)).mp z)), if_neg (ni_nn (by omega)), if_neg (fun z => by rw [ni_le (by omega) (by omega)] at z; omega), if_neg (ni_nn (by omega)), if_neg (fun z => by rw [ni_le (by omega) (by omega)] at z; omega)]
    rw [shr6 (by omega), nI_mul, nI_add, and63 x (by omega), ni_clp (by omega)]
    have F1 := Fr.saw w (p := au) (a := ah) (Un.ch a9) (y * wd n + x / 64) (h.aw ah (y * wd n + x / 64) ||| (1 : Int64) <<< ((nI (x % 64)).toInt64 &&& 63))
    refine ⟨h.saw ah (y * wd n + x / 64) (h.aw ah (y * wd n + x / 64) ||| (1 : Int64) <<< ((nI (x % 64)).toInt64 &&& 63)), ?_, q, ⟨fun a b z => z.elim (m.1 a b) (fun z => by omega), fun b k j hb hk hj => ?_⟩, F1, rfl, rfl, rfl⟩
    · refine (dr_e (by exact a7) (by exact a8)).trans ?_
      rw [a10]
      refine (ck_eq (by exact ix_ok2 hil (by omega))).trans ?_
      refine (ck_eq (by exact ix_ok2 hil (by omega))).trans ?_
      rfl
    · rw [pj_saw_aw, if_pos rfl]
      by_cases e : b * wd n + k = y * wd n + x / 64
      · obtain ⟨e1, e2⟩ := ixw hk (wdl hx) e
        rw [if_pos e, bt_or, one_shl (Nat.mod_lt _ (by decide)), Bool.or_eq_true, decide_eq_true_iff, ← e, m.2 b k j hb hk hj]
        constructor
        · rintro (z | z)
          · exact Or.inl z
          · exact Or.inr ⟨by omega, e1, c⟩
        · rintro (z | z)
          · exact Or.inl z
          · exact Or.inr (by omega)
      · rw [if_neg e, m.2 b k j hb hk hj]
        constructor
        · exact Or.inl
        · rintro (z | ⟨z1, z2, z3⟩)
          · exact z
          · exact absurd (by rw [z2]; congr 1; omega) e
theorem au_isAhead {g : Nat → Nat} {h : Hp} {au S lc n ah od : Nat} {M : Nat → Nat → Prop} (q : Au g h au S lc n ah od) (m : Mx h ah n M) (N : Nat) {x y : Nat} (hx : x < n) (hy : y < n) : ∃ v, J_X1_isAhead N au h (nI x) (nI y) = some (h, v) ∧ ((v = 1 ∧ M x y) ∨ (v = 0 ∧ ¬ M x y)) := by
  obtain ⟨a1, a2, a3, a4, a5, a6, a7, a8, a9, a10, a11, a12, a13, a14, a15⟩ := id q
  have hb := nwb a15
  have hil := ixl (wdl hx) hy
  have bit := m.bit hx hy
  have start : ∀ {v : Int32}, (if bt (h.aw ah (y * wd n + x / 64)) (x % 64) = false then B_X1_isAhead_33 N au h 0 else B_X1_isAhead_33 N au h 1) = some (h, v) → J_X1_isAhead N au h (nI x) (nI y) = some (h, v) := by
    intro v hv
    unfold J_X1_isAhead B_X1_isAhead_0
    rw [a6, shr6 (by omega), nI_mul, nI_add, and63 x (by omega), ni_clp (by omega)]
    refine (dr_e (by exact a7) (by exact a8)).trans ?_
    rw [a10]
    refine (ck_eq (by exact ix_ok2 hil (by omega))).trans ?_
    by_cases z : bt (h.aw ah (y * wd n + x / 64)) (x % 64) = false
    · rw [if_pos z] at hv
      refine (if_pos (by exact lg_cmp_ez.mpr ((bt_lshr _ (Nat.mod_lt _ (by decide))).mpr z))).trans ?_
      exact hv
    · rw [if_neg z] at hv
      refine (if_neg (by exact fun y => z ((bt_lshr _ (Nat.mod_lt _ (by decide))).mp (lg_cmp_ez.mp y)))).trans ?_
      exact hv
  cases e : bt (h.aw ah (y * wd n + x / 64)) (x % 64) with
  | true => exact ⟨1, start (by rw [e]; rfl), Or.inl ⟨rfl, bit.mp e⟩⟩
  | false => exact ⟨0, start (by rw [e]; rfl), Or.inr ⟨rfl, fun z => by rw [bit.mpr z] at e; cases e⟩⟩
theorem to_loop {g : Nat → Nat} {au S lc n ah od : Nat} (N : Nat) {x y : Nat} (hx : x < n) (hy : y < n) {M : Nat → Nat → Prop} : ∀ (c k F : Nat) (h : Hp), c = wd n - k → k ≤ wd n → c < F → Au g h au S lc n ah od → Wf g h → Mx h ah n (fun a b => M a b ∨ (b = y ∧ a < 64 * k ∧ M a x)) → ∃ h', L_X1_takeOver_2 N au F h (nI x) (nI y) (nI k) = some (h', ()) ∧ Au g h' au S lc n ah od ∧ Mx h' ah n (fun a b => M a b ∨ (b = y ∧ M a x)) ∧ Fr g g au h h' ∧ h'.nx = h.nx ∧ h'.su = h.su := by
  intro c
  induction c with
  | zero =>
    intro k F h hc hk hF q w m
    obtain ⟨F, rfl⟩ : ∃ F', F = F' + 1 := ⟨F - 1, by omega⟩
    obtain ⟨a1, a2, a3, a4, a5, a6, a7, a8, a9, a10, a11, a12, a13, a14, a15⟩ := id q
    refine ⟨h, ?_, q, ?_, Fr.rf w au, rfl, rfl⟩
    · show B_X1_takeOver_2 N _ au h (nI x) (nI y) (nI k) = _
      unfold B_X1_takeOver_2
      rw [a6]
      refine (if_pos (by exact (ni_le (by unfold wd; omega) (by unfold wd at hk; omega)).mpr (by omega))).trans ?_
      rfl
    · have e : ∀ a b, (M a b ∨ (b = y ∧ a < 64 * k ∧ M a x)) ↔ (M a b ∨ (b = y ∧ M a x)) := fun a b => by
        constructor
        · exact fun z => z.imp id (fun z => ⟨z.1, z.2.2⟩)
        · rintro (z | z)
          · exact Or.inl z
          · have := (m.1 a x (Or.inl z.2)).1
            exact Or.inr ⟨z.1, by unfold wd at *; omega, z.2⟩
      exact ⟨fun a b z => m.1 a b ((e a b).mpr z), fun b i j hb hi hj => (m.2 b i j hb hi hj).trans (e _ _)⟩
  | succ c ih =>
    intro k F h hc hk hF q w m
    obtain ⟨F, rfl⟩ : ∃ F', F = F' + 1 := ⟨F - 1, by omega⟩
    obtain ⟨a1, a2, a3, a4, a5, a6, a7, a8, a9, a10, a11, a12, a13, a14, a15⟩ := id q
    have hb := nwb a15
    have hkw : k < wd n := by omega
    have i1 := ixl hkw hx
    have i2 := ixl hkw hy
    have wl : wd n ≤ 16 := by unfold wd; omega
    have F1 := Fr.saw w (p := au) (a := ah) (Un.ch a9) (y * wd n + k) (h.aw ah (y * wd n + k) ||| h.aw ah (x * wd n + k))
    have m2 : Mx (h.saw ah (y * wd n + k) (h.aw ah (y * wd n + k) ||| h.aw ah (x * wd n + k))) ah n (fun a b => M a b ∨ (b = y ∧ a < 64 * (k + 1) ∧ M a x)) := by
      refine ⟨fun a b z => z.elim (fun z => m.1 a b (Or.inl z)) (fun z => ⟨(m.1 a x (Or.inl z.2.2)).1, by omega⟩), fun b i j hb hi hj => ?_⟩
      rw [pj_saw_aw, if_pos rfl]
      by_cases e : b * wd n + i = y * wd n + k
      · obtain ⟨e1, e2⟩ := ixw hi hkw e
        rw [if_pos e, bt_or, Bool.or_eq_true, m.2 y k j hy hkw hj, m.2 x k j hx hkw hj, e1, e2]
        constructor
        · rintro ((z | z) | (z | z))
          · exact Or.inl z
          · exact Or.inr ⟨rfl, by omega, z.2.2⟩
          · exact Or.inr ⟨rfl, by omega, z⟩
          · exact Or.inr ⟨rfl, by omega, z.2.2⟩
        · rintro (z | z)
          · exact Or.inl (Or.inl z)
          · exact Or.inr (Or.inl z.2.2)
      · rw [if_neg e, m.2 b i j hb hi hj]
        constructor
        · exact fun z => z.imp id (fun z => ⟨z.1, by omega, z.2.2⟩)
        · rintro (z | z)
          · exact Or.inl z
          · by_cases c2 : i = k
            · exact absurd (by rw [z.1, c2]) e
            · exact Or.inr ⟨z.1, by omega, z.2.2⟩
    obtain ⟨h', r1, r2, r3, r4, r5, r6⟩ := ih (k + 1) F _ (by omega) (by omega) (by omega) (q.saw _ _ _) F1.wf m2
    refine ⟨h', ?_, r2, r3, F1.tr w r4, r5, r6⟩
    show B_X1_takeOver_2 N (L_X1_takeOver_2 N au F) au h (nI x) (nI y) (nI k) = _
    unfold B_X1_takeOver_2
    rw [a6, nI_mul, nI_mul, nI_add, nI_add, ni_clp (by omega), ni_clp (by omega)]
    refine (if_neg (by exact fun z => by rw [ni_le (by omega) (by omega)] at z; omega)).trans ?_
    refine (dr_e (by exact a7) (by exact a8)).trans ?_
    rw [a10]
    refine (ck_eq (by exact ix_ok2 i2 (by omega))).trans ?_
    refine (dr_e (by exact a7) (by exact a8)).trans ?_
    rw [a10]
    refine (ck_eq (by exact ix_ok2 i1 (by omega))).trans ?_
    refine (ck_eq (by exact ix_ok2 i2 (by omega))).trans ?_
    rw [ni_inc]
    exact r1
theorem au_takeOver {g : Nat → Nat} {h : Hp} {au S lc n ah od : Nat} {M : Nat → Nat → Prop} (q : Au g h au S lc n ah od) (w : Wf g h) (m : Mx h ah n M) (N : Nat) (hN : 100000 < N) {x y : Nat} (hx : x < n) (hy : y < n) : ∃ h', J_X1_takeOver N au h (nI x) (nI y) = some (h', ()) ∧ Au g h' au S lc n ah od ∧ Mx h' ah n (fun a b => M a b ∨ (b = y ∧ M a x)) ∧ Fr g g au h h' ∧ h'.nx = h.nx ∧ h'.su = h.su := by
  have hb := q.2.2.2.2.2.2.2.2.2.2.2.2.2.2
  refine to_loop N hx hy (M := M) (wd n) 0 N h rfl (Nat.zero_le _) (by unfold wd; omega) q w ⟨fun a b z => z.elim (m.1 a b) (fun z => by omega), fun b i j hb hi hj => (m.2 b i j hb hi hj).trans ⟨Or.inl, fun z => z.elim id (fun z => by omega)⟩⟩
/-- the paths over those below k -/
def Pth (M : Nat → Nat → Prop) : Nat → Nat → Nat → Prop
  | 0 => M
  | k + 1 => fun a b => Pth M k a b ∨ (Pth M k k b ∧ Pth M k a k)
theorem or_inner {g : Nat → Nat} {au S lc n ah od : Nat} (N : Nat) (hN : 100000 < N) {o : Nat} (ho : o < n) {M : Nat → Nat → Prop} (k2 : Hp → Int32 → Option (Hp × Int32)) : ∀ (c y F : Nat) (h : Hp), c = n - y → y ≤ n → c < F → Au g h au S lc n ah od → Wf g h → Mx h ah n (fun a b => M a b ∨ (b < y ∧ M o b ∧ M a o)) → ∃ h', L_X1_onRings_12 N k2 au F h (nI o) (nI y) = k2 h' (nI (o + 1)) ∧ Au g h' au S lc n ah od ∧ Mx h' ah n (fun a b => M a b ∨ (M o b ∧ M a o)) ∧ Fr g g au h h' ∧ h'.nx = h.nx ∧ h'.su = h.su := by
  intro c
  induction c with
  | zero =>
    intro y F h hc hy hF q w m
    obtain ⟨F, rfl⟩ : ∃ F', F = F' + 1 := ⟨F - 1, by omega⟩
    have a15 := q.2.2.2.2.2.2.2.2.2.2.2.2.2.2
    refine ⟨h, ?_, q, ?_, Fr.rf w au, rfl, rfl⟩
    · show B_X1_onRings_12 N k2 _ au h (nI o) (nI y) = _
      unfold B_X1_onRings_12
      rw [q.2.2.2.2.1]
      refine (if_pos (by exact (ni_le (by omega) (by omega)).mpr (by omega))).trans ?_
      rw [ni_inc]
    · have e : ∀ a b, (M a b ∨ (b < y ∧ M o b ∧ M a o)) ↔ (M a b ∨ (M o b ∧ M a o)) := fun a b => by
        constructor
        · exact fun z => z.imp id (fun z => z.2)
        · rintro (z | z)
          · exact Or.inl z
          · exact Or.inr ⟨by have := (m.1 o b (Or.inl z.1)).2; omega, z⟩
      exact ⟨fun a b z => m.1 a b ((e a b).mpr z), fun b i j hb hi hj => (m.2 b i j hb hi hj).trans (e _ _)⟩
  | succ c ih =>
    intro y F h hc hy hF q w m
    obtain ⟨F, rfl⟩ : ∃ F', F = F' + 1 := ⟨F - 1, by omega⟩
    have a15 := q.2.2.2.2.2.2.2.2.2.2.2.2.2.2
    have hyn : y < n := by omega
    obtain ⟨v, v1, v2⟩ := au_isAhead q m N ho hyn
    have start : ∀ {z : Option (Hp × Int32)}, B_X1_onRings_26 N k2 (L_X1_onRings_12 N k2 au F) au h (nI o) (nI y) v = z → L_X1_onRings_12 N k2 au (F + 1) h (nI o) (nI y) = z := by
      intro z hz
      show B_X1_onRings_12 N k2 (L_X1_onRings_12 N k2 au F) au h (nI o) (nI y) = _
      unfold B_X1_onRings_12
      rw [q.2.2.2.2.1]
      refine (if_neg (by exact fun z => by rw [ni_le (by omega) (by omega)] at z; omega)).trans ?_
      refine (bnd (by exact v1)).trans ?_
      exact hz
    -- M o y as it stands now is M o y as it stood
    have oy : (M o y ∨ (y < y ∧ M o y ∧ M o o)) ↔ M o y := ⟨fun z => z.elim id (fun z => by omega), Or.inl⟩
    rcases v2 with ⟨z1, z2⟩ | ⟨z1, z2⟩
    · have moy := oy.mp z2
      obtain ⟨h2, b1, b2, b3, b4, b5, b6⟩ := au_takeOver q w m N hN ho hyn
      have m2 : Mx h2 ah n (fun a b => M a b ∨ (b < y + 1 ∧ M o b ∧ M a o)) := by
        have e : ∀ a b, ((M a b ∨ (b < y ∧ M o b ∧ M a o)) ∨ (b = y ∧ (M a o ∨ (o < y ∧ M o o ∧ M a o)))) ↔ (M a b ∨ (b < y + 1 ∧ M o b ∧ M a o)) := fun a b => by
          constructor
          · rintro ((z | z) | ⟨z, z3⟩)
            · exact Or.inl z
            · exact Or.inr ⟨by omega, z.2⟩
            · exact Or.inr ⟨by omega, by rw [z]; exact moy, z3.elim id (fun z => z.2.2)⟩
          · rintro (z | ⟨y1, y2, y3⟩)
            · exact Or.inl (Or.inl z)
            · by_cases c1 : b = y
              · exact Or.inr ⟨c1, Or.inl y3⟩
              · exact Or.inl (Or.inr ⟨by omega, y2, y3⟩)
        exact ⟨fun a b z => b3.1 a b ((e a b).mpr z), fun b i j hb hi hj => (b3.2 b i j hb hi hj).trans (e _ _)⟩
      obtain ⟨h', r1, r2, r3, r4, r5, r6⟩ := ih (y + 1) F h2 (by omega) (by omega) (by omega) b2 b4.wf m2
      refine ⟨h', start ?_, r2, r3, b4.tr w r4, r5.trans b5, r6.trans b6⟩
      unfold B_X1_onRings_26
      refine (if_neg (by rw [z1]; decide)).trans ?_
      refine (bnd (by exact b1)).trans ?_
      unfold B_X1_onRings_35
      rw [ni_inc]
      exact r1
    · have m2 : Mx h ah n (fun a b => M a b ∨ (b < y + 1 ∧ M o b ∧ M a o)) := by
        have e : ∀ a b, (M a b ∨ (b < y ∧ M o b ∧ M a o)) ↔ (M a b ∨ (b < y + 1 ∧ M o b ∧ M a o)) := fun a b => by
          constructor
          · exact fun z => z.imp id (fun z => ⟨by omega, z.2⟩)
          · rintro (z | ⟨y1, y2, y3⟩)
            · exact Or.inl z
            · by_cases c1 : b = y
              · exact absurd (Or.inl (by rw [← c1]; exact y2)) z2
              · exact Or.inr ⟨by omega, y2, y3⟩
        exact ⟨fun a b z => m.1 a b ((e a b).mpr z), fun b i j hb hi hj => (m.2 b i j hb hi hj).trans (e _ _)⟩
      obtain ⟨h', r1, r2, r3, r4, r5, r6⟩ := ih (y + 1) F h (by omega) (by omega) (by omega) q w m2
      refine ⟨h', start ?_, r2, r3, r4, r5, r6⟩
      unfold B_X1_onRings_26
      refine (if_pos (by exact z1)).trans ?_
      unfold B_X1_onRings_35
      rw [ni_inc]
      exact r1
