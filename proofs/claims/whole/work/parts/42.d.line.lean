/-! lineUp -/
def Cand (M : Nat → Nat → Prop) (ord : List Nat) (x : Nat) : Prop := x ∉ ord ∧ ∀ a, M a x → a ∈ ord
/-- ord is an order as it is found: each the least that can be taken -/
def LinS (M : Nat → Nat → Prop) (n : Nat) (ord : List Nat) : Prop := ∀ (i x : Nat), ord[i]? = some x → x < n ∧ Cand M (ord.take i) x ∧ ∀ y, y < x → ¬ Cand M (ord.take i) y
def Odr (h : Hp) (od : Nat) (ord : List Nat) : Prop := ∀ (i x : Nat), ord[i]? = some x → h.ai od i = nI x
theorem LinS.snoc {M : Nat → Nat → Prop} {n : Nat} {ord : List Nat} (l : LinS M n ord) {x : Nat} (hx : x < n) (c : Cand M ord x) (m : ∀ y, y < x → ¬ Cand M ord y) : LinS M n (ord ++ [x]) := by
  intro i z hz
  by_cases e : i < ord.length
  · rw [List.getElem?_append_left e] at hz
    rw [List.take_append_of_le_length (by omega)]
    exact l i z hz
  · have hl := (List.getElem?_eq_some_iff.mp hz).1
    rw [List.length_append] at hl
    have hl : i < ord.length + 1 := hl
    have e2 : i = ord.length := by omega
    rw [e2, List.getElem?_append_right (Nat.le_refl _), Nat.sub_self] at hz
    injection hz with hz
    rw [e2, List.take_append_of_le_length (Nat.le_refl _), List.take_length, ← hz]
    exact ⟨hx, c, m⟩
section LU
variable {g : Nat → Nat} {au S lc n ah od dn : Nat} {M : Nat → Nat → Prop}
/-- the search for the next -/
theorem lu_next {h : Hp} (q : Au g h au S lc n ah od) (m : Mx h ah n M) {ord : List Nat} (d : Dn h dn n (fun x => x ∈ ord)) (N : Nat) (hN : 100000 < N) (f pl : Int32) (k11 : Hp → Option Nat → Int32 → Int32 → Option (Hp × Int32)) : ∀ (c x F : Nat), c = n - x → x ≤ n → c < F → (∀ y, y < x → ¬ Cand M ord y) → ∃ x', x' ≤ n ∧ (∀ y, y < x' → ¬ Cand M ord y) ∧ (x' < n → Cand M ord x') ∧ L_X1_lineUp_45 N k11 au F h (some dn) f pl (nI x) = B_X1_lineUp_80 N k11 au h (some dn) f pl (nI x') := by
  have a15 := q.2.2.2.2.2.2.2.2.2.2.2.2.2.2
  intro c
  induction c with
  | zero =>
    intro x F hc hx hF hp
    obtain ⟨F, rfl⟩ : ∃ F', F = F' + 1 := ⟨F - 1, by omega⟩
    refine ⟨x, hx, hp, fun z => by omega, ?_⟩
    show B_X1_lineUp_45 N k11 _ au h (some dn) f pl (nI x) = _
    unfold B_X1_lineUp_45
    rw [q.2.2.2.2.1]
    refine (if_pos (by exact (ni_le (by omega) (by omega)).mpr (by omega))).trans ?_
    rfl
  | succ c ih =>
    intro x F hc hx hF hp
    obtain ⟨F, rfl⟩ : ∃ F', F = F' + 1 := ⟨F - 1, by omega⟩
    have hxn : x < n := by omega
    obtain ⟨v, v1, v2⟩ := dn_is d N au hxn a15
    have start : ∀ {z : Option (Hp × Int32)}, B_X1_lineUp_61 N k11 (L_X1_lineUp_45 N k11 au F) au h (some dn) f pl (nI x) v = z → L_X1_lineUp_45 N k11 au (F + 1) h (some dn) f pl (nI x) = z := by
      intro z hz
      show B_X1_lineUp_45 N k11 (L_X1_lineUp_45 N k11 au F) au h (some dn) f pl (nI x) = _
      unfold B_X1_lineUp_45
      rw [q.2.2.2.2.1]
      refine (if_neg (by exact fun z => by rw [ni_le (by omega) (by omega)] at z; omega)).trans ?_
      refine (bnd (by exact v1)).trans ?_
      exact hz
    have skip : ¬ Cand M ord x → ∃ x', x' ≤ n ∧ (∀ y, y < x' → ¬ Cand M ord y) ∧ (x' < n → Cand M ord x') ∧ B_X1_lineUp_74 N k11 (L_X1_lineUp_45 N k11 au F) au h (some dn) f pl (nI x) = B_X1_lineUp_80 N k11 au h (some dn) f pl (nI x') := by
      intro nc
      obtain ⟨x', s1, s2, s3, s4⟩ := ih (x + 1) F (by omega) (by omega) (by omega) (fun y hy => by
        by_cases e : y = x
        · rw [e]; exact nc
        · exact hp y (by omega))
      refine ⟨x', s1, s2, s3, ?_⟩
      unfold B_X1_lineUp_74
      rw [ni_inc]
      exact s4
    rcases v2 with ⟨z1, z2⟩ | ⟨z1, z2⟩
    · obtain ⟨x', s1, s2, s3, s4⟩ := skip (fun z => z.1 z2)
      refine ⟨x', s1, s2, s3, start ?_⟩
      unfold B_X1_lineUp_61
      refine (if_neg (by rw [z1]; decide)).trans ?_
      exact s4
    · obtain ⟨u, u1, u2⟩ := au_isReady q m d N hN hxn
      have start2 : ∀ {z : Option (Hp × Int32)}, B_X1_lineUp_71 N k11 (L_X1_lineUp_45 N k11 au F) au h (some dn) f pl (nI x) u = z → L_X1_lineUp_45 N k11 au (F + 1) h (some dn) f pl (nI x) = z := by
        intro z hz
        refine start ?_
        unfold B_X1_lineUp_61
        refine (if_pos (by exact z1)).trans ?_
        refine (bnd (by exact u1)).trans ?_
        exact hz
      rcases u2 with ⟨y1, y2⟩ | ⟨y1, y2⟩
      · refine ⟨x, by omega, hp, fun _ => ⟨z2, y2⟩, start2 ?_⟩
        unfold B_X1_lineUp_71
        refine (if_neg (by rw [y1]; decide)).trans ?_
        rfl
      · obtain ⟨x', s1, s2, s3, s4⟩ := skip (fun z => y2 z.2)
        refine ⟨x', s1, s2, s3, start2 ?_⟩
        unfold B_X1_lineUp_71
        refine (if_pos (by exact y1)).trans ?_
        exact s4
/-- those at the beginning that are done are passed over -/
theorem lu_first {h : Hp} (q : Au g h au S lc n ah od) {ord : List Nat} (d : Dn h dn n (fun x => x ∈ ord)) (N : Nat) (pl : Int32) (k11 : Hp → Option Nat → Int32 → Int32 → Option (Hp × Int32)) : ∀ (c x F : Nat), c = n - x → x ≤ n → c < F → (∀ y, y < x → y ∈ ord) → ∃ x', x' ≤ n ∧ (∀ y, y < x' → y ∈ ord) ∧ L_X1_lineUp_19 N k11 au F h (some dn) (nI x) pl = B_X1_lineUp_42 N k11 au h (some dn) (nI x') pl := by
  have a15 := q.2.2.2.2.2.2.2.2.2.2.2.2.2.2
  intro c
  induction c with
  | zero =>
    intro x F hc hx hF hp
    obtain ⟨F, rfl⟩ : ∃ F', F = F' + 1 := ⟨F - 1, by omega⟩
    refine ⟨x, hx, hp, ?_⟩
    show B_X1_lineUp_19 N k11 _ au h (some dn) (nI x) pl = _
    unfold B_X1_lineUp_19
    rw [q.2.2.2.2.1]
    refine (if_pos (by exact (ni_le (by omega) (by omega)).mpr (by omega))).trans ?_
    rfl
  | succ c ih =>
    intro x F hc hx hF hp
    obtain ⟨F, rfl⟩ : ∃ F', F = F' + 1 := ⟨F - 1, by omega⟩
    have hxn : x < n := by omega
    obtain ⟨v, v1, v2⟩ := dn_is d N au hxn a15
    have start : ∀ {z : Option (Hp × Int32)}, B_X1_lineUp_33 N k11 (L_X1_lineUp_19 N k11 au F) au h (some dn) (nI x) pl v = z → L_X1_lineUp_19 N k11 au (F + 1) h (some dn) (nI x) pl = z := by
      intro z hz
      show B_X1_lineUp_19 N k11 (L_X1_lineUp_19 N k11 au F) au h (some dn) (nI x) pl = _
      unfold B_X1_lineUp_19
      rw [q.2.2.2.2.1]
      refine (if_neg (by exact fun z => by rw [ni_le (by omega) (by omega)] at z; omega)).trans ?_
      refine (bnd (by exact v1)).trans ?_
      exact hz
    rcases v2 with ⟨z1, z2⟩ | ⟨z1, z2⟩
    · obtain ⟨x', s1, s2, s3⟩ := ih (x + 1) F (by omega) (by omega) (by omega) (fun y hy => by
        by_cases e : y = x
        · rw [e]; exact z2
        · exact hp y (by omega))
      refine ⟨x', s1, s2, start ?_⟩
      unfold B_X1_lineUp_33
      refine (if_neg (by rw [z1]; decide)).trans ?_
      rw [ni_inc]
      exact s3
    · refine ⟨x, hx, hp, start ?_⟩
      unfold B_X1_lineUp_33
      refine (if_pos (by exact z1)).trans ?_
      rfl
theorem lu_loop (N : Nat) (hN : 100000 < N) (gd : g dn = dn) (gn : dn ≠ au) : ∀ (c x F : Nat) (h : Hp) (ord : List Nat), c = n - ord.length → ord.length ≤ n → c < F → x ≤ n → (∀ y, y < x → y ∈ ord) → Au g h au S lc n ah od → Wf g h → Mx h ah n M → Dn h dn n (fun x => x ∈ ord) → LinS M n ord → Odr h od ord → ∃ h' h1 ord' v, L_X1_lineUp_11 N au F h (some dn) (nI x) (nI ord.length) = some (h', v) ∧ LinS M n ord' ∧ Odr h' od ord' ∧ ((v = 1 ∧ ord'.length = n) ∨ (v = 0 ∧ ord'.length < n ∧ ∀ y, y < n → ¬ Cand M ord' y)) ∧ Au g h' au S lc n ah od ∧ Mx h' ah n M ∧ Wf g h' ∧ (∀ (g0 : Nat → Nat) (h0 : Hp), Wf g0 h0 → h0.nx ≤ dn → h0.nx ≤ au → Fr g0 g h0.nx h0 h → Fr g0 g h0.nx h0 h') ∧ h1 = h' ∧ h'.nx = h.nx ∧ h'.su = h.su := by
  intro c
  induction c with
  | zero =>
    intro x F h ord hc ho hF hx hp q w m d l o
    obtain ⟨F, rfl⟩ : ∃ F', F = F' + 1 := ⟨F - 1, by omega⟩
    have a15 := q.2.2.2.2.2.2.2.2.2.2.2.2.2.2
    refine ⟨h, h, ord, 1, ?_, l, o, Or.inl ⟨rfl, by omega⟩, q, m, w, fun _ _ _ _ _ F => F, rfl, rfl, rfl⟩
    show B_X1_lineUp_11 N _ au h (some dn) (nI x) (nI ord.length) = _
    unfold B_X1_lineUp_11
    rw [q.2.2.2.2.1]
    refine (if_pos (by exact (ni_le (by omega) (by omega)).mpr (by omega))).trans ?_
    rfl
  | succ c ih =>
    intro x F h ord hc ho hF hx hp q w m d l o
    obtain ⟨F, rfl⟩ : ∃ F', F = F' + 1 := ⟨F - 1, by omega⟩
    obtain ⟨a1, a2, a3, a4, a5, a6, a7, a8, a9, a10, a11, a12, a13, a14, a15⟩ := id q
    have wl : wd n ≤ 16 := by unfold wd; omega
    obtain ⟨x1, b1, b2, b3⟩ := lu_first q d N (nI ord.length) (L_X1_lineUp_11 N au F) (n - x) x N rfl hx (by omega) hp
    obtain ⟨y, c1, c2, c3, c4⟩ := lu_next q m d N hN (nI x1) (nI ord.length) (L_X1_lineUp_11 N au F) (n - x1) x1 N rfl b1 (by omega) (fun z hz cz => cz.1 (b2 z hz))
    have start : ∀ {z : Option (Hp × Int32)}, B_X1_lineUp_80 N (L_X1_lineUp_11 N au F) au h (some dn) (nI x1) (nI ord.length) (nI y) = z → L_X1_lineUp_11 N au (F + 1) h (some dn) (nI x) (nI ord.length) = z := by
      intro z hz
      show B_X1_lineUp_11 N (L_X1_lineUp_11 N au F) au h (some dn) (nI x) (nI ord.length) = _
      unfold B_X1_lineUp_11
      rw [q.2.2.2.2.1]
      refine (if_neg (by exact fun z => by rw [ni_le (by omega) (by omega)] at z; omega)).trans ?_
      refine b3.trans ?_
      unfold B_X1_lineUp_42
      refine c4.trans ?_
      exact hz
    by_cases e : y < n
    · have cy := c3 e
      have hw := wdl e
      have ndh : dn ≠ ah := fun z => gn (gd.symm.trans (by rw [z]; exact a9))
      have ndo : dn ≠ od := ne_kd d.1 a12 (by decide)
      have F1 : Fr g g dn h (h.saw dn (y / 64) (h.aw dn (y / 64) ||| (1 : Int64) <<< ((nI (y % 64)).toInt64 &&& 63))) := Fr.saw w (Un.rf g dn) _ _
      have q1 : Au g (h.saw dn (y / 64) (h.aw dn (y / 64) ||| (1 : Int64) <<< ((nI (y % 64)).toInt64 &&& 63))) au S lc n ah od := q.saw _ _ _
      have m1 : Mx (h.saw dn (y / 64) (h.aw dn (y / 64) ||| (1 : Int64) <<< ((nI (y % 64)).toInt64 &&& 63))) ah n M := ⟨m.1, fun b k j hb hk hj => by rw [pj_saw_aw, if_neg (Ne.symm ndh)]; exact m.2 b k j hb hk hj⟩
      have d1 : Dn (h.saw dn (y / 64) (h.aw dn (y / 64) ||| (1 : Int64) <<< ((nI (y % 64)).toInt64 &&& 63))) dn n (fun x => x ∈ ord ++ [y]) := by
        refine ⟨d.1, d.2.1, fun z hz => (List.mem_append.mp hz).elim (d.2.2.1 z) (fun z => by rw [List.mem_singleton.mp z]; exact e), fun k j hk hj => ?_⟩
        rw [pj_saw_aw, if_pos rfl]
        show _ ↔ 64 * k + j ∈ ord ++ [y]
        rw [List.mem_append, List.mem_singleton]
        by_cases c5 : k = y / 64
        · rw [if_pos c5, bt_or, one_shl (Nat.mod_lt _ (by decide)), Bool.or_eq_true, decide_eq_true_iff, ← c5, d.2.2.2 k j hk hj]
          constructor
          · rintro (z | z)
            · exact Or.inl z
            · exact Or.inr (by omega)
          · rintro (z | z)
            · exact Or.inl z
            · exact Or.inr (by omega)
        · rw [if_neg c5, d.2.2.2 k j hk hj]
          exact ⟨Or.inl, fun z => z.elim id (fun z => by omega)⟩
      have hol : ord.length < n := by omega
      have F2 : Fr g g au (h.saw dn (y / 64) (h.aw dn (y / 64) ||| (1 : Int64) <<< ((nI (y % 64)).toInt64 &&& 63))) ((h.saw dn (y / 64) (h.aw dn (y / 64) ||| (1 : Int64) <<< ((nI (y % 64)).toInt64 &&& 63))).sai od ord.length (nI y)) := Fr.sai F1.wf (Un.ch a13) _ _
      have o2 : Odr ((h.saw dn (y / 64) (h.aw dn (y / 64) ||| (1 : Int64) <<< ((nI (y % 64)).toInt64 &&& 63))).sai od ord.length (nI y)) od (ord ++ [y]) := by
        intro i z hz
        rw [pj_sai_ai, if_pos rfl]
        by_cases c5 : i = ord.length
        · rw [c5, List.getElem?_append_right (Nat.le_refl _), Nat.sub_self] at hz
          injection hz with hz
          rw [if_pos c5, ← hz]
        · have hl := (List.getElem?_eq_some_iff.mp hz).1
          rw [List.length_append] at hl
          have hl : i < ord.length + 1 := hl
          rw [List.getElem?_append_left (by omega)] at hz
          rw [if_neg c5]
          exact o i z hz
      have hlen : (ord ++ [y]).length = ord.length + 1 := by rw [List.length_append]; rfl
      obtain ⟨h', h1, ord', v, r1, r2, r3, r4, r5, r6, r7, r8, r9, r10, r11⟩ := ih x1 F _ (ord ++ [y]) (by omega) (by omega) (by omega) b1 (fun z hz => List.mem_append_left _ (b2 z hz)) (q1.sai _ _ _) F2.wf m1 d1 (l.snoc e cy c2) o2
      refine ⟨h', h1, ord', v, start ?_, r2, r3, r4, r5, r6, r7, fun g0 h0 w0 n1 n2 F => r8 g0 h0 w0 n1 n2 ((F.trn w0 F1 n1).trn w0 F2 n2), r9, r10, r11⟩
      unfold B_X1_lineUp_80
      rw [shr6 (by omega), and63 y (by omega), ni_clp (by omega), ni_clp (by omega), a5]
      refine (if_pos (by exact (ni_lt (by omega) (by omega)).mpr e)).trans ?_
      refine (dr_e (by exact rfl) (by exact d.1)).trans ?_
      rw [d.2.1]
      refine (ck_eq (by exact ix_ok2 hw (by omega))).trans ?_
      refine (ck_eq (by exact ix_ok2 hw (by omega))).trans ?_
      refine (dr_e (by exact a11) (by exact a12)).trans ?_
      rw [pj_saw_al, a14]
      refine (ck_eq (by exact ix_ok2 hol (by omega))).trans ?_
      rw [ni_inc, ← hlen]
      exact r1
    · refine ⟨h, h, ord, 0, start ?_, l, o, Or.inr ⟨rfl, by omega, fun z hz => c2 z (by omega)⟩, q, m, w, fun _ _ _ _ _ F => F, rfl, rfl, rfl⟩
      unfold B_X1_lineUp_80
      rw [a5]
      refine (if_neg (by exact fun z => e ((ni_lt (by omega) (by omega)).mp z))).trans ?_
      rfl
end LU
