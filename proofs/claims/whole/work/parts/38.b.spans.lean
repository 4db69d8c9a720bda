/-- replace, with more room where it is wanted -/
theorem sn_replace {g : Nat → Nat} {h : Hp} {s la ha : Nat} {sp : List Iv} (q : Sn g h s la ha sp) (w : Wf g h) (N a b : Nat) (hab : a ≤ b) (hb : b ≤ sp.length) (hs : sp.length ≤ 2000) (lo hi : Int32) : ∃ h' g' la' ha', J_X6_replace N s h (nI a) (nI b) lo hi = some (h', ()) ∧ Sn g' h' s la' ha' (sp.take a ++ (lo, hi) :: sp.drop b) ∧ Fr g g' s h h' ∧ h'.nx ≤ h.nx + 2 ∧ h'.su ≤ h.su + 4 * sp.length := by
  by_cases c : sp.length = h.al la
  · obtain ⟨a1, a2, a3, a4, a5, a6, a7, a8, a9, a10, a11, a12, a13, a14⟩ := id q
    have hsl := w.lt a1 (by decide)
    have hll := w.lt a4 (by decide)
    have hlh := w.lt a5 (by decide)
    have m2 : nI sp.length * (2 : Int32) = nI (2 * sp.length) := by
      have e : nI sp.length + nI sp.length = nI (2 * sp.length) := by rw [nI_add]; congr 1; omega
      rw [← e]
      have : (2 : Int32) = 1 + 1 := rfl
      rw [this, Int32.mul_add, Int32.mul_one]
    have F1 := Fr.new w s 20 (2 * sp.length) (2 * sp.length) s (Nat.le_of_lt hsl)
    have g1s : va_up g h.nx s h.nx = s := va_up_self _ _ _
    have F2 := Fr.tai F1.wf (p := s) (a := h.nx) (Un.ch g1s) (va_cpy (h.ai la) (fun _ => 0) 0 0 (h.al la))
    have F3 := Fr.sfr F2.wf (Un.rf (va_up g h.nx s) s) 900 (some h.nx)
    have F13 := (F1.tr w F2).tr w F3
    have e1 := cp_ints (N := N) (c := 2 * sp.length) a4 hll (by omega) (by omega)
    generalize hh1 : (h.new 20 (2 * sp.length) (2 * sp.length)).tai h.nx (va_cpy (h.ai la) (fun _ => 0) 0 0 (h.al la)) = h1 at F2 F3 F13 e1
    have nx1 : h1.nx = h.nx + 1 := by rw [← hh1]; rfl
    have su1 : h1.su = h.su + 2 * sp.length := by rw [← hh1]; rfl
    have kd1 : ∀ x k, h.kd x = k → k ≠ 0 → h1.kd x = k := fun x k hx hk => by rw [← hh1, pj_tai_kd]; exact new_kd_ne w hx hk
    have k1n : h1.kd h.nx = 20 := by rw [← hh1]; exact new_kd (h := h) (k := 20) (n := 2 * sp.length) (sl := 2 * sp.length)
    have al1 : ∀ x, x < h.nx → h1.al x = h.al x := fun x hx => by rw [← hh1, pj_tai_al, pj_new_al, if_neg (Nat.ne_of_lt hx)]
    have al1n : h1.al h.nx = 2 * sp.length := by rw [← hh1, pj_tai_al, pj_new_al, if_pos rfl]
    have ai1 : ∀ x, x < h.nx → h1.ai x = h.ai x := fun x hx => by rw [← hh1, pj_tai_ai, if_neg (Nat.ne_of_lt hx), pj_new_ai, if_neg (Nat.ne_of_lt hx)]
    have ai1n : h1.ai h.nx = va_cpy (h.ai la) (fun _ => 0) 0 0 (h.al la) := by rw [← hh1, pj_tai_ai, if_pos rfl]
    have fr1 : ∀ f x, x < h.nx → h1.fr f x = h.fr f x := fun f x hx => by rw [← hh1, pj_tai_fr, pj_new_fr, if_neg (Nat.ne_of_lt hx)]
    have fi1 : ∀ f x, x < h.nx → h1.fi f x = h.fi f x := fun f x hx => by rw [← hh1, pj_tai_fi, pj_new_fi, if_neg (Nat.ne_of_lt hx)]
    generalize hh2 : h1.sfr 900 s (some h.nx) = h2 at F3 F13
    have nx2 : h2.nx = h.nx + 1 := by rw [← hh2]; exact nx1
    have k2h : h2.kd ha = 20 := by rw [← hh2]; exact kd1 _ _ a5 (by decide)
    have k2s : h2.kd s = 9 := by rw [← hh2]; exact kd1 _ _ a1 (by decide)
    have k2n : h2.kd h.nx = 20 := by rw [← hh2]; exact k1n
    have l2h : h2.al ha = sp.length := by rw [← hh2]; show h1.al ha = _; rw [al1 _ hlh, a9, ← c]
    have r2h : h2.fr 901 s = some ha := by rw [← hh2, fr_oth (by decide), fr1 _ _ hsl]; exact a3
    have i2 : h2.fi 902 s = nI sp.length := by rw [← hh2, pj_sfr_fi, fi1 _ _ hsl]; exact a13
    have G1 := Fr.new F3.wf s 20 (2 * sp.length) (2 * sp.length) s (by rw [nx2]; omega)
    rw [nx2] at G1
    have g2s : va_up (va_up g h.nx s) (h.nx + 1) s (h.nx + 1) = s := va_up_self _ _ _
    have G2 := Fr.tai G1.wf (p := s) (a := h.nx + 1) (Un.ch g2s) (va_cpy (h2.ai ha) (fun _ => 0) 0 0 (h2.al ha))
    have G3 := Fr.sfr G2.wf (Un.rf (va_up (va_up g h.nx s) (h.nx + 1) s) s) 901 (some (h.nx + 1))
    have G13 := (G1.tr F3.wf G2).tr F3.wf G3
    have e2 := cp_ints (N := N) (h := h2) (c := 2 * sp.length) k2h (by rw [nx2]; omega) (by omega) (by omega)
    rw [nx2] at e2
    generalize hh3 : (h2.new 20 (2 * sp.length) (2 * sp.length)).tai (h.nx + 1) (va_cpy (h2.ai ha) (fun _ => 0) 0 0 (h2.al ha)) = h3 at G2 G3 G13 e2
    have kd3 : ∀ x k, h2.kd x = k → k ≠ 0 → h3.kd x = k := fun x k hx hk => by rw [← hh3, pj_tai_kd]; exact new_kd_ne F3.wf hx hk
    have k3n : h3.kd (h.nx + 1) = 20 := by rw [← hh3]; have := new_kd (h := h2) (k := 20) (n := 2 * sp.length) (sl := 2 * sp.length); rw [nx2] at this; exact this
    have nx3 : h3.nx = h.nx + 2 := by rw [← hh3]; show h2.nx + 1 = _; rw [nx2]
    have su3 : h3.su = h.su + 4 * sp.length := by rw [← hh3]; show h2.su + 2 * sp.length = _; rw [← hh2]; show h1.su + _ = _; rw [su1]; omega
    have fr3 : ∀ f x, x < h.nx + 1 → h3.fr f x = h2.fr f x := fun f x hx => by rw [← hh3, pj_tai_fr, pj_new_fr, if_neg (by rw [nx2]; omega)]
    have fi3 : ∀ f x, x < h.nx + 1 → h3.fi f x = h2.fi f x := fun f x hx => by rw [← hh3, pj_tai_fi, pj_new_fi, if_neg (by rw [nx2]; omega)]
    have al3 : h3.al h.nx = 2 * sp.length := by rw [← hh3]; rw [pj_tai_al, pj_new_al, if_neg (by rw [nx2]; omega), ← hh2]; exact al1n
    have al3n : h3.al (h.nx + 1) = 2 * sp.length := by rw [← hh3]; rw [pj_tai_al, pj_new_al, if_pos nx2.symm]
    have ai3 : h3.ai h.nx = va_cpy (h.ai la) (fun _ => 0) 0 0 (h.al la) := by rw [← hh3, pj_tai_ai, if_neg (by omega), pj_new_ai, if_neg (by rw [nx2]; omega), ← hh2]; exact ai1n
    have ai3n : h3.ai (h.nx + 1) = va_cpy (h.ai ha) (fun _ => 0) 0 0 (h.al ha) := by rw [← hh3, pj_tai_ai, if_pos rfl, ← hh2]; show va_cpy (h1.ai ha) _ _ _ (h1.al ha) = _; rw [ai1 _ hlh, al1 _ hlh]
    have k3s : h3.kd s = 9 := kd3 _ _ k2s (by decide)
    have cpy : ∀ (f : Nat → Int32) (n i : Nat), i < n → va_cpy f (fun _ => 0) 0 0 n i = f i := fun f n i hi => by
      unfold va_cpy
      rw [if_pos (by omega)]
      rw [Nat.zero_add, Nat.sub_zero]
    have q4 : Sn (va_up (va_up g h.nx s) (h.nx + 1) s) (h3.sfr 901 s (some (h.nx + 1))) s h.nx (h.nx + 1) sp := by
      refine ⟨k3s, ?_, fr_same, kd3 _ _ k2n (by decide), k3n, ?_, g2s, by omega, ?_, ?_, ?_, ?_, ?_, ?_⟩
      · rw [fr_oth (by decide), fr3 _ _ (by omega), ← hh2]; exact fr_same
      · rw [va_up_ne _ _ (by omega), va_up_self]
      · show h3.al _ = h3.al _; rw [al3, al3n]
      · show 4 ≤ h3.al _; rw [al3]; omega
      · show _ ≤ h3.al _; rw [al3]; omega
      · show h3.al _ ≤ _; rw [al3]; omega
      · rw [pj_sfr_fi, fi3 _ _ (by omega)]; exact i2
      · intro i y hy
        have hi := (List.getElem?_eq_some_iff.mp hy).1
        rw [pj_sfr_ai, ai3, ai3n, cpy _ _ _ (by omega), cpy _ _ _ (by omega)]
        exact a14 i y hy
    obtain ⟨h5, r1, r2, r3, r4, r5⟩ := sn_fin q4 G3.wf (by show _ < h3.al _; rw [al3]; omega) N a b hab hb lo hi
    refine ⟨h5, _, _, _, ?_, r2, (F13.tr w G13).tr w r3, by rw [r4]; show h3.nx ≤ _; omega, by rw [r5]; show h3.su ≤ _; omega⟩
    unfold J_X6_replace B_X6_replace_0
    refine (dr_e (by exact a2) (by exact a4)).trans ?_
    rw [a13, a2, m2]
    refine (if_pos (by rw [c])).trans ?_
    refine (bnd (by exact e1)).trans ?_
    unfold B_X6_replace_26
    refine (dr_e (by exact rfl) (by exact kd1 _ _ a1 (by decide))).trans ?_
    rw [hh2, r2h, i2, m2]
    refine (bnd (by exact e2)).trans ?_
    unfold B_X6_replace_43
    refine (dr_e (by exact rfl) (by exact k3s)).trans ?_
    exact r1
  · obtain ⟨a1, a2, a3, a4, a5, a6, a7, a8, a9, a10, a11, a12, a13, a14⟩ := id q
    obtain ⟨h5, r1, r2, r3, r4, r5⟩ := sn_fin q w (by omega) N a b hab hb lo hi
    refine ⟨h5, g, la, ha, ?_, r2, r3, by omega, by omega⟩
    unfold J_X6_replace B_X6_replace_0
    refine (dr_e (by exact a2) (by exact a4)).trans ?_
    rw [a13]
    refine (if_neg (by exact fun z => by rw [ni_inj (by omega) (by omega)] at z; omega)).trans ?_
    exact r1
def mnI (a b : Int32) : Int32 := if b < a then b else a
def mxI (a b : Int32) : Int32 := if a < b then b else a
theorem mnI_int (a b : Int32) : (mnI a b).toInt = min a.toInt b.toInt := by
  unfold mnI
  by_cases c : b < a
  · rw [if_pos c]; rw [Int32.lt_iff_toInt_lt] at c; omega
  · rw [if_neg c]; rw [Int32.lt_iff_toInt_lt] at c; omega
theorem mxI_int (a b : Int32) : (mxI a b).toInt = max a.toInt b.toInt := by
  unfold mxI
  by_cases c : a < b
  · rw [if_pos c]; rw [Int32.lt_iff_toInt_lt] at c; omega
  · rw [if_neg c]; rw [Int32.lt_iff_toInt_lt] at c; omega
/-- the spans from a to b - 1 and lo .. hi are one: its ends -/
def Mrg (sp : List Iv) (lo hi : Int32) (a b : Nat) (nl nh : Int32) : Prop := a ≤ b ∧ b ≤ sp.length ∧ (∀ (j : Nat) (y : Iv), a ≤ j → j < b → sp[j]? = some y → y.1.toInt ≤ hi.toInt + 1) ∧ nl.toInt ≤ lo.toInt ∧ hi.toInt ≤ nh.toInt ∧ (∀ (j : Nat) (y : Iv), a ≤ j → j < b → sp[j]? = some y → nl.toInt ≤ y.1.toInt ∧ y.2.toInt ≤ nh.toInt) ∧ (nl.toInt = lo.toInt ∨ ∃ (j : Nat) (y : Iv), a ≤ j ∧ j < b ∧ sp[j]? = some y ∧ nl = y.1) ∧ (nh.toInt = hi.toInt ∨ ∃ (j : Nat) (y : Iv), a ≤ j ∧ j < b ∧ sp[j]? = some y ∧ nh = y.2)
theorem i64_p1 (x : Int32) : (x.toInt64 + 1).toInt = x.toInt + 1 := by
  have := i32_rng x
  rw [i64_add1 (by rw [toI64]; omega) (by rw [toI64]; omega), toI64]
theorem i64_m1 (x : Int32) : (x.toInt64 - 1).toInt = x.toInt - 1 := by
  have := i32_rng x
  rw [i64_sub1 (by rw [toI64]; omega) (by rw [toI64]; omega), toI64]
theorem lg_cmp_gz {a b : Int64} : (0 < lg_cmp a b) ↔ b.toInt < a.toInt := by
  have h1 := lg_cmp_np (a := a) (b := b)
  rw [← Int.not_le, ← h1]
  exact Int32.not_le.symm
theorem add_loop {g : Nat → Nat} {h : Hp} {s la ha : Nat} {sp : List Iv} (q : Sn g h s la ha sp) (N : Nat) (lo hi : Int32) (a : Nat) : ∀ (m b F : Nat) (nl nh : Int32), m = sp.length - b → m < F → Mrg sp lo hi a b nl nh → ∃ b' nl' nh', Mrg sp lo hi a b' nl' nh' ∧ (∀ y, sp[b']? = some y → hi.toInt + 1 < y.1.toInt) ∧ L_X6_add_18 N s F h hi (nI a) (nI b) nl nh = B_X6_add_77 N s h (nI a) (nI b') nl' nh' := by
  obtain ⟨a1, a2, a3, a4, a5, a6, a7, a8, a9, a10, a11, a12, a13, a14⟩ := q
  intro m
  induction m with
  | zero =>
    intro b F nl nh hm hF M
    obtain ⟨F, rfl⟩ : ∃ F', F = F' + 1 := ⟨F - 1, by omega⟩
    have hb := M.2.1
    refine ⟨b, nl, nh, M, fun y hy => by have := (List.getElem?_eq_some_iff.mp hy).1; omega, ?_⟩
    show B_X6_add_18 N _ s h hi (nI a) (nI b) nl nh = _
    unfold B_X6_add_18
    rw [a13]
    refine (if_pos (by exact (ni_le (by omega) (by omega)).mpr (by omega))).trans ?_
    rfl
  | succ m ih =>
    intro b F nl nh hm hF M
    obtain ⟨F, rfl⟩ : ∃ F', F = F' + 1 := ⟨F - 1, by omega⟩
    have hb : b < sp.length := by omega
    have hy : sp[b]? = some sp[b] := List.getElem?_eq_getElem hb
    obtain ⟨v1, v2⟩ := a14 _ _ hy
    have key : ∀ F', B_X6_add_18 N (L_X6_add_18 N s F') s h hi (nI a) (nI b) nl nh = if hi.toInt + 1 < (sp[b]).1.toInt then B_X6_add_77 N s h (nI a) (nI b) nl nh else L_X6_add_18 N s F' h hi (nI a) (nI (b + 1)) (mnI nl (sp[b]).1) (mxI nh (sp[b]).2) := by
      intro F'
      unfold B_X6_add_18
      rw [a13]
      refine (if_neg (by exact fun z => by rw [ni_le (by omega) (by omega)] at z; omega)).trans ?_
      refine (dr_e (by exact a2) (by exact a4)).trans ?_
      refine (ck_ix (show _ < h.al la by omega) (show h.al la < _ by omega)).trans ?_
      rw [ni_clp (by omega), v1]
      by_cases z : hi.toInt + 1 < (sp[b]).1.toInt
      · rw [if_pos (lg_cmp_gz.mpr (by rw [i64_p1, toI64]; exact z)), if_pos z]
      · rw [if_neg (fun y => z (by have := lg_cmp_gz.mp y; rw [i64_p1, toI64] at this; exact this)), if_neg z]
        refine (dr_e (by exact a2) (by exact a4)).trans ?_
        refine (ck_eq (by exact ix_ok2 (by omega) (by omega))).trans ?_
        rw [v1]
        unfold B_X6_add_55
        refine (dr_e (by exact a3) (by exact a5)).trans ?_
        refine (ck_ix (show _ < h.al ha by omega) (show h.al ha < _ by omega)).trans ?_
        rw [ni_clp (by omega), v2]
        unfold B_X6_add_69
        rw [ni_inc]
        rfl
    by_cases z : hi.toInt + 1 < (sp[b]).1.toInt
    · refine ⟨b, nl, nh, M, fun y hy2 => by rw [hy] at hy2; injection hy2 with hy2; rw [← hy2]; exact z, ?_⟩
      show B_X6_add_18 N (L_X6_add_18 N s F) s h hi (nI a) (nI b) nl nh = _
      rw [key, if_pos z]
    · have M2 : Mrg sp lo hi a (b + 1) (mnI nl (sp[b]).1) (mxI nh (sp[b]).2) := by
        obtain ⟨m1, m2, m3, m4, m5, m6, m7, m8⟩ := M
        have i1 := mnI_int nl (sp[b]).1
        have i2 := mxI_int nh (sp[b]).2
        refine ⟨by omega, by omega, ?_, by omega, by omega, ?_, ?_, ?_⟩
        · intro j y h1 h2 h3
          by_cases e : j = b
          · rw [e, hy] at h3; injection h3 with h3; rw [← h3]; omega
          · exact m3 j y h1 (by omega) h3
        · intro j y h1 h2 h3
          by_cases e : j = b
          · rw [e, hy] at h3; injection h3 with h3; rw [← h3]; omega
          · have := m6 j y h1 (by omega) h3; omega
        · unfold mnI
          by_cases e : (sp[b]).1 < nl
          · rw [if_pos e]; exact Or.inr ⟨b, _, m1, by omega, hy, rfl⟩
          · rw [if_neg e]
            exact m7.imp id (fun ⟨j, y, h1, h2, h3⟩ => ⟨j, y, h1, by omega, h3⟩)
        · unfold mxI
          by_cases e : nh < (sp[b]).2
          · rw [if_pos e]; exact Or.inr ⟨b, _, m1, by omega, hy, rfl⟩
          · rw [if_neg e]
            exact m8.imp id (fun ⟨j, y, h1, h2, h3⟩ => ⟨j, y, h1, by omega, h3⟩)
      obtain ⟨b', nl', nh', r1, r2, r3⟩ := ih (b + 1) F _ _ (by omega) (by omega) M2
      refine ⟨b', nl', nh', r1, r2, ?_⟩
      show B_X6_add_18 N (L_X6_add_18 N s F) s h hi (nI a) (nI b) nl nh = _
      rw [key, if_neg z, r3]
/-- add -/
theorem sn_add {g : Nat → Nat} {h : Hp} {s la ha : Nat} {sp : List Iv} (q : Sn g h s la ha sp) (cn : Can sp) (w : Wf g h) (N : Nat) (hN : 100000 < N) (hs : sp.length ≤ 2000) (lo hi : Int32) (hlh : lo.toInt ≤ hi.toInt) : ∃ h' g' la' ha' sp', J_X6_add N s h lo hi = some (h', ()) ∧ Sn g' h' s la' ha' sp' ∧ Can sp' ∧ sp'.length ≤ sp.length + 1 ∧ (∀ k, InS sp' k ↔ (InS sp k ∨ (lo.toInt ≤ k.toInt ∧ k.toInt ≤ hi.toInt))) ∧ Fr g g' s h h' ∧ h'.nx ≤ h.nx + 2 ∧ h'.su ≤ h.su + 4 * sp.length := by
  obtain ⟨a, e1, e2, e3, e4⟩ := sn_reach q cn N hN (lo.toInt64 - 1)
  rw [i64_m1] at e3 e4
  obtain ⟨b, nl, nh, M, e5, e6⟩ := add_loop q N lo hi a (sp.length - a) a N lo hi rfl (by omega) ⟨Nat.le_refl _, e2, fun j y h1 h2 => by omega, Int.le_refl _, Int.le_refl _, fun j y h1 h2 => by omega, Or.inl rfl, Or.inl rfl⟩
  obtain ⟨m1, m2, m3, m4, m5, m6, m7, m8⟩ := M
  obtain ⟨h2, g2, la2, ha2, r1, r2, r3, r4, r5⟩ := sn_replace q w N a b m1 m2 hs nl nh
  have hta : (sp.take a).length = a := by rw [List.length_take]; omega
  have mem : ∀ y, y ∈ sp.take a ++ (nl, nh) :: sp.drop b ↔ (∃ j : Nat, j < a ∧ sp[j]? = some y) ∨ y = (nl, nh) ∨ ∃ j : Nat, b ≤ j ∧ sp[j]? = some y := by
    intro y
    rw [List.mem_append, List.mem_cons]
    constructor
    · rintro (z | z | z)
      · obtain ⟨j, hj⟩ := mem_iff_get.mp z
        rw [List.getElem?_take] at hj
        by_cases c : j < a
        · rw [if_pos c] at hj; exact Or.inl ⟨j, c, hj⟩
        · rw [if_neg c] at hj; cases hj
      · exact Or.inr (Or.inl z)
      · obtain ⟨j, hj⟩ := mem_iff_get.mp z
        rw [List.getElem?_drop] at hj
        exact Or.inr (Or.inr ⟨b + j, by omega, hj⟩)
    · rintro (⟨j, c, z⟩ | z | ⟨j, c, z⟩)
      · exact Or.inl (mem_iff_get.mpr ⟨j, by rw [List.getElem?_take, if_pos c]; exact z⟩)
      · exact Or.inr (Or.inl z)
      · exact Or.inr (Or.inr (mem_iff_get.mpr ⟨j - b, by rw [List.getElem?_drop, show b + (j - b) = j by omega]; exact z⟩))
  have hup : ∀ (j : Nat) (y : Iv), b ≤ j → sp[j]? = some y → nh.toInt + 1 < y.1.toInt := by
    intro j y h1 h2
    have hl := (List.getElem?_eq_some_iff.mp h2).1
    have hbb : sp[b]? = some sp[b] := List.getElem?_eq_getElem (by omega)
    have h3 := e5 _ hbb
    have h4 := cn.lo h1 hbb h2
    rcases m8 with z | ⟨i, x, i1, i2, i3, i4⟩
    · omega
    · have := cn.2 i j x y (by omega) i3 h2
      rw [← i4] at this
      exact this
  have hdn : ∀ (j : Nat) (y : Iv), j < a → sp[j]? = some y → y.2.toInt + 1 < nl.toInt := by
    intro j y h1 h2
    have h3 := e3 j y h1 h2
    rcases m7 with z | ⟨i, x, i1, i2, i3, i4⟩
    · omega
    · have := cn.2 j i y x (by omega) h2 i3
      rw [← i4] at this
      exact this
  refine ⟨h2, g2, la2, ha2, _, ?_, r2, ⟨?_, ?_⟩, ?_, ?_, r3, r4, r5⟩
  · unfold J_X6_add B_X6_add_0
    refine (bnd (by exact e1)).trans ?_
    unfold B_X6_add_8
    rw [e6]
    unfold B_X6_add_77
    refine (bnd (by exact r1)).trans ?_
    rfl
  · intro y hy
    rcases (mem y).mp hy with ⟨j, _, z⟩ | z | ⟨j, _, z⟩
    · exact cn.1 y (List.mem_of_getElem? z)
    · rw [z]; show nl.toInt ≤ nh.toInt; omega
    · exact cn.1 y (List.mem_of_getElem? z)
  · intro i j x y hij hx hy
    by_cases c1 : i < a
    · rw [List.getElem?_append_left (by omega), List.getElem?_take, if_pos c1] at hx
      by_cases c2 : j < a
      · rw [List.getElem?_append_left (by omega), List.getElem?_take, if_pos c2] at hy
        exact cn.2 i j x y hij hx hy
      · rw [List.getElem?_append_right (by omega), hta] at hy
        by_cases c3 : j = a
        · rw [c3, Nat.sub_self] at hy
          injection hy with hy
          rw [← hy]
          exact hdn i x c1 hx
        · rw [show j - a = (j - a - 1) + 1 by omega, List.getElem?_cons_succ, List.getElem?_drop] at hy
          have h1 := hdn i x c1 hx
          have h2 := hup _ y (by omega) hy
          omega
    · rw [List.getElem?_append_right (by omega), hta, show j - a = (j - a - 1) + 1 by omega, List.getElem?_cons_succ, List.getElem?_drop] at hy
      rw [List.getElem?_append_right (by omega), hta] at hx
      by_cases c3 : i = a
      · rw [c3, Nat.sub_self] at hx
        injection hx with hx
        rw [← hx]
        exact hup _ y (by omega) hy
      · rw [show i - a = (i - a - 1) + 1 by omega, List.getElem?_cons_succ, List.getElem?_drop] at hx
        exact cn.2 _ _ x y (by omega) hx hy
  · rw [List.length_append, List.length_cons, List.length_take, List.length_drop]
    omega
  · intro k
    constructor
    · rintro ⟨y, y1, y2, y3⟩
      rcases (mem y).mp y1 with ⟨j, _, z⟩ | z | ⟨j, _, z⟩
      · exact Or.inl ⟨y, List.mem_of_getElem? z, y2, y3⟩
      · rw [z] at y2 y3
        have y2 : nl.toInt ≤ k.toInt := y2
        have y3 : k.toInt ≤ nh.toInt := y3
        by_cases c1 : lo.toInt ≤ k.toInt
        · by_cases c2 : k.toInt ≤ hi.toInt
          · exact Or.inr ⟨c1, c2⟩
          · rcases m8 with z | ⟨i, x, i1, i2, i3, i4⟩
            · omega
            · have h1 := m3 i x i1 i2 i3
              rw [i4] at y3
              exact Or.inl ⟨x, List.mem_of_getElem? i3, by omega, y3⟩
        · rcases m7 with z | ⟨i, x, i1, i2, i3, i4⟩
          · omega
          · have h1 := e4 i x i1 i3
            rw [i4] at y2
            exact Or.inl ⟨x, List.mem_of_getElem? i3, y2, by omega⟩
      · exact Or.inl ⟨y, List.mem_of_getElem? z, y2, y3⟩
    · rintro (⟨y, y1, y2, y3⟩ | ⟨y2, y3⟩)
      · obtain ⟨j, hj⟩ := mem_iff_get.mp y1
        by_cases c1 : j < a
        · exact ⟨y, (mem y).mpr (Or.inl ⟨j, c1, hj⟩), y2, y3⟩
        · by_cases c2 : j < b
          · have h1 := m6 j y (by omega) c2 hj
            exact ⟨(nl, nh), (mem _).mpr (Or.inr (Or.inl rfl)), by show nl.toInt ≤ _; omega, by show _ ≤ nh.toInt; omega⟩
          · exact ⟨y, (mem y).mpr (Or.inr (Or.inr ⟨j, by omega, hj⟩)), y2, y3⟩
      · exact ⟨(nl, nh), (mem _).mpr (Or.inr (Or.inl rfl)), by show nl.toInt ≤ _; omega, by show _ ≤ nh.toInt; omega⟩
/-- new spans -/
theorem sn_init {g : Nat → Nat} {h : Hp} {s : Nat} (hk : h.kd s = 9) (w : Wf g h) (N : Nat) : ∃ h' g', J_X6_init N s h = some (h', ()) ∧ Sn g' h' s h.nx (h.nx + 1) [] ∧ Fr g g' s h h' ∧ h'.nx = h.nx + 2 ∧ h'.su = h.su + 8 := by
  have hs := w.lt hk (by decide)
  have F1 := Fr.new w s 20 4 4 s (Nat.le_of_lt hs)
  have k1 : (h.new 20 4 4).kd s = 9 := F1.kd w hk (by decide)
  have F2 := Fr.sfr F1.wf (Un.rf (va_up g h.nx s) s) 900 (some h.nx)
  have nx2 : ((h.new 20 4 4).sfr 900 s (some h.nx)).nx = h.nx + 1 := rfl
  have F3 := Fr.new F2.wf s 20 4 4 s (by rw [nx2]; omega)
  rw [nx2] at F3
  have F4 := Fr.sfr F3.wf (Un.rf (va_up (va_up g h.nx s) (h.nx + 1) s) s) 901 (some (h.nx + 1))
  have F5 := Fr.sfi F4.wf (Un.rf (va_up (va_up g h.nx s) (h.nx + 1) s) s) 902 0
  generalize hh2 : (h.new 20 4 4).sfr 900 s (some h.nx) = h2 at F2 F3 F4 F5
  have nx2 : h2.nx = h.nx + 1 := by rw [← hh2]; rfl
  have k2 : h2.kd s = 9 := by rw [← hh2]; exact k1
  have k2n : h2.kd h.nx = 20 := by rw [← hh2]; exact new_kd (h := h) (k := 20) (n := 4) (sl := 4)
  have l2n : h2.al h.nx = 4 := by rw [← hh2, pj_sfr_al, pj_new_al, if_pos rfl]
  have r2 : h2.fr 900 s = some h.nx := by rw [← hh2]; exact fr_same
  generalize hh3 : h2.new 20 4 4 = h3 at F3 F4 F5
  have k3 : h3.kd s = 9 := by rw [← hh3]; exact new_kd_ne F2.wf k2 (by decide)
  have k3n : h3.kd h.nx = 20 := by rw [← hh3]; exact new_kd_ne F2.wf k2n (by decide)
  have k3m : h3.kd (h.nx + 1) = 20 := by rw [← hh3, pj_new_kd, if_pos nx2.symm]
  have l3n : h3.al h.nx = 4 := by rw [← hh3, pj_new_al, if_neg (by omega)]; exact l2n
  have l3m : h3.al (h.nx + 1) = 4 := by rw [← hh3, pj_new_al, if_pos nx2.symm]
  have r3 : h3.fr 900 s = some h.nx := by rw [← hh3, pj_new_fr, if_neg (by omega)]; exact r2
  refine ⟨(h3.sfr 901 s (some (h.nx + 1))).sfi 902 s 0, _, ?_, ⟨k3, ?_, fr_same, k3n, k3m, ?_, va_up_self _ _ _, by omega, ?_, ?_, ?_, ?_, fi_same, fun i y hy => by cases hy⟩, (((F1.tr w F2).tr w F3).tr w F4).tr w F5, ?_, ?_⟩
  · unfold J_X6_init B_X6_init_0
    refine (ck_eq (by exact ⟨by decide, by decide⟩)).trans ?_
    unfold B_X6_init_8
    rw [show (4 : Int32).toNatClampNeg = 4 from rfl]
    refine (dr_e (by exact rfl) (by exact k1)).trans ?_
    rw [hh2]
    refine (ck_eq (by exact ⟨by decide, by decide⟩)).trans ?_
    rw [hh3, nx2]
    unfold B_X6_init_15
    refine (dr_e (by exact rfl) (by exact k3)).trans ?_
    rfl
  · rw [pj_sfi_fr, fr_oth (by decide)]; exact r3
  · rw [va_up_ne _ _ (by omega), va_up_self]
  · show h3.al _ = h3.al _; rw [l3n, l3m]
  · show 4 ≤ h3.al _; rw [l3n]; decide
  · exact Nat.zero_le _
  · show h3.al _ ≤ _; rw [l3n]; decide
  · show h3.nx = _; rw [← hh3]; show h2.nx + 1 = _; rw [nx2]
  · show h3.su = _; rw [← hh3]; show h2.su + 4 = _; rw [← hh2]; rfl
