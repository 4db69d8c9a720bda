/-! spans: keys without a gap, rising, none next to another -/
abbrev Iv : Type := Int32 × Int32
def Sn (g : Nat → Nat) (h : Hp) (s la ha : Nat) (sp : List Iv) : Prop := h.kd s = 9 ∧ h.fr 900 s = some la ∧ h.fr 901 s = some ha ∧ h.kd la = 20 ∧ h.kd ha = 20 ∧ g la = s ∧ g ha = s ∧ la ≠ ha ∧ h.al ha = h.al la ∧ 4 ≤ h.al la ∧ sp.length ≤ h.al la ∧ h.al la ≤ 4096 ∧ h.fi 902 s = nI sp.length ∧ ∀ (i : Nat) (y : Iv), sp[i]? = some y → h.ai la i = y.1 ∧ h.ai ha i = y.2
def Can (sp : List Iv) : Prop := (∀ y ∈ sp, y.1.toInt ≤ y.2.toInt) ∧ ∀ (i j : Nat) (x y : Iv), i < j → sp[i]? = some x → sp[j]? = some y → x.2.toInt + 1 < y.1.toInt
def InS (sp : List Iv) (k : Int32) : Prop := ∃ y ∈ sp, y.1.toInt ≤ k.toInt ∧ k.toInt ≤ y.2.toInt
theorem Sn.fr {g g' : Nat → Nat} {p : Nat} {h h' : Hp} {s la ha : Nat} {sp : List Iv} (q : Sn g h s la ha sp) (w : Wf g h) (F : Fr g g' p h h') (s1 : Sep g p s) : Sn g' h' s la ha sp := by
  obtain ⟨a1, a2, a3, a4, a5, a6, a7, a8, a9, a10, a11, a12, a13, a14⟩ := q
  have ag := F.ag w a1 (by decide) s1.1
  have gl := F.ag w a4 (by decide) (s1.ch a6).1
  have gh := F.ag w a5 (by decide) (s1.ch a7).1
  have l1 := F.al w a4 (by decide)
  have l2 := F.al w a5 (by decide)
  exact ⟨F.kd w a1 (by decide), (ag.fr _).trans a2, (ag.fr _).trans a3, F.kd w a4 (by decide), F.kd w a5 (by decide), (F.gg w a4 (by decide)).trans a6, (F.gg w a5 (by decide)).trans a7, a8, by rw [l1, l2]; exact a9, by rw [l1]; exact a10, by rw [l1]; exact a11, by rw [l1]; exact a12, (ag.fi _).trans a13, fun i y hy => by rw [gl.ai, gh.ai]; exact a14 i y hy⟩
/-- the first span that ends at k or above it -/
def IsR (sp : List Iv) (k : Int) (i : Nat) : Prop := i ≤ sp.length ∧ (∀ (j : Nat) (y : Iv), j < i → sp[j]? = some y → y.2.toInt < k) ∧ ∀ (j : Nat) (y : Iv), i ≤ j → sp[j]? = some y → k ≤ y.2.toInt
theorem Can.hi {sp : List Iv} (c : Can sp) {i j : Nat} {x y : Iv} (h : i ≤ j) (hx : sp[i]? = some x) (hy : sp[j]? = some y) : x.2.toInt ≤ y.2.toInt := by
  by_cases e : i = j
  · rw [e, hy] at hx; injection hx with hx; rw [hx]; exact Int.le_refl _
  · have h1 := c.2 i j x y (by omega) hx hy
    have h2 := c.1 y (List.mem_of_getElem? hy)
    omega
theorem Can.lo {sp : List Iv} (c : Can sp) {i j : Nat} {x y : Iv} (h : i ≤ j) (hx : sp[i]? = some x) (hy : sp[j]? = some y) : x.1.toInt ≤ y.1.toInt := by
  by_cases e : i = j
  · rw [e, hy] at hx; injection hx with hx; rw [hx]; exact Int.le_refl _
  · have h1 := c.2 i j x y (by omega) hx hy
    have h2 := c.1 x (List.mem_of_getElem? hx)
    omega
theorem sr_loop {g : Nat → Nat} {h : Hp} {s la ha : Nat} {sp : List Iv} (q : Sn g h s la ha sp) (cn : Can sp) (N : Nat) (k : Int64) : ∀ (m a b F : Nat), m = b - a → a ≤ b → b ≤ sp.length → m < F → (∀ (j : Nat) (y : Iv), j < a → sp[j]? = some y → y.2.toInt < k.toInt) → (∀ (j : Nat) (y : Iv), b ≤ j → sp[j]? = some y → k.toInt ≤ y.2.toInt) → ∃ i, L_X6_indexReaching_8 N s F h k (nI a) (nI b) = some (h, nI i) ∧ IsR sp k.toInt i := by
  obtain ⟨a1, a2, a3, a4, a5, a6, a7, a8, a9, a10, a11, a12, a13, a14⟩ := q
  intro m
  induction m using Nat.strongRecOn with
  | ind m ih =>
    intro a b F hm hab hb hF h1 h2
    obtain ⟨F, rfl⟩ : ∃ F', F = F' + 1 := ⟨F - 1, by omega⟩
    by_cases e : a = b
    · subst e
      refine ⟨a, ?_, by omega, h1, h2⟩
      show B_X6_indexReaching_8 N _ s h k (nI a) (nI a) = _
      unfold B_X6_indexReaching_8
      refine (if_pos (by exact (ni_le (by omega) (by omega)).mpr (Nat.le_refl _))).trans ?_
      rfl
    · have hc : (a + b) / 2 < sp.length := by omega
      have hy : sp[(a + b) / 2]? = some sp[(a + b) / 2] := List.getElem?_eq_getElem hc
      have hv := (a14 _ _ hy).2
      have key : ∀ F', B_X6_indexReaching_8 N (L_X6_indexReaching_8 N s F') s h k (nI a) (nI b) = if k.toInt ≤ (sp[(a + b) / 2]).2.toInt then L_X6_indexReaching_8 N s F' h k (nI a) (nI ((a + b) / 2)) else L_X6_indexReaching_8 N s F' h k (nI ((a + b) / 2 + 1)) (nI b) := by
        intro F'
        unfold B_X6_indexReaching_8
        refine (if_neg (by exact fun z => by rw [ni_le (by omega) (by omega)] at z; omega)).trans ?_
        refine (dr_e (by exact a3) (by exact a5)).trans ?_
        rw [shr_mid (by omega), ni_clp (by omega)]
        refine (ck_eq (by exact ix_ok2 (by omega) (by omega))).trans ?_
        rw [hv]
        unfold B_X6_indexReaching_47
        by_cases z : k.toInt ≤ (sp[(a + b) / 2]).2.toInt
        · rw [if_pos (lg_cmp_nn.mpr (by rw [toI64]; exact z)), if_pos z]
        · rw [if_neg (fun y => z (by have := lg_cmp_nn.mp y; rw [toI64] at this; exact this)), if_neg z, ni_inc]
      by_cases z : k.toInt ≤ (sp[(a + b) / 2]).2.toInt
      · obtain ⟨i, i1, i2⟩ := ih ((a + b) / 2 - a) (by omega) a ((a + b) / 2) F rfl (by omega) (by omega) (by omega) h1 (fun j y hj hjy => Int.le_trans z (cn.hi hj hy hjy))
        refine ⟨i, ?_, i2⟩
        show B_X6_indexReaching_8 N (L_X6_indexReaching_8 N s F) s h k (nI a) (nI b) = _
        rw [key, if_pos z, i1]
      · obtain ⟨i, i1, i2⟩ := ih (b - ((a + b) / 2 + 1)) (by omega) ((a + b) / 2 + 1) b F rfl (by omega) (by omega) (by omega) (fun j y hj hjy => by have := cn.hi (show j ≤ (a + b) / 2 by omega) hjy hy; omega) h2
        refine ⟨i, ?_, i2⟩
        show B_X6_indexReaching_8 N (L_X6_indexReaching_8 N s F) s h k (nI a) (nI b) = _
        rw [key, if_neg z, i1]
theorem sn_reach {g : Nat → Nat} {h : Hp} {s la ha : Nat} {sp : List Iv} (q : Sn g h s la ha sp) (cn : Can sp) (N : Nat) (hN : 100000 < N) (k : Int64) : ∃ i, J_X6_indexReaching N s h k = some (h, nI i) ∧ IsR sp k.toInt i := by
  have h1 := q.2.2.2.2.2.2.2.2.2.2.1
  have h2 := q.2.2.2.2.2.2.2.2.2.2.2.1
  unfold J_X6_indexReaching B_X6_indexReaching_0
  rw [q.2.2.2.2.2.2.2.2.2.2.2.2.1]
  exact sr_loop q cn N k sp.length 0 sp.length N rfl (Nat.zero_le _) (Nat.le_refl _) (by omega) (fun j y hj => by omega) (fun j y hj hy => by have := (List.getElem?_eq_some_iff.mp hy).1; omega)
theorem sn_contains {g : Nat → Nat} {h : Hp} {s la ha : Nat} {sp : List Iv} (q : Sn g h s la ha sp) (cn : Can sp) (N : Nat) (hN : 100000 < N) (k : Int32) : ∃ v, J_X6_contains N s h k = some (h, v) ∧ ((v = 1 ∧ InS sp k) ∨ (v = 0 ∧ ¬ InS sp k)) := by
  obtain ⟨i, e1, e2, e3, e4⟩ := sn_reach q cn N hN k.toInt64
  rw [toI64] at e3 e4
  obtain ⟨a1, a2, a3, a4, a5, a6, a7, a8, a9, a10, a11, a12, a13, a14⟩ := q
  by_cases c : i < sp.length
  · have hy : sp[i]? = some sp[i] := List.getElem?_eq_getElem c
    have hv := (a14 _ _ hy).1
    have go : ∀ {v : Int32}, (if k < (sp[i]).1 then B_X6_contains_29 N s h else B_X6_contains_30 N s h 1) = some (h, v) → J_X6_contains N s h k = some (h, v) := by
      intro v z
      unfold J_X6_contains B_X6_contains_0
      refine (bnd (by exact e1)).trans ?_
      unfold B_X6_contains_6
      rw [a13]
      refine (if_neg (by exact fun z => by rw [ni_le (by omega) (by omega)] at z; omega)).trans ?_
      refine (dr_e (by exact a2) (by exact a4)).trans ?_
      refine (ck_ix (show _ < h.al la by omega) (show h.al la < _ by omega)).trans ?_
      rw [ni_clp (by omega), hv]
      exact z
    by_cases z : k < (sp[i]).1
    · refine ⟨0, go (by rw [if_pos z]; rfl), Or.inr ⟨rfl, ?_⟩⟩
      rintro ⟨y, hy1, hy2, hy3⟩
      obtain ⟨j, hj⟩ := mem_iff_get.mp hy1
      rw [Int32.lt_iff_toInt_lt] at z
      by_cases hji : j < i
      · have := e3 j y hji hj
        omega
      · have := cn.lo (show i ≤ j by omega) hy hj
        omega
    · refine ⟨1, go (by rw [if_neg z]; rfl), Or.inl ⟨rfl, sp[i], List.mem_of_getElem? hy, ?_, e4 i _ (Nat.le_refl _) hy⟩⟩
      rw [Int32.lt_iff_toInt_lt] at z
      omega
  · refine ⟨0, ?_, Or.inr ⟨rfl, ?_⟩⟩
    · unfold J_X6_contains B_X6_contains_0
      refine (bnd (by exact e1)).trans ?_
      unfold B_X6_contains_6
      rw [a13]
      refine (if_pos (by exact (ni_le (by omega) (by omega)).mpr (by omega))).trans ?_
      rfl
    · rintro ⟨y, hy1, hy2, hy3⟩
      obtain ⟨j, hj⟩ := mem_iff_get.mp hy1
      have := e3 j y (by have := (List.getElem?_eq_some_iff.mp hj).1; omega) hj
      omega
theorem cp_ints {N : Nat} {h : Hp} {e c : Nat} (hk : h.kd e = 20) (hlt : e < h.nx) (hc : h.al e < c) (hcc : c < 1000000) : J_J7_copyOf_59c91 N h (some e) (nI c) = some ((h.new 20 c c).tai h.nx (va_cpy (h.ai e) (fun _ => 0) 0 0 (h.al e)), some h.nx) := by
  have hne : e ≠ h.nx := Nat.ne_of_lt hlt
  unfold J_J7_copyOf_59c91 B_J7_copyOf_59c91_0
  refine (dr_e (by exact rfl) (by exact hk)).trans ?_
  refine (if_neg (by exact fun z => by rw [ni_inj (by omega) (by omega)] at z; omega)).trans ?_
  rw [ni_clp (by omega)]
  refine (ck_eq (by exact ⟨ni_nn (by omega), by omega⟩)).trans ?_
  unfold B_J7_copyOf_59c91_17
  have k1 : (h.new 20 c c).kd e = 20 := (new_ne hne).trans hk
  have k2 : (h.new 20 c c).kd h.nx = 20 := new_kd
  have l1 : (h.new 20 c c).al e = h.al e := by rw [pj_new_al, if_neg hne]
  have l2 : (h.new 20 c c).al h.nx = c := by rw [pj_new_al, if_pos rfl]
  refine (dr_e (by exact rfl) (by exact k1)).trans ?_
  rw [l1, if_neg (fun z => by rw [ni_lt (by omega) (by omega)] at z; omega)]
  unfold B_J7_copyOf_59c91_28
  refine (dr_e (by exact rfl) (by exact k1)).trans ?_
  refine (dr_e (by exact rfl) (by exact k2)).trans ?_
  rw [l1, l2, show (0 : Int32).toNatClampNeg = 0 from rfl, ni_clp (by omega)]
  refine (ck_eq (by exact ⟨by decide, by decide, ni_nn (by omega), by omega, by omega⟩)).trans ?_
  rw [pj_new_ai, if_neg hne, pj_new_ai, if_pos rfl]
/-- the arrays behind a replacement -/
theorem rep_get {sp : List Iv} {a b : Nat} {z : Iv} {f : Nat → Int32} {pr : Iv → Int32} (hab : a ≤ b) (hb : b ≤ sp.length) (hf : ∀ (i : Nat) (y : Iv), sp[i]? = some y → f i = pr y) (i : Nat) (y : Iv) (hy : (sp.take a ++ z :: sp.drop b)[i]? = some y) : va_up (va_cpy f f b (a + 1) (sp.length - b)) a (pr z) i = pr y := by
  have hla : (sp.take a).length = a := by rw [List.length_take]; omega
  by_cases c : i = a
  · rw [c, va_up_self]
    rw [c, List.getElem?_append_right (by omega), hla, Nat.sub_self] at hy
    injection hy with hy
    rw [hy]
  · rw [va_up_ne _ _ c]
    unfold va_cpy
    by_cases c2 : i < a
    · rw [if_neg (by omega)]
      rw [List.getElem?_append_left (by omega), List.getElem?_take, if_pos c2] at hy
      exact hf i y hy
    · rw [List.getElem?_append_right (by omega), hla, show i - a = (i - a - 1) + 1 by omega, List.getElem?_cons_succ, List.getElem?_drop] at hy
      have hlt := (List.getElem?_eq_some_iff.mp hy).1
      rw [if_pos (by omega), show b + (i - (a + 1)) = b + (i - a - 1) by omega]
      exact hf _ y hy
theorem sn_fin {g : Nat → Nat} {h : Hp} {s la ha : Nat} {sp : List Iv} (q : Sn g h s la ha sp) (w : Wf g h) (hr : sp.length < h.al la) (N a b : Nat) (hab : a ≤ b) (hb : b ≤ sp.length) (lo hi : Int32) : ∃ h', B_X6_replace_46 N s h (nI a) (nI b) lo hi = some (h', ()) ∧ Sn g h' s la ha (sp.take a ++ (lo, hi) :: sp.drop b) ∧ Fr g g s h h' ∧ h'.nx = h.nx ∧ h'.su = h.su := by
  obtain ⟨a1, a2, a3, a4, a5, a6, a7, a8, a9, a10, a11, a12, a13, a14⟩ := q
  have hne : ha ≠ la := Ne.symm a8
  have F1 := Fr.tai w (p := s) (a := la) (Un.ch a6) (va_cpy (h.ai la) (h.ai la) b (a + 1) (sp.length - b))
  have F2 := Fr.tai F1.wf (p := s) (a := ha) (Un.ch a7) (va_cpy (h.ai ha) (h.ai ha) b (a + 1) (sp.length - b))
  have F3 := Fr.sai F2.wf (p := s) (a := la) (Un.ch a6) a lo
  have F4 := Fr.sai F3.wf (p := s) (a := ha) (Un.ch a7) a hi
  have F5 := Fr.sfi F4.wf (Un.rf g s) 902 (nI (sp.length + 1 - (b - a)))
  have FF := (((F1.tr w F2).tr w F3).tr w F4).tr w F5
  have hl : (sp.take a ++ (lo, hi) :: sp.drop b).length = sp.length + 1 - (b - a) := by
    rw [List.length_append, List.length_cons, List.length_take, List.length_drop]
    omega
  have e8 : nI sp.length + (1 - (nI b - nI a)) = nI (sp.length + 1 - (b - a)) := by
    rw [ni_sub hab, Int32.sub_eq_add_neg, ← Int32.add_assoc, ni_inc, ← Int32.sub_eq_add_neg, ni_sub (by omega)]
  have J : B_X6_replace_46 N s h (nI a) (nI b) lo hi = some ((((((h.tai la (va_cpy (h.ai la) (h.ai la) b (a + 1) (sp.length - b))).tai ha (va_cpy (h.ai ha) (h.ai ha) b (a + 1) (sp.length - b))).sai la a lo).sai ha a hi).sfi 902 s (nI (sp.length + 1 - (b - a)))), ()) := by
    have e0 : (h.tai la (va_cpy (h.ai la) (h.ai la) b (a + 1) (sp.length - b))).ai ha = h.ai ha := va_up_ne _ _ hne
    unfold B_X6_replace_46
    refine (dr_e (by exact a2) (by exact a4)).trans ?_
    rw [a13, ni_inc, ni_sub hb, ni_clp (by omega), ni_clp (by omega), ni_clp (by omega)]
    refine (ck_eq (by exact ⟨ni_nn (by omega), ni_nn (by omega), ni_nn (by omega), by omega, by omega⟩)).trans ?_
    rw [pj_tai_fi, a13, ni_sub hb, ni_clp (by omega)]
    refine (dr_e (by exact a3) (by exact a5)).trans ?_
    rw [pj_tai_al]
    refine (ck_eq (by exact ⟨ni_nn (by omega), ni_nn (by omega), ni_nn (by omega), by omega, by omega⟩)).trans ?_
    rw [e0]
    refine (dr_e (by exact a2) (by exact a4)).trans ?_
    rw [pj_tai_al, pj_tai_al]
    refine (ck_eq (by exact ix_ok (by omega) (by omega))).trans ?_
    refine (dr_e (by exact a3) (by exact a5)).trans ?_
    rw [pj_sai_al, pj_tai_al, pj_tai_al]
    refine (ck_eq (by exact ix_ok (by omega) (by omega))).trans ?_
    rw [ni_clp (by omega), pj_sai_fi, pj_sai_fi, pj_tai_fi, pj_tai_fi, a13, e8]
  have ek : (((((h.tai la (va_cpy (h.ai la) (h.ai la) b (a + 1) (sp.length - b))).tai ha (va_cpy (h.ai ha) (h.ai ha) b (a + 1) (sp.length - b))).sai la a lo).sai ha a hi).sfi 902 s (nI (sp.length + 1 - (b - a)))).kd = h.kd := by rw [pj_sfi_kd, pj_sai_kd, pj_sai_kd, pj_tai_kd, pj_tai_kd]
  have el : (((((h.tai la (va_cpy (h.ai la) (h.ai la) b (a + 1) (sp.length - b))).tai ha (va_cpy (h.ai ha) (h.ai ha) b (a + 1) (sp.length - b))).sai la a lo).sai ha a hi).sfi 902 s (nI (sp.length + 1 - (b - a)))).al = h.al := by rw [pj_sfi_al, pj_sai_al, pj_sai_al, pj_tai_al, pj_tai_al]
  have er : (((((h.tai la (va_cpy (h.ai la) (h.ai la) b (a + 1) (sp.length - b))).tai ha (va_cpy (h.ai ha) (h.ai ha) b (a + 1) (sp.length - b))).sai la a lo).sai ha a hi).sfi 902 s (nI (sp.length + 1 - (b - a)))).fr = h.fr := by rw [pj_sfi_fr, pj_sai_fr, pj_sai_fr, pj_tai_fr, pj_tai_fr]
  refine ⟨_, J, ⟨by rw [ek]; exact a1, by rw [er]; exact a2, by rw [er]; exact a3, by rw [ek]; exact a4, by rw [ek]; exact a5, a6, a7, a8, by rw [el]; exact a9, by rw [el]; exact a10, by rw [el, hl]; omega, by rw [el]; exact a12, by rw [fi_same, hl], ?_⟩, FF, by rw [pj_sfi_nx, pj_sai_nx, pj_sai_nx, pj_tai_nx, pj_tai_nx], by rw [pj_sfi_su, pj_sai_su, pj_sai_su, pj_tai_su, pj_tai_su]⟩
  intro i y hy
  have r1 := rep_get (f := h.ai la) (pr := fun y => y.1) hab hb (fun i y hy => (a14 i y hy).1) i y hy
  have r2 := rep_get (f := h.ai ha) (pr := fun y => y.2) hab hb (fun i y hy => (a14 i y hy).2) i y hy
  have u : ∀ (f : Nat → Int32) (x : Int32), (if i = a then x else f i) = va_up f a x i := fun f x => by unfold va_up; rfl
  refine ⟨Eq.trans ?_ r1, Eq.trans ?_ r2⟩
  · rw [pj_sfi_ai, pj_sai_ai, if_neg a8, pj_sai_ai, if_pos rfl, pj_tai_ai, if_neg a8, pj_tai_ai, if_pos rfl, u]
  · rw [pj_sfi_ai, pj_sai_ai, if_pos rfl, pj_sai_ai, if_neg hne, pj_tai_ai, if_pos rfl, u]
