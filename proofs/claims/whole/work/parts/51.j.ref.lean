/-! doing again: again -/
section RF36
variable {h : Hp} {M b c w l v k r m : Nat}
/-- own writes and places of t ahead of row n -/
def rpO (h : Hp) (M t : Nat) : Nat → Ow × List Nat
  | 0 => ([], [])
  | n + 1 => if h.bi (M + 24) n = nI t then stR h M n (rpO h M t n) else rpO h M t n
theorem stR.len {s : Ow × List Nat} {n : Nat} : (stR h M n s).1.length ≤ s.1.length + 1 := by
  unfold stR
  by_cases z5 : h.bi (M + 23) n = 5
  · rw [if_pos z5]; show (s.1 ++ [_]).length ≤ _; rw [List.length_append, List.length_singleton]; exact Nat.le_refl _
  · rw [if_neg z5]
    by_cases z6 : h.bi (M + 23) n = 6
    · rw [if_pos z6]; show (s.1 ++ [_]).length ≤ _; rw [List.length_append, List.length_singleton]; exact Nat.le_refl _
    · rw [if_neg z6]
      by_cases z7 : h.bi (M + 23) n = 7
      · rw [if_pos z7]; show s.1.length ≤ _; omega
      · rw [if_neg z7]
        by_cases z8 : h.bi (M + 23) n = 8
        · rw [if_pos z8]
          show (s.1.take _).length ≤ _
          rw [List.length_take]; omega
        · rw [if_neg z8]; omega
theorem rpO.len (t : Nat) : ∀ n, (rpO h M t n).1.length ≤ n := by
  intro n
  induction n with
  | zero => exact Nat.le_refl _
  | succ n ih =>
    show (if h.bi (M + 24) n = nI t then stR h M n (rpO h M t n) else rpO h M t n).1.length ≤ _
    by_cases z : h.bi (M + 24) n = nI t
    · rw [if_pos z]
      have := stR.len (h := h) (M := M) (s := rpO h M t n) (n := n)
      omega
    · rw [if_neg z]; omega
theorem stR.key {s : Ow × List Nat} {n : Nat} (ok : okR h M m n s.2) (hs : ∀ y ∈ s.1, ∃ j, j < m ∧ h.bi (M + 35) j = y.1) : ∀ y ∈ (stR h M n s).1, ∃ j, j < m ∧ h.bi (M + 35) j = y.1 := by
  intro y hy
  have mem : ∀ x, y ∈ s.1 ++ [(h.bi (M + 25) n, x)] → (h.bi (M + 23) n = 5 ∨ h.bi (M + 23) n = 6) → ∃ j, j < m ∧ h.bi (M + 35) j = y.1 := by
    intro x hy z
    rcases List.mem_append.mp hy with u | u
    · exact hs y u
    · rw [List.mem_singleton.mp u]
      unfold okR at ok
      rcases z with z | z
      all_goals
        rw [z] at ok
        rcases ok with ok | ok | ok | ⟨ok, _⟩ | ⟨_, ok⟩ | ⟨ok, _⟩ | ⟨ok, _⟩
        · exact absurd ok (by decide)
        · exact absurd ok (by decide)
        · exact absurd ok (by decide)
        · exact absurd ok (by decide)
        · exact ok
        · exact absurd ok (by decide)
        · exact absurd ok (by decide)
  unfold stR at hy
  by_cases z5 : h.bi (M + 23) n = 5
  · rw [if_pos z5] at hy
    exact mem _ hy (Or.inl z5)
  · rw [if_neg z5] at hy
    by_cases z6 : h.bi (M + 23) n = 6
    · rw [if_pos z6] at hy
      exact mem _ hy (Or.inr z6)
    · rw [if_neg z6] at hy
      by_cases z7 : h.bi (M + 23) n = 7
      · rw [if_pos z7] at hy; exact hs y hy
      · rw [if_neg z7] at hy
        by_cases z8 : h.bi (M + 23) n = 8
        · rw [if_pos z8] at hy
          exact hs y (List.mem_of_mem_take hy)
        · rw [if_neg z8] at hy; exact hs y hy
theorem rpO.key {t n : Nat} (ok : ∀ i, i < n → h.bi (M + 24) i = nI t → okR h M m i (rpO h M t i).2) : ∀ y ∈ (rpO h M t n).1, ∃ j, j < m ∧ h.bi (M + 35) j = y.1 := by
  induction n with
  | zero => intro y hy; cases hy
  | succ n ih =>
    have ih := ih (fun i hi => ok i (by omega))
    show ∀ y ∈ (if h.bi (M + 24) n = nI t then stR h M n (rpO h M t n) else rpO h M t n).1, _
    by_cases z : h.bi (M + 24) n = nI t
    · rw [if_pos z]
      exact stR.key (ok n (by omega) z) ih
    · rw [if_neg z]; exact ih
def gS2 (k56 : Hp → Int32 → Int32 → Option (Hp × Int32)) (M : Nat) (h : Hp) (x2 x3 y0 : Int32) : Option (Hp × Int32) := dr h 31 (h.gr 1361 M) (fun a7 => ck (¬ (x3 < 0 ∨ h.al a7 ≤ x3.toNatClampNeg)) (dr h 31 (h.gr 1359 M) (fun a9 => ck (¬ (y0 < 0 ∨ h.al a9 ≤ y0.toNatClampNeg)) (k56 (h.sbw a9 y0.toNatClampNeg (h.bw a7 x3.toNatClampNeg)) x2 (x3 + (1 : Int32))))))
theorem gS_cut (N : Nat) (k56 : Hp → Int32 → Int32 → Option (Hp × Int32)) (M : Nat) (h : Hp) (x2 x3 y0 : Int32) : B_X10_again_74 N k56 M h x2 x3 y0 = dr h 32 (h.gr 1362 M) (fun a2 => ck (¬ (x3 < 0 ∨ h.al a2 ≤ x3.toNatClampNeg)) (dr h 32 (h.gr 1358 M) (fun a4 => ck (¬ (y0 < 0 ∨ h.al a4 ≤ y0.toNatClampNeg)) (ck (h.bi a2 x3.toNatClampNeg = 0 ∨ h.bi a2 x3.toNatClampNeg = 1) (gS2 k56 M (h.sbi a4 y0.toNatClampNeg (h.bi a2 x3.toNatClampNeg)) x2 x3 y0))))) := by
  unfold B_X10_again_74 gS2
  rfl
theorem gS2_eq (q : Rk h M) (k56 : Hp → Int32 → Int32 → Option (Hp × Int32)) {i j : Nat} (hi : i < 514) (hj : j < 514) (x2 : Int32) : gS2 k56 M h x2 (nI i) (nI j) = k56 (h.sbw (M + 41) j (h.bw (M + 43) i)) x2 (nI (i + 1)) := by
  unfold gS2
  rw [rd_1361 q, rx_1361 q hi, rd_1359 q, rx_1359 q hj, ni_clp (show i < _ by omega), ni_clp (show j < _ by omega), ni_inc]
/-- what is laid into the map -/
theorem rf_ag56 (q : Rk h M) {L : Ow} {mp : Int32 → Option Int64} (s : RpS h M m L mp) (ks : ∀ y ∈ L, ∃ j, j < m ∧ h.bi (M + 35) j = y.1) (N : Nat) (hN : 1000 < N) (x : Int32) : ∃ h', L_X10_again_56 N M N h x (nI 0) = some (h', x) ∧ RfO [40, 41] [] M h h' ∧ RpS h' M m L (nowF L mp) := by
  obtain ⟨em, hm, so, ow, hL, mr⟩ := s
  have fin : ∀ {s1 : Hp}, RfO [40, 41] [] M h s1 → MpR s1 M m (nowF L mp) → RpS s1 M m L (nowF L mp) := by
    intro s1 f g
    refine ⟨(f.gi (fun z => by cases z)).trans em, hm, ?_, ?_, hL, g⟩
    · rw [f.bi (by decide)]; exact so
    · unfold OwR at ow ⊢
      rw [f.gi (fun z => by cases z), f.bi (by decide), f.bi (by decide), f.bw (by decide)]
      exact ow
  refine lp_inv (G := fun F i (s : Hp) => L_X10_again_56 N M F s x (nI i)) (hi := L.length) (Inv := fun i s => RfO [40, 41] [] M h s ∧ MpR s M m (nowF (L.take i) mp)) (Q := fun o => ∃ h', o = some (h', x) ∧ RfO [40, 41] [] M h h' ∧ RpS h' M m L (nowF L mp)) ?_ ?_ L.length 0 N h (by omega) (by omega) (by omega) ⟨RfO.rf _ _ _ _, mr⟩
  · intro F s1 hs
    rw [List.take_length] at hs
    refine ⟨s1, ?_, hs.1, fin hs.1 hs.2⟩
    show B_X10_again_56 N _ M s1 x (nI L.length) = _
    unfold B_X10_again_56
    rw [hs.1.gi (fun z => by cases z), ow.1]
    exact if_pos ((ni_le (by omega) (by omega)).mpr (Nat.le_refl _))
  · intro F i s1 hi hs
    obtain ⟨f, g⟩ := hs
    left
    have q' := f.rk q
    obtain ⟨y, ey⟩ : ∃ y, L[i]? = some y := ⟨_, List.getElem?_eq_getElem hi⟩
    have et : L.take (i + 1) = L.take i ++ [y] := by
      rw [List.take_succ, ey]
      rfl
    obtain ⟨o1, o2⟩ := ow.2 i y ey
    have e42 : s1.bi (M + 42) = h.bi (M + 42) := f.bi (by decide)
    have e43 : s1.bw (M + 43) = h.bw (M + 43) := f.bw (by decide)
    have e44 : s1.bi (M + 44) = h.bi (M + 44) := f.bi (by decide)
    have e35 : s1.bi (M + 35) = h.bi (M + 35) := f.bi (by decide)
    have bb : h.bi (M + 44) i = 0 ∨ h.bi (M + 44) i = 1 := o2.elim (fun z => Or.inl z.2) (fun ⟨_, z⟩ => Or.inr z.2.1)
    obtain ⟨z, d1, d2⟩ := rf_keyAt q' ((f.gi (fun z => by cases z)).trans em) hm N hN y.1
    obtain ⟨j, hj, ez, ej⟩ := d2.resolve_left (fun t => t.2 (by rw [e35]; exact ks y (List.mem_of_getElem? ey)))
    rw [e35] at ej
    refine ⟨(s1.sbi (M + 40) j (h.bi (M + 44) i)).sbw (M + 41) j (h.bw (M + 43) i), ⟨(f.tr (RfO.sbi (k := 40) (by decide) _ _)).tr (RfO.sbw (k := 41) (by decide) _ _), ?_⟩, ?_⟩
    · have n35 : ((s1.sbi (M + 40) j (h.bi (M + 44) i)).sbw (M + 41) j (h.bw (M + 43) i)).bi (M + 35) = h.bi (M + 35) := by
        rw [pj_sbw_bi, bi_oth (by omega)]; exact e35
      have nw : ∀ key, nowF (L.take (i + 1)) mp key = if y.1 = key then y.2 else nowF (L.take i) mp key := by
        intro key
        unfold nowF
        rw [et, lkO_snoc]
        by_cases e : y.1 = key
        · rw [if_pos e, if_pos e]; rfl
        · rw [if_neg e, if_neg e]
      unfold MpR at g ⊢
      rw [n35]
      rw [e35] at g
      refine ⟨fun u hu => ?_, fun key nk => ?_⟩
      · rw [nw, pj_sbw_bi, bi_at, bw_at, pj_sbi_bw]
        by_cases e : u = j
        · rw [e, ej, if_pos rfl, if_pos rfl, if_pos rfl]
          exact o2
        · have ne : ¬ y.1 = h.bi (M + 35) u := by
            intro t
            rw [← ej] at t
            rcases Nat.lt_trichotomy u j with z | z | z
            · have := so u j z hj
              rw [t, Int32.lt_iff_toInt_lt] at this
              omega
            · exact e z
            · have := so j u z hu
              rw [t, Int32.lt_iff_toInt_lt] at this
              omega
          rw [if_neg ne, if_neg e, if_neg e]
          exact g.1 u hu
      · rw [nw]
        by_cases e : y.1 = key
        · exact absurd ⟨j, hj, ej.trans e⟩ nk
        · rw [if_neg e]
          exact g.2 key nk
    · show B_X10_again_56 N (L_X10_again_56 N M F) M s1 x (nI i) = _
      unfold B_X10_again_56
      rw [f.gi (fun z => by cases z), ow.1, if_neg (by rw [ni_le (by omega) (by omega)]; omega), rd_1360 q', rx_1360 q' (show i < 514 by omega), ni_clp (show i < _ by omega), e42, o1]
      refine (bnd (by exact d1)).trans ?_
      show B_X10_again_74 N (L_X10_again_56 N M F) M s1 x (nI i) z = _
      rw [gS_cut, ez, rd_1362 q', rx_1362 q' (show i < 514 by omega), rd_1358 q', rx_1358 q' (show j < 514 by omega), ni_clp (show i < _ by omega), ni_clp (show j < _ by omega), e44, ck_eq bb]
      refine (gS2_eq (q'.sbi (M + 40) j (h.bi (M + 44) i)) _ (show i < 514 by omega) (show j < 514 by omega) x).trans ?_
      rw [pj_sbi_bw, e43]
/-- the keys and the map -/
def KmS (h : Hp) (M m : Nat) (mp : Int32 → Option Int64) : Prop := h.gi 1353 M = nI m ∧ m ≤ 512 ∧ (∀ i j, i < j → j < m → h.bi (M + 35) i < h.bi (M + 35) j) ∧ MpR h M m mp
theorem RpS.km {L : Ow} {mp : Int32 → Option Int64} (s : RpS h M m L mp) : KmS h M m mp := ⟨s.1, s.2.1, s.2.2.1, s.2.2.2.2.2⟩
theorem KmS.con {A G : List Nat} {h' : Hp} {mp : Int32 → Option Int64} (f : RfO A G M h h') (hA : ∀ x ∈ [35, 40, 41], x ∉ A) (hG : 1353 ∉ G) (s : KmS h M m mp) : KmS h' M m mp := by
  unfold KmS MpR at s ⊢
  rw [f.gi hG, f.bi (hA 35 (by decide)), f.bi (hA 40 (by decide)), f.bw (hA 41 (by decide))]
  exact s
/-- the rows of t that come out otherwise -/
def bdR (h : Hp) (M m t : Nat) (mp : Int32 → Option Int64) (i : Nat) : Prop := h.bi (M + 24) i = nI t ∧ ¬ gdR h M m (rpO h M t i).1 mp i
theorem rf_again (q : Rk h M) (n : Rn h M b c w l v k r) {mp : Int32 → Option Int64} (s : KmS h M m mp) (N : Nat) (hN : 1000 < N) {t : Nat} (ok : ∀ i, i < k → h.bi (M + 24) i = nI t → okR h M m i (rpO h M t i).2) : ∃ h', J_X10_again N M h (nI t) = some (h', nI (cntQ (bdR h M m t mp) k)) ∧ RfO [40, 41, 42, 43, 44, 45] [1351, 1363, 1365] M h h' ∧ RpS h' M m (rpO h M t k).1 (nowF (rpO h M t k).1 mp) := by
  have hk := n.2.2.2.2.2.2.2.2.2.2.2.2.1
  have f0 : RfO [42, 43, 44, 45] [1351, 1363, 1365] M h ((h.sgi 1363 M 0).sgi 1365 M 0) := (RfO.sgi (by decide) _).tr (RfO.sgi (by decide) _)
  have s0 : RpS ((h.sgi 1363 M 0).sgi 1365 M 0) M m [] mp := by
    obtain ⟨s1, s2, s3, s6⟩ := s
    refine ⟨s1, s2, s3, ⟨?_, fun i y hy => by cases hy⟩, Nat.zero_le _, s6⟩
    rw [gi_oth (by decide), gi_same]; rfl
  have p0 : PlR ((h.sgi 1363 M 0).sgi 1365 M 0) M [] [] := ⟨gi_same, by decide, fun i x hx => (by cases hx), fun i j x y _ hx => by cases hx⟩
  refine lp_inv (G := fun F i (s : Hp × Int32) => L_X10_again_14 N M F s.1 (nI t) s.2 (nI i)) (hi := k) (Inv := fun i s => RfO [42, 43, 44, 45] [1351, 1363, 1365] M h s.1 ∧ RpS s.1 M m (rpO h M t i).1 mp ∧ PlR s.1 M (rpO h M t i).1 (rpO h M t i).2 ∧ s.2 = nI (cntQ (bdR h M m t mp) i)) (Q := fun o => ∃ h', o = some (h', nI (cntQ (bdR h M m t mp) k)) ∧ RfO [40, 41, 42, 43, 44, 45] [1351, 1363, 1365] M h h' ∧ RpS h' M m (rpO h M t k).1 (nowF (rpO h M t k).1 mp)) ?_ ?_ k 0 N ((h.sgi 1363 M 0).sgi 1365 M 0, 0) (by omega) (by omega) (by omega) ⟨f0, s0, p0, rfl⟩
  · intro F s1 hs
    obtain ⟨f, s2, p2, e⟩ := hs
    obtain ⟨h', e1, e2, e3⟩ := rf_ag56 (f.rk q) s2 (fun y hy => by
      rw [f.bi (by decide)]
      exact rpO.key ok y hy) N hN s1.2
    refine ⟨h', ?_, (f.mono (by decide) (fun _ z => z)).tr (e2.mono (by decide) (fun _ z => by cases z)), e3⟩
    rw [← e]
    show B_X10_again_14 N _ M s1.1 (nI t) s1.2 (nI k) = _
    unfold B_X10_again_14
    rw [(f.rn n (by decide)).2.2.2.2.2.1, if_pos ((ni_le (by omega) (by omega)).mpr (Nat.le_refl _))]
    exact e1
  · intro F i s1 hi hs
    obtain ⟨s1, x⟩ := s1
    obtain ⟨f, s2, p2, e⟩ := hs
    have f : RfO [42, 43, 44, 45] [1351, 1363, 1365] M h s1 := f
    have s2 : RpS s1 M m (rpO h M t i).1 mp := s2
    have p2 : PlR s1 M (rpO h M t i).1 (rpO h M t i).2 := p2
    have e : x = nI (cntQ (bdR h M m t mp) i) := e
    left
    have q' := f.rk q
    have cs : cntQ (bdR h M m t mp) (i + 1) = cntQ (bdR h M m t mp) i + @ite Nat (bdR h M m t mp i) (Classical.propDecidable _) 1 0 := rfl
    show ∃ s' : Hp × Int32, (RfO [42, 43, 44, 45] [1351, 1363, 1365] M h s'.1 ∧ RpS s'.1 M m (if h.bi (M + 24) i = nI t then stR h M i (rpO h M t i) else rpO h M t i).1 mp ∧ PlR s'.1 M (if h.bi (M + 24) i = nI t then stR h M i (rpO h M t i) else rpO h M t i).1 (if h.bi (M + 24) i = nI t then stR h M i (rpO h M t i) else rpO h M t i).2 ∧ s'.2 = nI (cntQ (bdR h M m t mp) (i + 1))) ∧ L_X10_again_14 N M (F + 1) s1 (nI t) x (nI i) = L_X10_again_14 N M F s'.1 (nI t) s'.2 (nI (i + 1))
    have start : ∀ {o : Option (Hp × Int32)}, (if h.bi (M + 24) i = nI t then ((J_X10_isAgain N M s1 (nI i)).bind (fun z => B_X10_again_38 N (L_X10_again_14 N M F) M z.1 (nI t) (nI i) x z.2)) else L_X10_again_14 N M F s1 (nI t) x (nI (i + 1))) = o → L_X10_again_14 N M (F + 1) s1 (nI t) x (nI i) = o := by
      intro o ho
      rw [← ho]
      show B_X10_again_14 N (L_X10_again_14 N M F) M s1 (nI t) x (nI i) = _
      unfold B_X10_again_14 B_X10_again_48
      rw [(f.rn n (by decide)).2.2.2.2.2.1, if_neg (by rw [ni_le (by omega) (by omega)]; omega), rd_1330 q', rx_1330 q' (show i < 514 by omega), ni_clp (show i < _ by omega), f.bi (by decide), ni_inc]
    by_cases z : h.bi (M + 24) i = nI t
    · rw [if_pos z]
      have ln := rpO.len (h := h) (M := M) t i
      obtain ⟨h', y, d1, d2, d3, d4, d5⟩ := rf_isAgain q' s2 p2 (show (rpO h M t i).1.length < 512 by omega) N hN (show i < 512 by omega) ((okR.con f (by decide)).mpr (ok i hi z))
      have sc : stR s1 M i ((rpO h M t i).1, (rpO h M t i).2) = stR h M i (rpO h M t i) := stR.con f (by decide)
      rw [sc] at d3 d4
      have d5 := d5.con (gdR.con f (by decide))
      have st2 : L_X10_again_14 N M (F + 1) s1 (nI t) x (nI i) = if y = 0 then L_X10_again_14 N M F h' (nI t) (x + 1) (nI (i + 1)) else L_X10_again_14 N M F h' (nI t) (x + 0) (nI (i + 1)) := by
        refine start ?_
        rw [if_pos z]
        refine (bnd (by exact d1)).trans ?_
        show B_X10_again_38 N (L_X10_again_14 N M F) M h' (nI t) (nI i) x y = _
        unfold B_X10_again_38 B_X10_again_46 B_X10_again_48
        rw [ni_inc]
      rw [st2]
      rcases d5 with ⟨y1, y2⟩ | ⟨y1, y2⟩
      · rw [if_neg (by rw [y1]; decide)]
        rw [if_neg (show ¬ bdR h M m t mp i from fun u => u.2 y2)] at cs
        exact ⟨(h', x + 0), ⟨f.tr d2, d3, d4, by rw [cs]; show x + 0 = _; rw [e]; exact nI_add _ 0⟩, rfl⟩
      · rw [if_pos y1]
        rw [if_pos (show bdR h M m t mp i from ⟨z, y2⟩)] at cs
        exact ⟨(h', x + 1), ⟨f.tr d2, d3, d4, by rw [cs]; show x + 1 = _; rw [e]; exact nI_add _ 1⟩, rfl⟩
    · rw [if_neg z]
      rw [if_neg (show ¬ bdR h M m t mp i from fun u => z u.1)] at cs
      exact ⟨(s1, x), ⟨f, s2, p2, by rw [cs]; exact e⟩, start (by rw [if_neg z])⟩
theorem rpO.con {A G : List Nat} {h' : Hp} (f : RfO A G M h h') (hA : ∀ x ∈ [23, 24, 25, 28], x ∉ A) (t : Nat) : ∀ n, rpO h' M t n = rpO h M t n := by
  intro n
  induction n with
  | zero => rfl
  | succ n ih =>
    show (if h'.bi (M + 24) n = nI t then stR h' M n (rpO h' M t n) else rpO h' M t n) = (if h.bi (M + 24) n = nI t then stR h M n (rpO h M t n) else rpO h M t n)
    rw [ih, f.bi (hA 24 (by decide)), stR.con f (fun x hx => hA x (by simp at hx ⊢; omega))]
theorem bdR.con {A G : List Nat} {h' : Hp} {mp : Int32 → Option Int64} (f : RfO A G M h h') (hA : ∀ x ∈ [23, 24, 25, 26, 27, 28, 29, 30, 31, 32, 33, 34, 35], x ∉ A) (t : Nat) : bdR h' M m t mp = bdR h M m t mp := by
  funext i
  unfold bdR
  rw [f.bi (hA 24 (by decide)), rpO.con f (fun x hx => hA x (by simp at hx ⊢; omega)), propext (gdR.con (k := i) f (fun x hx => hA x (by simp at hx ⊢; omega)))]
end RF36
