/-! gatherKeys -/
section RF7
variable {h : Hp} {M b c w l v k r : Nat}
theorem rf_gk2 (q : Rk h M) (n : Rn h M b c w l v k r) (N : Nat) (hN : 1000 < N) (k7 : Hp → Int32 → Option (Hp × Unit)) {j m : Nat} (hj : j < w) (hm : m ≤ 512) (em : h.gi 1353 M = nI m) : ((∃ i, i < m ∧ h.bi (M + 35) i = h.bi (M + 12) j) ∧ L_X10_gatherKeys_25 N k7 M N h (nI j) (nI m) 0 (nI 0) = k7 h (nI (j + 1))) ∨ ((¬ ∃ i, i < m ∧ h.bi (M + 35) i = h.bi (M + 12) j) ∧ L_X10_gatherKeys_25 N k7 M N h (nI j) (nI m) 0 (nI 0) = L_X10_gatherKeys_73 N k7 M N h (nI j) (nI m)) := by
  have hw := n.2.2.2.2.2.2.2.2.2.1
  refine lp_inv (G := fun F i (s : Int32) => L_X10_gatherKeys_25 N k7 M F h (nI j) (nI m) s (nI i)) (hi := m) (Inv := fun i s => B01 s (∃ u, u < i ∧ h.bi (M + 35) u = h.bi (M + 12) j)) (Q := fun o => ((∃ i, i < m ∧ h.bi (M + 35) i = h.bi (M + 12) j) ∧ o = k7 h (nI (j + 1))) ∨ ((¬ ∃ i, i < m ∧ h.bi (M + 35) i = h.bi (M + 12) j) ∧ o = L_X10_gatherKeys_73 N k7 M N h (nI j) (nI m))) ?_ ?_ m 0 N 0 (by omega) (by omega) (by omega) (Or.inr ⟨rfl, fun ⟨u, hu, _⟩ => by omega⟩)
  · intro F s hs
    have body : L_X10_gatherKeys_25 N k7 M (F + 1) h (nI j) (nI m) s (nI m) = if s = 0 then L_X10_gatherKeys_73 N k7 M N h (nI j) (nI m) else k7 h (nI (j + 1)) := by
      show B_X10_gatherKeys_25 N k7 _ M h (nI j) (nI m) s (nI m) = _
      unfold B_X10_gatherKeys_25 B_X10_gatherKeys_136
      rw [em]
      refine (if_pos (by exact (ni_le (by omega) (by omega)).mpr (by omega))).trans ?_
      rw [ni_inc]
    show ((∃ i, i < m ∧ h.bi (M + 35) i = h.bi (M + 12) j) ∧ L_X10_gatherKeys_25 N k7 M (F + 1) h (nI j) (nI m) s (nI m) = _) ∨ (_ ∧ L_X10_gatherKeys_25 N k7 M (F + 1) h (nI j) (nI m) s (nI m) = _)
    rw [body]
    rcases hs with ⟨a1, a2⟩ | ⟨a1, a2⟩
    · exact Or.inl ⟨a2, if_neg (by rw [a1]; decide)⟩
    · exact Or.inr ⟨a2, if_pos a1⟩
  · intro F i s hi hs
    left
    have body : L_X10_gatherKeys_25 N k7 M (F + 1) h (nI j) (nI m) s (nI i) = if s = 0 then (if h.bi (M + 35) i = h.bi (M + 12) j then L_X10_gatherKeys_25 N k7 M F h (nI j) (nI m) 1 (nI (i + 1)) else L_X10_gatherKeys_25 N k7 M F h (nI j) (nI m) 0 (nI (i + 1))) else L_X10_gatherKeys_25 N k7 M F h (nI j) (nI m) 1 (nI (i + 1)) := by
      show B_X10_gatherKeys_25 N k7 (L_X10_gatherKeys_25 N k7 M F) M h (nI j) (nI m) s (nI i) = _
      unfold B_X10_gatherKeys_25 B_X10_gatherKeys_54 B_X10_gatherKeys_59
      rw [em]
      refine (if_neg (by exact fun z => by rw [ni_le (by omega) (by omega)] at z; omega)).trans ?_
      rw [rd_1352 q, rx_1352 q (by omega), rd_1315 q, rx_1315 q (by omega)]
      rw [ni_clp (by omega), ni_clp (by omega), ni_inc]
    show ∃ s' : Int32, B01 s' (∃ u, u < i + 1 ∧ h.bi (M + 35) u = h.bi (M + 12) j) ∧ L_X10_gatherKeys_25 N k7 M (F + 1) h (nI j) (nI m) s (nI i) = L_X10_gatherKeys_25 N k7 M F h (nI j) (nI m) s' (nI (i + 1))
    rw [body]
    rcases hs with ⟨a1, u, a2, a3⟩ | ⟨a1, a2⟩
    · rw [if_neg (by rw [a1]; decide)]
      exact ⟨1, Or.inl ⟨rfl, u, by omega, a3⟩, rfl⟩
    · rw [if_pos a1]
      by_cases z : h.bi (M + 35) i = h.bi (M + 12) j
      · rw [if_pos z]
        exact ⟨1, Or.inl ⟨rfl, i, by omega, z⟩, rfl⟩
      · rw [if_neg z]
        refine ⟨0, Or.inr ⟨rfl, fun ⟨u, u1, u2⟩ => ?_⟩, rfl⟩
        by_cases e : u = i
        · rw [e] at u2; exact z u2
        · exact a2 ⟨u, by omega, u2⟩
/-- the place made: k -/
def GkP (A : Nat → Int32) (x : Int32) (m i : Nat) (A' : Nat → Int32) : Prop := i ≤ m ∧ (0 < i → A (i - 1) ≤ x) ∧ (∀ j, i ≤ j → j < m → x < A j) ∧ (∀ j, j < i → A' j = A j) ∧ A' i = x ∧ ∀ j, i ≤ j → j < m → A' (j + 1) = A j
theorem rf_gk3 (q : Rk h M) (n : Rn h M b c w l v k r) (N : Nat) (hN : 1000 < N) (k7 : Hp → Int32 → Option (Hp × Unit)) {j m : Nat} (hj : j < w) (hm : m ≤ 512) (em : h.gi 1353 M = nI m) : ∃ h' i, L_X10_gatherKeys_73 N k7 M N h (nI j) (nI m) = k7 h' (nI (j + 1)) ∧ RfO [35] [1353] M h h' ∧ h'.gi 1353 M = nI (m + 1) ∧ GkP (h.bi (M + 35)) (h.bi (M + 12) j) m i (h'.bi (M + 35)) := by
  have hw := n.2.2.2.2.2.2.2.2.2.1
  have fin : ∀ (s : Hp) (i : Nat), i ≤ m → RfO [35] [] M h s → (∀ u, u < i → s.bi (M + 35) u = h.bi (M + 35) u) → (∀ u, i ≤ u → u < m → h.bi (M + 12) j < h.bi (M + 35) u ∧ s.bi (M + 35) (u + 1) = h.bi (M + 35) u) → (0 < i → h.bi (M + 35) (i - 1) ≤ h.bi (M + 12) j) → ∃ h' i', B_X10_gatherKeys_114 N k7 M s (nI j) (nI i) = k7 h' (nI (j + 1)) ∧ RfO [35] [1353] M h h' ∧ h'.gi 1353 M = nI (m + 1) ∧ GkP (h.bi (M + 35)) (h.bi (M + 12) j) m i' (h'.bi (M + 35)) := by
    intro s i him f s1 s2 s3
    have q' := f.rk q
    have e12 : s.bi (M + 12) = h.bi (M + 12) := f.bi (by decide)
    have eg : s.gi 1353 M = nI m := (f.gi (by decide)).trans em
    refine ⟨(s.sbi (M + 35) i (h.bi (M + 12) j)).sgi 1353 M (nI (m + 1)), i, ?_, (f.mono (fun _ z => z) (fun _ z => by cases z)).tr ((RfO.sbi (k := 35) (by decide) i _).tr (RfO.sgi (by decide) _)), gi_same, him, s3, fun u u1 u2 => (s2 u u1 u2).1, ?_, ?_, ?_⟩
    · unfold B_X10_gatherKeys_114 B_X10_gatherKeys_136
      rw [rd_1315 q', rx_1315 q' (by omega), rd_1352 q', rx_1352 q' (by omega), ni_clp (by omega), ni_clp (by omega), e12, pj_sbi_gi, eg, ni_inc, ni_inc]
    · intro u hu
      rw [pj_sgi_bi, bi_at, if_neg (by omega)]
      exact s1 u hu
    · rw [pj_sgi_bi, bi_at, if_pos rfl]
    · intro u u1 u2
      rw [pj_sgi_bi, bi_at, if_neg (by omega)]
      exact (s2 u u1 u2).2
  refine lp_dn (G := fun F i (s : Hp) => L_X10_gatherKeys_73 N k7 M F s (nI j) (nI i)) (Inv := fun i s => i ≤ m ∧ RfO [35] [] M h s ∧ (∀ u, u < i → s.bi (M + 35) u = h.bi (M + 35) u) ∧ (∀ u, i ≤ u → u < m → h.bi (M + 12) j < h.bi (M + 35) u ∧ s.bi (M + 35) (u + 1) = h.bi (M + 35) u)) (Q := fun o => ∃ h' i, o = k7 h' (nI (j + 1)) ∧ RfO [35] [1353] M h h' ∧ h'.gi 1353 M = nI (m + 1) ∧ GkP (h.bi (M + 35)) (h.bi (M + 12) j) m i (h'.bi (M + 35))) ?_ ?_ m N h (by omega) ⟨Nat.le_refl _, RfO.rf _ _ _ _, fun _ _ => rfl, fun u u1 u2 => by omega⟩
  · intro F s hs
    have := fin s 0 (Nat.zero_le _) hs.2.1 hs.2.2.1 hs.2.2.2 (fun z => by omega)
    have body : L_X10_gatherKeys_73 N k7 M (F + 1) s (nI j) (nI 0) = B_X10_gatherKeys_114 N k7 M s (nI j) (nI 0) := by
      show B_X10_gatherKeys_73 N k7 _ M s (nI j) (nI 0) = _
      unfold B_X10_gatherKeys_73
      exact if_pos (by decide)
    show ∃ h' i, L_X10_gatherKeys_73 N k7 M (F + 1) s (nI j) (nI 0) = _ ∧ _
    rw [body]
    exact this
  · intro F i s hs
    obtain ⟨him, f, s1, s2⟩ := hs
    have q' := f.rk q
    have e12 : s.bi (M + 12) = h.bi (M + 12) := f.bi (by decide)
    have body : L_X10_gatherKeys_73 N k7 M (F + 1) s (nI j) (nI (i + 1)) = if h.bi (M + 35) i ≤ h.bi (M + 12) j then B_X10_gatherKeys_114 N k7 M s (nI j) (nI (i + 1)) else L_X10_gatherKeys_73 N k7 M F (s.sbi (M + 35) (i + 1) (h.bi (M + 35) i)) (nI j) (nI i) := by
      show B_X10_gatherKeys_73 N k7 (L_X10_gatherKeys_73 N k7 M F) M s (nI j) (nI (i + 1)) = _
      unfold B_X10_gatherKeys_73
      refine (if_neg (by exact fun z => by rw [ni_lz (by omega)] at z; omega)).trans ?_
      rw [ni_pred, ni_dec]
      rw [rd_1352 q', rx_1352 q' (by omega), rd_1315 q', rx_1315 q' (by omega), rd_1352 q', rx_1352 q' (by omega), rx_1352 q' (by omega), ni_clp (by omega), ni_clp (by omega), ni_clp (by omega), e12, s1 i (by omega)]
    show (∃ s' : Hp, (i ≤ m ∧ RfO [35] [] M h s' ∧ (∀ u, u < i → s'.bi (M + 35) u = h.bi (M + 35) u) ∧ (∀ u, i ≤ u → u < m → h.bi (M + 12) j < h.bi (M + 35) u ∧ s'.bi (M + 35) (u + 1) = h.bi (M + 35) u)) ∧ L_X10_gatherKeys_73 N k7 M (F + 1) s (nI j) (nI (i + 1)) = L_X10_gatherKeys_73 N k7 M F s' (nI j) (nI i)) ∨ ∃ h' i', L_X10_gatherKeys_73 N k7 M (F + 1) s (nI j) (nI (i + 1)) = k7 h' (nI (j + 1)) ∧ _
    rw [body]
    by_cases z : h.bi (M + 35) i ≤ h.bi (M + 12) j
    · right
      rw [if_pos z]
      exact fin s (i + 1) him f s1 s2 (fun _ => z)
    · left
      rw [if_neg z]
      refine ⟨_, ⟨by omega, f.tr (RfO.sbi (k := 35) (by decide) _ _), fun u hu => ?_, fun u u1 u2 => ?_⟩, rfl⟩
      · rw [bi_at, if_neg (by omega)]
        exact s1 u (by omega)
      · rw [bi_at]
        by_cases e : u = i
        · rw [e, if_pos rfl]
          refine ⟨?_, rfl⟩
          rw [Int32.le_iff_toInt_le] at z
          rw [Int32.lt_iff_toInt_lt]
          omega
        · rw [if_neg (by omega)]
          exact s2 u (by omega) u2
/-- the keys written ahead of n, in order, each once -/
def GkS (W : Nat → Int32) (n m : Nat) (A : Nat → Int32) : Prop := (∀ i j, i < j → j < m → A i < A j) ∧ ∀ x, (∃ i, i < m ∧ A i = x) ↔ ∃ j, j < n ∧ W j = x
theorem GkS.put {W A A' : Nat → Int32} {n m i : Nat} (g : GkS W n m A) (no : ¬ ∃ i, i < m ∧ A i = W n) (p : GkP A (W n) m i A') : GkS W (n + 1) (m + 1) A' := by
  obtain ⟨p1, p2, p3, p4, p5, p6⟩ := p
  have lt : ∀ u, u < i → A u < W n := by
    intro u hu
    have a1 := p2 (by omega)
    have a2 : A (i - 1) ≠ W n := fun z => no ⟨i - 1, by omega, z⟩
    have a3 : A (i - 1) < W n := by
      rw [Int32.le_iff_toInt_le] at a1
      rw [Int32.lt_iff_toInt_lt]
      have : (A (i - 1)).toInt ≠ (W n).toInt := fun z => a2 (Int32.toInt_inj.mp z)
      omega
    by_cases e : u = i - 1
    · rw [e]; exact a3
    · have := g.1 u (i - 1) (by omega) (by omega)
      rw [Int32.lt_iff_toInt_lt] at this a3 ⊢
      omega
  refine ⟨fun a c hac hc => ?_, fun x => ⟨?_, ?_⟩⟩
  · by_cases c1 : c < i
    · rw [p4 a (by omega), p4 c c1]
      exact g.1 a c hac (by omega)
    · by_cases c2 : c = i
      · rw [c2, p5, p4 a (by omega)]
        exact lt a (by omega)
      · obtain ⟨c', rfl⟩ : ∃ c', c = c' + 1 := ⟨c - 1, by omega⟩
        rw [p6 c' (by omega) (by omega)]
        by_cases a1 : a < i
        · rw [p4 a a1]
          have x1 := lt a a1
          have x2 := p3 c' (by omega) (by omega)
          rw [Int32.lt_iff_toInt_lt] at x1 x2 ⊢
          omega
        · by_cases a2 : a = i
          · rw [a2, p5]
            exact p3 c' (by omega) (by omega)
          · obtain ⟨a', rfl⟩ : ∃ a', a = a' + 1 := ⟨a - 1, by omega⟩
            rw [p6 a' (by omega) (by omega)]
            exact g.1 a' c' (by omega) (by omega)
  · rintro ⟨a, ha, e⟩
    by_cases a1 : a < i
    · rw [p4 a a1] at e
      obtain ⟨u, u1, u2⟩ := (g.2 x).mp ⟨a, by omega, e⟩
      exact ⟨u, by omega, u2⟩
    · by_cases a2 : a = i
      · rw [a2, p5] at e
        exact ⟨n, by omega, e⟩
      · obtain ⟨a', rfl⟩ : ∃ a', a = a' + 1 := ⟨a - 1, by omega⟩
        rw [p6 a' (by omega) (by omega)] at e
        obtain ⟨u, u1, u2⟩ := (g.2 x).mp ⟨a', by omega, e⟩
        exact ⟨u, by omega, u2⟩
  · rintro ⟨u, hu, e⟩
    by_cases u1 : u = n
    · rw [u1] at e
      exact ⟨i, by omega, p5.trans e⟩
    · obtain ⟨a, a1, a2⟩ := (g.2 x).mpr ⟨u, by omega, e⟩
      by_cases a3 : a < i
      · exact ⟨a, by omega, (p4 a a3).trans a2⟩
      · exact ⟨a + 1, by omega, (p6 a (by omega) a1).trans a2⟩
theorem GkS.old {W A : Nat → Int32} {n m : Nat} (g : GkS W n m A) (yes : ∃ i, i < m ∧ A i = W n) : GkS W (n + 1) m A := by
  refine ⟨g.1, fun x => ⟨fun z => ?_, fun ⟨u, hu, e⟩ => ?_⟩⟩
  · obtain ⟨u, u1, u2⟩ := (g.2 x).mp z
    exact ⟨u, by omega, u2⟩
  · by_cases u1 : u = n
    · rw [u1] at e
      rw [← e]; exact yes
    · exact (g.2 x).mpr ⟨u, by omega, e⟩
/-- what gatherKeys leaves -/
def GkR (h : Hp) (M n m : Nat) (h' : Hp) : Prop := RfO [35] [1353] M h h' ∧ h'.gi 1353 M = nI m ∧ m ≤ n ∧ GkS (h.bi (M + 12)) n m (h'.bi (M + 35))
theorem rf_gatherKeys (q : Rk h M) (n : Rn h M b c w l v k r) (N : Nat) (hN : 1000 < N) : ∃ h' m, J_X10_gatherKeys N M h = some (h', ()) ∧ GkR h M w m h' := by
  have hw := n.2.2.2.2.2.2.2.2.2.1
  have key := lp_inv (G := fun F i (s : Hp) => L_X10_gatherKeys_7 N M F s (nI i)) (hi := w) (Inv := fun i s => ∃ m, GkR h M i m s) (Q := fun o => ∃ h' m, o = some (h', ()) ∧ GkR h M w m h') ?_ ?_ w 0 N (h.sgi 1353 M 0) (by omega) (by omega) (by omega) ⟨0, RfO.sgi (by decide) _, gi_same, Nat.le_refl _, fun i j h1 h2 => by omega, fun x => ⟨fun ⟨i, hi, _⟩ => by omega, fun ⟨i, hi, _⟩ => by omega⟩⟩
  · exact key
  · intro F s hs
    obtain ⟨m, hs⟩ := hs
    refine ⟨s, m, ?_, hs⟩
    have n' := hs.1.rn n (by decide)
    show B_X10_gatherKeys_7 N _ M s (nI w) = _
    unfold B_X10_gatherKeys_7
    rw [n'.2.2.1]
    refine (if_pos (by exact (ni_le (by omega) (by omega)).mpr (by omega))).trans ?_
    rfl
  · intro F i s hi hs
    obtain ⟨m, f, em, hm, g⟩ := hs
    left
    have q' := f.rk q
    have n' := f.rn n (by decide)
    have e12 : s.bi (M + 12) = h.bi (M + 12) := f.bi (by decide)
    have body : L_X10_gatherKeys_7 N M (F + 1) s (nI i) = L_X10_gatherKeys_25 N (L_X10_gatherKeys_7 N M F) M N s (nI i) (nI m) 0 (nI 0) := by
      show B_X10_gatherKeys_7 N (L_X10_gatherKeys_7 N M F) M s (nI i) = _
      unfold B_X10_gatherKeys_7
      rw [n'.2.2.1, em]
      refine (if_neg (by exact fun z => by rw [ni_le (by omega) (by omega)] at z; omega)).trans ?_
      rfl
    show ∃ s' : Hp, (∃ m, GkR h M (i + 1) m s') ∧ L_X10_gatherKeys_7 N M (F + 1) s (nI i) = L_X10_gatherKeys_7 N M F s' (nI (i + 1))
    rw [body]
    rcases rf_gk2 q' n' N hN (L_X10_gatherKeys_7 N M F) hi (show m ≤ 512 by omega) em with ⟨y1, y2⟩ | ⟨y1, y2⟩
    · rw [y2]
      rw [e12] at y1
      exact ⟨s, ⟨m, f, em, by omega, g.old y1⟩, rfl⟩
    · rw [y2]
      obtain ⟨h', i', x1, x2, x3, x4⟩ := rf_gk3 q' n' N hN (L_X10_gatherKeys_7 N M F) hi (show m ≤ 512 by omega) em
      rw [x1]
      rw [e12] at y1 x4
      exact ⟨h', ⟨m + 1, f.tr x2, x3, by omega, g.put y1 x4⟩, rfl⟩
end RF7
