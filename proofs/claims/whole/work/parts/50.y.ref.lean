/-! runsOf -/
theorem Can.snoc {S : List Iv} {z : Iv} (c : Can S) (hz : z.1.toInt ≤ z.2.toInt) (hS : ∀ y ∈ S, y.2.toInt + 1 < z.1.toInt) : Can (S ++ [z]) := by
  refine ⟨fun y hy => ?_, fun i j x y hij hx hy => ?_⟩
  · rcases List.mem_append.mp hy with m | m
    · exact c.1 y m
    · rw [List.mem_singleton.mp m]; exact hz
  · by_cases e : j < S.length
    · rw [List.getElem?_append_left e] at hy
      rw [List.getElem?_append_left (by omega)] at hx
      exact c.2 i j x y hij hx hy
    · have jl : j < (S ++ [z]).length := by
        rcases Nat.lt_or_ge j (S ++ [z]).length with q | q
        · exact q
        · rw [List.getElem?_eq_none q] at hy; cases hy
      rw [List.length_append, List.length_singleton] at jl
      have je : j = S.length := by omega
      rw [je, List.getElem?_append_right (Nat.le_refl _), Nat.sub_self] at hy
      rw [List.getElem?_append_left (by omega)] at hx
      have : y = z := by injection hy with q; exact q.symm
      rw [this]
      exact hS x (List.mem_of_getElem? hx)
theorem Can.init {S : List Iv} {z : Iv} (c : Can (S ++ [z])) : Can S ∧ (∀ y ∈ S, y.2.toInt + 1 < z.1.toInt) ∧ z.1.toInt ≤ z.2.toInt := by
  refine ⟨⟨fun y hy => c.1 y (List.mem_append_left _ hy), fun i j x y hij hx hy => ?_⟩, fun y hy => ?_, c.1 z (List.mem_append_right _ (List.mem_singleton.mpr rfl))⟩
  · have jl : j < S.length := by
      rcases Nat.lt_or_ge j S.length with q | q
      · exact q
      · rw [List.getElem?_eq_none q] at hy; cases hy
    exact c.2 i j x y hij (by rw [List.getElem?_append_left (by omega)]; exact hx) (by rw [List.getElem?_append_left jl]; exact hy)
  · obtain ⟨i, hi⟩ := List.getElem?_of_mem hy
    have il : i < S.length := by
      rcases Nat.lt_or_ge i S.length with q | q
      · exact q
      · rw [List.getElem?_eq_none q] at hi; cases hi
    exact c.2 i S.length y z il (by rw [List.getElem?_append_left il]; exact hi) (by rw [List.getElem?_append_right (Nat.le_refl _), Nat.sub_self]; rfl)
theorem InS.snoc {S : List Iv} {z : Iv} {k : Int32} : InS (S ++ [z]) k ↔ InS S k ∨ (z.1.toInt ≤ k.toInt ∧ k.toInt ≤ z.2.toInt) := by
  constructor
  · rintro ⟨y, hy, p⟩
    rcases List.mem_append.mp hy with m | m
    · exact Or.inl ⟨y, m, p⟩
    · rw [List.mem_singleton.mp m] at p; exact Or.inr p
  · rintro (⟨y, hy, p⟩ | p)
    · exact ⟨y, List.mem_append_left _ hy, p⟩
    · exact ⟨z, List.mem_append_right _ (List.mem_singleton.mpr rfl), p⟩
def rS2 (N : Nat) (k4 : Hp → Int32 → Int32 → Int32 → Option (Hp × Int32)) (M : Nat) (h : Hp) (x1 x2 x3 x4 : Int32) : Option (Hp × Int32) := dr h 30 (h.gr 1322 M) (fun a5 => ck (¬ (x3 < 0 ∨ h.al a5 ≤ x3.toNatClampNeg)) (dr h 30 (h.gr 1355 M) (fun a7 => ck (¬ (x4 < 0 ∨ h.al a7 ≤ x4.toNatClampNeg)) (B_X10_runsOf_128 N k4 M (h.sbi a7 x4.toNatClampNeg (h.bi a5 x3.toNatClampNeg)) x1 (x2 + (1 : Int32)) x3))))
theorem rS_cut (N : Nat) (k4 : Hp → Int32 → Int32 → Int32 → Option (Hp × Int32)) (M : Nat) (h : Hp) (x1 x2 x3 x4 : Int32) : B_X10_runsOf_99 N k4 M h x1 x2 x3 x4 = dr h 30 (h.gr 1321 M) (fun a1 => ck (¬ (x3 < 0 ∨ h.al a1 ≤ x3.toNatClampNeg)) (dr h 30 (h.gr 1354 M) (fun a3 => ck (¬ (x4 < 0 ∨ h.al a3 ≤ x4.toNatClampNeg)) (rS2 N k4 M (h.sbi a3 x4.toNatClampNeg (h.bi a1 x3.toNatClampNeg)) x1 x2 x3 x4)))) := by
  unfold B_X10_runsOf_99 rS2
  rfl
def rT2 (k38 : Hp → Int32 → Int32 → Int32 → Int32 → Option (Hp × Int32)) (M : Nat) (h : Hp) (x1 x2 x3 x4 : Int32) : Option (Hp × Int32) := dr h 30 (h.gr 1355 M) (fun a18 => ck (¬ (x4 - (1 : Int32) < 0 ∨ h.al a18 ≤ (x4 - (1 : Int32)).toNatClampNeg)) (ck (¬ (x4 < 0 ∨ h.al a18 ≤ x4.toNatClampNeg)) (k38 (h.sbi a18 x4.toNatClampNeg (h.bi a18 (x4 - (1 : Int32)).toNatClampNeg)) x1 x2 x3 (x4 + (-1 : Int32)))))
theorem rT_cut (N : Nat) (k4 : Hp → Int32 → Int32 → Int32 → Option (Hp × Int32)) (k38 : Hp → Int32 → Int32 → Int32 → Int32 → Option (Hp × Int32)) (M : Nat) (h : Hp) (x1 x2 x3 x4 : Int32) : B_X10_runsOf_38 N k4 k38 M h x1 x2 x3 x4 = if x4 ≤ 0 then (B_X10_runsOf_99 N k4 M h x1 x2 x3 x4) else (dr h 30 (h.gr 1354 M) (fun a10 => ck (¬ (x4 - (1 : Int32) < 0 ∨ h.al a10 ≤ (x4 - (1 : Int32)).toNatClampNeg)) (dr h 30 (h.gr 1321 M) (fun a12 => ck (¬ (x3 < 0 ∨ h.al a12 ≤ x3.toNatClampNeg)) (if (h.bi a10 (x4 - (1 : Int32)).toNatClampNeg) ≤ (h.bi a12 x3.toNatClampNeg) then (B_X10_runsOf_99 N k4 M h x1 x2 x3 x4) else (dr h 30 (h.gr 1354 M) (fun a15 => ck (¬ (x4 - (1 : Int32) < 0 ∨ h.al a15 ≤ (x4 - (1 : Int32)).toNatClampNeg)) (ck (¬ (x4 < 0 ∨ h.al a15 ≤ x4.toNatClampNeg)) (rT2 k38 M (h.sbi a15 x4.toNatClampNeg (h.bi a15 (x4 - (1 : Int32)).toNatClampNeg)) x1 x2 x3 x4))))))))) := by
  unfold B_X10_runsOf_38 rT2
  rfl
section RF25
variable {h : Hp} {M b c w l v k r : Nat}
theorem rS2_eq (q : Rk h M) (N : Nat) (k4 : Hp → Int32 → Int32 → Int32 → Option (Hp × Int32)) {i j m : Nat} (hi : i < 514) (hj : j < 514) (x1 : Int32) : rS2 N k4 M h x1 (nI m) (nI j) (nI i) = k4 (h.sbi (M + 37) i (h.bi (M + 18) j)) x1 (nI (m + 1)) (nI (j + 1)) := by
  unfold rS2 B_X10_runsOf_128
  rw [rd_1322 q, rx_1322 q hj, rd_1355 q, rx_1355 q hi, ni_clp (show i < _ by omega), ni_clp (show j < _ by omega), ni_inc, ni_inc]
theorem rT2_eq (q : Rk h M) (k38 : Hp → Int32 → Int32 → Int32 → Int32 → Option (Hp × Int32)) {i : Nat} (hi : i + 1 < 514) (x1 x2 x3 : Int32) : rT2 k38 M h x1 x2 x3 (nI (i + 1)) = k38 (h.sbi (M + 37) (i + 1) (h.bi (M + 37) i)) x1 x2 x3 (nI i) := by
  unfold rT2
  rw [ni_pred, ni_dec, rd_1355 q, rx_1355 q (show i < 514 by omega), rx_1355 q hi, ni_clp (show i < _ by omega), ni_clp (show i + 1 < _ by omega)]
/-- the looks of t ahead of n, in order of their beginnings -/
def SrtR (h : Hp) (M t j m : Nat) (s : Hp) : Prop := RfO [36, 37] [] M h s ∧ m ≤ j ∧ (∀ a c, a < c → c < m → s.bi (M + 36) a ≤ s.bi (M + 36) c) ∧ ∀ x y, (∃ i, i < m ∧ s.bi (M + 36) i = x ∧ s.bi (M + 37) i = y) ↔ ∃ i, i < j ∧ h.bi (M + 16) i = nI t ∧ h.bi (M + 17) i = x ∧ h.bi (M + 18) i = y
theorem SrtR.put {s s' : Hp} {t j m i : Nat} (g : SrtR h M t j m s) (ht : h.bi (M + 16) j = nI t) (f : RfO [36, 37] [] M h s') (him : i ≤ m) (lo : 0 < i → s.bi (M + 36) (i - 1) ≤ h.bi (M + 17) j) (hi : ∀ u, i ≤ u → u < m → h.bi (M + 17) j < s.bi (M + 36) u) (a1 : ∀ u, u < i → s'.bi (M + 36) u = s.bi (M + 36) u ∧ s'.bi (M + 37) u = s.bi (M + 37) u) (a2 : s'.bi (M + 36) i = h.bi (M + 17) j ∧ s'.bi (M + 37) i = h.bi (M + 18) j) (a3 : ∀ u, i ≤ u → u < m → s'.bi (M + 36) (u + 1) = s.bi (M + 36) u ∧ s'.bi (M + 37) (u + 1) = s.bi (M + 37) u) : SrtR h M t (j + 1) (m + 1) s' := by
  have le : ∀ u, u < i → s.bi (M + 36) u ≤ h.bi (M + 17) j := by
    intro u hu
    have p := lo (by omega)
    by_cases e : u = i - 1
    · rw [e]; exact p
    · have := g.2.2.1 u (i - 1) (by omega) (by omega)
      rw [Int32.le_iff_toInt_le] at this p ⊢
      omega
  refine ⟨f, by have := g.2.1; omega, fun a c hac hc => ?_, fun x y => ⟨?_, ?_⟩⟩
  · by_cases c1 : c < i
    · rw [(a1 a (by omega)).1, (a1 c c1).1]
      exact g.2.2.1 a c hac (by omega)
    · by_cases c2 : c = i
      · rw [c2, a2.1, (a1 a (by omega)).1]
        exact le a (by omega)
      · obtain ⟨c', rfl⟩ : ∃ c', c = c' + 1 := ⟨c - 1, by omega⟩
        rw [(a3 c' (by omega) (by omega)).1]
        have p := hi c' (by omega) (by omega)
        by_cases b1 : a < i
        · rw [(a1 a b1).1]
          have p2 := le a b1
          rw [Int32.le_iff_toInt_le] at p2 ⊢
          rw [Int32.lt_iff_toInt_lt] at p
          omega
        · by_cases b2 : a = i
          · rw [b2, a2.1]
            rw [Int32.le_iff_toInt_le]
            rw [Int32.lt_iff_toInt_lt] at p
            omega
          · obtain ⟨a', rfl⟩ : ∃ a', a = a' + 1 := ⟨a - 1, by omega⟩
            rw [(a3 a' (by omega) (by omega)).1]
            exact g.2.2.1 a' c' (by omega) (by omega)
  · rintro ⟨u, hu, e1, e2⟩
    by_cases u1 : u < i
    · rw [(a1 u u1).1] at e1
      rw [(a1 u u1).2] at e2
      obtain ⟨z, z1, z2⟩ := (g.2.2.2 x y).mp ⟨u, by omega, e1, e2⟩
      exact ⟨z, by omega, z2⟩
    · by_cases u2 : u = i
      · rw [u2, a2.1] at e1
        rw [u2, a2.2] at e2
        exact ⟨j, by omega, ht, e1, e2⟩
      · obtain ⟨u', rfl⟩ : ∃ u', u = u' + 1 := ⟨u - 1, by omega⟩
        rw [(a3 u' (by omega) (by omega)).1] at e1
        rw [(a3 u' (by omega) (by omega)).2] at e2
        obtain ⟨z, z1, z2⟩ := (g.2.2.2 x y).mp ⟨u', by omega, e1, e2⟩
        exact ⟨z, by omega, z2⟩
  · rintro ⟨u, hu, e0, e1, e2⟩
    by_cases u1 : u = j
    · rw [u1] at e1 e2
      exact ⟨i, by omega, a2.1.trans e1, a2.2.trans e2⟩
    · obtain ⟨z, z1, z2, z3⟩ := (g.2.2.2 x y).mpr ⟨u, by omega, e0, e1, e2⟩
      by_cases z4 : z < i
      · exact ⟨z, by omega, (a1 z z4).1.trans z2, (a1 z z4).2.trans z3⟩
      · exact ⟨z + 1, by omega, (a3 z (by omega) z1).1.trans z2, (a3 z (by omega) z1).2.trans z3⟩
theorem SrtR.old {s : Hp} {t j m : Nat} (g : SrtR h M t j m s) (ht : h.bi (M + 16) j ≠ nI t) : SrtR h M t (j + 1) m s := by
  refine ⟨g.1, by have := g.2.1; omega, g.2.2.1, fun x y => (g.2.2.2 x y).trans ⟨fun ⟨u, u1, u2⟩ => ⟨u, by omega, u2⟩, fun ⟨u, u1, u2, u3⟩ => ?_⟩⟩
  by_cases e : u = j
  · rw [e] at u2; exact absurd u2 ht
  · exact ⟨u, by omega, u2, u3⟩
theorem rf_ro38 (q : Rk h M) (n : Rn h M b c w l v k r) (N : Nat) (hN : 1000 < N) (k4 : Hp → Int32 → Int32 → Int32 → Option (Hp × Int32)) {t j m : Nat} (hj : j < l) (hm : m ≤ j) (ht : h.bi (M + 16) j = nI t) {s0 : Hp} (g : SrtR h M t j m s0) : ∃ s', L_X10_runsOf_38 N k4 M N s0 (nI t) (nI m) (nI j) (nI m) = k4 s' (nI t) (nI (m + 1)) (nI (j + 1)) ∧ SrtR h M t (j + 1) (m + 1) s' := by
  have hl := n.2.2.2.2.2.2.2.2.2.2.1
  have fin : ∀ (s : Hp) (i : Nat), i ≤ m → RfO [36, 37] [] M h s → (∀ u, u < i → s.bi (M + 36) u = s0.bi (M + 36) u ∧ s.bi (M + 37) u = s0.bi (M + 37) u) → (∀ u, i ≤ u → u < m → h.bi (M + 17) j < s0.bi (M + 36) u ∧ s.bi (M + 36) (u + 1) = s0.bi (M + 36) u ∧ s.bi (M + 37) (u + 1) = s0.bi (M + 37) u) → (0 < i → s0.bi (M + 36) (i - 1) ≤ h.bi (M + 17) j) → ∃ s', B_X10_runsOf_99 N k4 M s (nI t) (nI m) (nI j) (nI i) = k4 s' (nI t) (nI (m + 1)) (nI (j + 1)) ∧ SrtR h M t (j + 1) (m + 1) s' := by
    intro s i him f s1 s2 s3
    have q' := f.rk q
    have e17 : s.bi (M + 17) = h.bi (M + 17) := f.bi (by decide)
    have e18 : s.bi (M + 18) = h.bi (M + 18) := f.bi (by decide)
    refine ⟨(s.sbi (M + 36) i (h.bi (M + 17) j)).sbi (M + 37) i (h.bi (M + 18) j), ?_, g.put ht ((f.tr (RfO.sbi (k := 36) (by decide) _ _)).tr (RfO.sbi (k := 37) (by decide) _ _)) him s3 (fun u u1 u2 => (s2 u u1 u2).1) (fun u hu => ?_) ?_ (fun u u1 u2 => ?_)⟩
    · rw [rS_cut, rd_1321 q', rx_1321 q' (show j < 514 by omega), rd_1354 q', rx_1354 q' (show i < 514 by omega), ni_clp (show i < _ by omega), ni_clp (show j < _ by omega), e17]
      refine (rS2_eq (q'.sbi (M + 36) i (h.bi (M + 17) j)) N k4 (show i < 514 by omega) (show j < 514 by omega) (nI t)).trans ?_
      rw [bi_oth (show M + 18 ≠ M + 36 by omega), e18]
    · rw [bi_oth (show M + 36 ≠ M + 37 by omega), bi_at, if_neg (by omega), bi_at, if_neg (by omega), bi_oth (show M + 37 ≠ M + 36 by omega)]
      exact s1 u hu
    · rw [bi_oth (show M + 36 ≠ M + 37 by omega), bi_at, if_pos rfl, bi_at, if_pos rfl]
      exact ⟨rfl, rfl⟩
    · rw [bi_oth (show M + 36 ≠ M + 37 by omega), bi_at, if_neg (by omega), bi_at, if_neg (by omega), bi_oth (show M + 37 ≠ M + 36 by omega)]
      exact (s2 u u1 u2).2
  refine lp_dn (G := fun F i (s : Hp) => L_X10_runsOf_38 N k4 M F s (nI t) (nI m) (nI j) (nI i)) (Inv := fun i s => i ≤ m ∧ RfO [36, 37] [] M h s ∧ (∀ u, u < i → s.bi (M + 36) u = s0.bi (M + 36) u ∧ s.bi (M + 37) u = s0.bi (M + 37) u) ∧ (∀ u, i ≤ u → u < m → h.bi (M + 17) j < s0.bi (M + 36) u ∧ s.bi (M + 36) (u + 1) = s0.bi (M + 36) u ∧ s.bi (M + 37) (u + 1) = s0.bi (M + 37) u)) (Q := fun o => ∃ s', o = k4 s' (nI t) (nI (m + 1)) (nI (j + 1)) ∧ SrtR h M t (j + 1) (m + 1) s') ?_ ?_ m N s0 (by omega) ⟨Nat.le_refl _, g.1, fun _ _ => ⟨rfl, rfl⟩, fun u u1 u2 => by omega⟩
  · intro F s hs
    have := fin s 0 (Nat.zero_le _) hs.2.1 hs.2.2.1 hs.2.2.2 (fun z => by omega)
    have body : L_X10_runsOf_38 N k4 M (F + 1) s (nI t) (nI m) (nI j) (nI 0) = B_X10_runsOf_99 N k4 M s (nI t) (nI m) (nI j) (nI 0) := by
      show B_X10_runsOf_38 N k4 _ M s (nI t) (nI m) (nI j) (nI 0) = _
      unfold B_X10_runsOf_38
      exact if_pos (by decide)
    show ∃ s', L_X10_runsOf_38 N k4 M (F + 1) s (nI t) (nI m) (nI j) (nI 0) = _ ∧ _
    rw [body]
    exact this
  · intro F i s hs
    obtain ⟨him, f, s1, s2⟩ := hs
    have q' := f.rk q
    have e17 : s.bi (M + 17) = h.bi (M + 17) := f.bi (by decide)
    have e36 := s1 i (by omega)
    have body : L_X10_runsOf_38 N k4 M (F + 1) s (nI t) (nI m) (nI j) (nI (i + 1)) = if s0.bi (M + 36) i ≤ h.bi (M + 17) j then B_X10_runsOf_99 N k4 M s (nI t) (nI m) (nI j) (nI (i + 1)) else L_X10_runsOf_38 N k4 M F ((s.sbi (M + 36) (i + 1) (s0.bi (M + 36) i)).sbi (M + 37) (i + 1) (s0.bi (M + 37) i)) (nI t) (nI m) (nI j) (nI i) := by
      show B_X10_runsOf_38 N k4 (L_X10_runsOf_38 N k4 M F) M s (nI t) (nI m) (nI j) (nI (i + 1)) = _
      rw [rT_cut, if_neg (fun z => by rw [ni_lz (by omega)] at z; omega), ni_pred]
      rw [rd_1354 q', rx_1354 q' (show i < 514 by omega), rd_1321 q', rx_1321 q' (show j < 514 by omega), rd_1354 q', rx_1354 q' (show i < 514 by omega), rx_1354 q' (show i + 1 < 514 by omega), ni_clp (show i < _ by omega), ni_clp (show j < _ by omega), ni_clp (show i + 1 < _ by omega), e17, e36.1, rT2_eq (q'.sbi (M + 36) (i + 1) (s0.bi (M + 36) i)) (L_X10_runsOf_38 N k4 M F) (show i + 1 < 514 by omega) (nI t) (nI m) (nI j), bi_oth (show M + 37 ≠ M + 36 by omega), e36.2]
    show (∃ s' : Hp, (i ≤ m ∧ RfO [36, 37] [] M h s' ∧ (∀ u, u < i → s'.bi (M + 36) u = s0.bi (M + 36) u ∧ s'.bi (M + 37) u = s0.bi (M + 37) u) ∧ (∀ u, i ≤ u → u < m → h.bi (M + 17) j < s0.bi (M + 36) u ∧ s'.bi (M + 36) (u + 1) = s0.bi (M + 36) u ∧ s'.bi (M + 37) (u + 1) = s0.bi (M + 37) u)) ∧ L_X10_runsOf_38 N k4 M (F + 1) s (nI t) (nI m) (nI j) (nI (i + 1)) = L_X10_runsOf_38 N k4 M F s' (nI t) (nI m) (nI j) (nI i)) ∨ ∃ s', L_X10_runsOf_38 N k4 M (F + 1) s (nI t) (nI m) (nI j) (nI (i + 1)) = k4 s' (nI t) (nI (m + 1)) (nI (j + 1)) ∧ _
    rw [body]
    by_cases z : s0.bi (M + 36) i ≤ h.bi (M + 17) j
    · right
      rw [if_pos z]
      exact fin s (i + 1) him f s1 s2 (fun _ => z)
    · left
      rw [if_neg z]
      refine ⟨_, ⟨by omega, (f.tr (RfO.sbi (k := 36) (by decide) _ _)).tr (RfO.sbi (k := 37) (by decide) _ _), fun u hu => ?_, fun u u1 u2 => ?_⟩, rfl⟩
      · rw [bi_oth (show M + 36 ≠ M + 37 by omega), bi_at, if_neg (by omega), bi_at, if_neg (by omega), bi_oth (show M + 37 ≠ M + 36 by omega)]
        exact s1 u (by omega)
      · rw [bi_oth (show M + 36 ≠ M + 37 by omega), bi_at, bi_at, bi_oth (show M + 37 ≠ M + 36 by omega)]
        by_cases e : u = i
        · rw [e, if_pos rfl, if_pos rfl]
          refine ⟨?_, rfl, rfl⟩
          rw [Int32.le_iff_toInt_le] at z
          rw [Int32.lt_iff_toInt_lt]
          omega
        · rw [if_neg (by omega), if_neg (by omega)]
          exact s2 u (by omega) u2
end RF25
