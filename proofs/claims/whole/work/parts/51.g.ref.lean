/-! doing again: isNearAgain, isScanAgain -/
section RF32
variable {h : Hp} {M m : Nat}
/-- a near call comes out as it did -/
def NgR (h : Hp) (M m : Nat) (L : Ow) (mp : Int32 → Option Int64) (k : Nat) (up : Int32) : Prop := ∃ x, (up = 0 → lastS (fun i => ¬ h.bi (M + 25) k < h.bi (M + 35) i ∧ nowF L mp (h.bi (M + 35) i) ≠ none) m x) ∧ (up ≠ 0 → firstS (fun i => ¬ h.bi (M + 35) i < h.bi (M + 25) k ∧ nowF L mp (h.bi (M + 35) i) ≠ none) m x) ∧ ((x = -1 ∧ h.bi (M + 29) k = 0) ∨ ∃ j, x = nI j ∧ j < m ∧ h.bi (M + 29) k ≠ 0 ∧ h.bi (M + 35) j = h.bi (M + 30) k ∧ nowF L mp (h.bi (M + 35) j) = some (h.bw (M + 31) k))
theorem firstS.uniq {P : Nat → Prop} {w : Nat} {x y : Int32} (p : firstS P w x) (q : firstS P w y) : x = y := by
  rcases p with ⟨p1, p2⟩ | ⟨i, p1, p2, p3, p4⟩ <;> rcases q with ⟨q1, q2⟩ | ⟨j, q1, q2, q3, q4⟩
  · rw [p1, q1]
  · exact absurd q3 (p2 j q1)
  · exact absurd p3 (q2 i p1)
  · have : i = j := by
      rcases Nat.lt_trichotomy i j with z | z | z
      · exact absurd p3 (q4 i z)
      · exact z
      · exact absurd q3 (p4 j z)
    rw [p2, q2, this]
theorem rf_isNearAgain (q : Rk h M) {L : Ow} {mp : Int32 → Option Int64} (s : RpS h M m L mp) (N : Nat) (hN : 1000 < N) {k : Nat} (hk : k < 512) (up : Int32) : ∃ h' x, J_X10_isNearAgain N M h (nI k) up = some (h', x) ∧ RfO [] [1351] M h h' ∧ B01 x (NgR h M m L mp k up) := by
  have em := s.1
  have hm := s.2.1
  have fin : ∀ (s1 : Hp) (x : Int32), RfO [] [1351] M h s1 → (up = 0 → lastS (fun i => ¬ h.bi (M + 25) k < h.bi (M + 35) i ∧ nowF L mp (h.bi (M + 35) i) ≠ none) m x) → (up ≠ 0 → firstS (fun i => ¬ h.bi (M + 35) i < h.bi (M + 25) k ∧ nowF L mp (h.bi (M + 35) i) ≠ none) m x) → ∀ (F : Nat), ∃ h' y, L_X10_isNearAgain_5 N M (F + 1) s1 (nI k) up x (nI m) = some (h', y) ∧ RfO [] [1351] M h h' ∧ B01 y (NgR h M m L mp k up) := by
    intro s1 x f p1 p2 F
    have q' := f.rk q
    have e29 : s1.bi (M + 29) = h.bi (M + 29) := f.bi (by decide)
    have e30 : s1.bi (M + 30) = h.bi (M + 30) := f.bi (by decide)
    have e31 : s1.bw (M + 31) = h.bw (M + 31) := f.bw (by decide)
    have e35 : s1.bi (M + 35) = h.bi (M + 35) := f.bi (by decide)
    have uq : ∀ {y}, (up = 0 → lastS (fun i => ¬ h.bi (M + 25) k < h.bi (M + 35) i ∧ nowF L mp (h.bi (M + 35) i) ≠ none) m y) → (up ≠ 0 → firstS (fun i => ¬ h.bi (M + 35) i < h.bi (M + 25) k ∧ nowF L mp (h.bi (M + 35) i) ≠ none) m y) → y = x := by
      intro y y1 y2
      by_cases u : up = 0
      · exact (y1 u).uniq (p1 u)
      · exact (y2 u).uniq (p2 u)
    have pl : x = -1 ∨ ∃ j, x = nI j ∧ j < m := by
      by_cases u : up = 0
      · exact (p1 u).pl
      · rcases p2 u with ⟨a, _⟩ | ⟨j, a1, a2, _⟩
        · exact Or.inl a
        · exact Or.inr ⟨j, a2, a1⟩
    have t112 : B_X10_isNearAgain_112 N M s1 (nI k) x = if x = -1 then (if h.bi (M + 29) k = 0 then some (s1, (1 : Int32)) else some (s1, 0)) else some (s1, 0) := by
      unfold B_X10_isNearAgain_112 B_X10_isNearAgain_130 B_X10_isNearAgain_131
      rw [rd_1335 q', rx_1335 q' (show k < 514 by omega), ni_clp (show k < _ by omega), e29, ck_eq (Or.inl rfl), ck_eq (Or.inr rfl)]
    have start : L_X10_isNearAgain_5 N M (F + 1) s1 (nI k) up x (nI m) = if x = -1 then B_X10_isNearAgain_112 N M s1 (nI k) x else (if h.bi (M + 29) k = 0 then B_X10_isNearAgain_112 N M s1 (nI k) x else (dr s1 30 (s1.gr 1352 M) (fun a29 => ck (¬ (x < 0 ∨ s1.al a29 ≤ x.toNatClampNeg)) ((J_X10_hasNow N M s1 (s1.bi a29 x.toNatClampNeg)).bind (fun z => B_X10_isNearAgain_142 N M z.1 (nI k) x z.2))))) := by
      show B_X10_isNearAgain_5 N _ M s1 (nI k) up x (nI m) = _
      unfold B_X10_isNearAgain_5
      rw [f.gi (by decide), em, if_pos ((ni_le (by omega) (by omega)).mpr (Nat.le_refl _)), rd_1335 q', rx_1335 q' (show k < 514 by omega), ni_clp (show k < _ by omega), e29]
    rw [start, t112]
    rcases pl with z | ⟨j, z, hj⟩
    · rw [if_pos z, if_pos z]
      by_cases z2 : h.bi (M + 29) k = 0
      · rw [if_pos z2]
        exact ⟨s1, 1, rfl, f, Or.inl ⟨rfl, x, p1, p2, Or.inl ⟨z, z2⟩⟩⟩
      · rw [if_neg z2]
        refine ⟨s1, 0, rfl, f, Or.inr ⟨rfl, fun ⟨y, y1, y2, y3⟩ => ?_⟩⟩
        rcases y3 with ⟨_, y4⟩ | ⟨j, y4, y5, _⟩
        · exact z2 y4
        · exact ni_m1 (show j < _ by omega) (y4.symm.trans ((uq y1 y2).trans z))
    · have nz : ¬ x = -1 := by rw [z]; exact ni_m1 (by omega)
      rw [if_neg nz, if_neg nz]
      by_cases z2 : h.bi (M + 29) k = 0
      · rw [if_pos z2]
        refine ⟨s1, 0, rfl, f, Or.inr ⟨rfl, fun ⟨y, y1, y2, y3⟩ => ?_⟩⟩
        rcases y3 with ⟨y4, _⟩ | ⟨j, _, _, y5, _⟩
        · exact nz ((uq y1 y2).symm.trans y4)
        · exact y5 z2
      · rw [if_neg z2, z, rd_1352 q', rx_1352 q' (show j < 514 by omega), ni_clp (show j < _ by omega), e35]
        obtain ⟨h', y, d1, d2, d3⟩ := rf_hasNow q' (s.con f (by decide) (by decide)) N hN (h.bi (M + 35) j)
        have f2 := f.tr d2
        have q2 := f2.rk q
        have seen : nowF L mp (h.bi (M + 35) j) ≠ none := by
          by_cases u : up = 0
          · rcases p1 u with ⟨a, _⟩ | ⟨i, a1, a2, a3, _⟩
            · exact absurd a nz
            · rw [(ni_inj (by omega) (by omega)).mp (z.symm.trans a2)]; exact a3.2
          · rcases p2 u with ⟨a, _⟩ | ⟨i, a1, a2, a3, _⟩
            · exact absurd a nz
            · rw [(ni_inj (by omega) (by omega)).mp (z.symm.trans a2)]; exact a3.2
        have d3 : y = 1 ∧ nowF L mp (h.bi (M + 35) j) = some (h'.gl 1351 M) := d3.resolve_left (fun t => seen t.1)
        have st : ∀ {o : Option (Hp × Int32)}, (if h.bi (M + 35) j = h.bi (M + 30) k then (if lg_cmp (h'.gl 1351 M) (h.bw (M + 31) k) = 0 then some (h', (1 : Int32)) else some (h', 0)) else some (h', 0)) = o → (J_X10_hasNow N M s1 (h.bi (M + 35) j)).bind (fun z => B_X10_isNearAgain_142 N M z.1 (nI k) (nI j) z.2) = o := by
          intro o ho
          refine (bnd d1).trans ?_
          show B_X10_isNearAgain_142 N M h' (nI k) (nI j) y = o
          unfold B_X10_isNearAgain_142 B_X10_isNearAgain_178 B_X10_isNearAgain_179
          rw [d3.1, if_neg (show ¬ (1 : Int32) = 0 by decide), rd_1352 q2, rx_1352 q2 (show j < 514 by omega), rd_1336 q2, rx_1336 q2 (show k < 514 by omega), rd_1337 q2, rx_1337 q2 (show k < 514 by omega), ni_clp (show j < _ by omega), ni_clp (show k < _ by omega), f2.bi (by decide), f2.bi (by decide), f2.bw (by decide), ck_eq (Or.inl rfl), ck_eq (Or.inr rfl)]
          exact ho
        have uj : ∀ {j' : Nat}, j' < m → ∀ {y}, y = x → y = nI j' → j' = j := fun h1 _ h2 h3 => (ni_inj (by omega) (by omega)).mp (h3.symm.trans (h2.trans z))
        by_cases c1 : h.bi (M + 35) j = h.bi (M + 30) k
        · by_cases c2 : lg_cmp (h'.gl 1351 M) (h.bw (M + 31) k) = 0
          · refine ⟨h', 1, st (by rw [if_pos c1, if_pos c2]), f2, Or.inl ⟨rfl, x, p1, p2, Or.inr ⟨j, z, hj, z2, c1, ?_⟩⟩⟩
            rw [← lg_cmp_ez.mp c2]; exact d3.2
          · refine ⟨h', 0, st (by rw [if_pos c1, if_neg c2]), f2, Or.inr ⟨rfl, fun ⟨y, y1, y2, y3⟩ => ?_⟩⟩
            rcases y3 with ⟨y4, _⟩ | ⟨j', y4, y5, _, y6, y7⟩
            · exact nz ((uq y1 y2).symm.trans y4)
            · rw [uj y5 (uq y1 y2) y4, d3.2] at y7
              exact c2 (lg_cmp_ez.mpr (Option.some.inj y7))
        · refine ⟨h', 0, st (by rw [if_neg c1]), f2, Or.inr ⟨rfl, fun ⟨y, y1, y2, y3⟩ => ?_⟩⟩
          rcases y3 with ⟨y4, _⟩ | ⟨j', y4, y5, _, y6, y7⟩
          · exact nz ((uq y1 y2).symm.trans y4)
          · rw [uj y5 (uq y1 y2) y4] at y6
            exact c1 y6
  refine lp_inv (G := fun F i (s : Hp × Int32) => L_X10_isNearAgain_5 N M F s.1 (nI k) up s.2 (nI i)) (hi := m) (Inv := fun i s => RfO [] [1351] M h s.1 ∧ (up = 0 → lastS (fun i => ¬ h.bi (M + 25) k < h.bi (M + 35) i ∧ nowF L mp (h.bi (M + 35) i) ≠ none) i s.2) ∧ (up ≠ 0 → firstS (fun i => ¬ h.bi (M + 35) i < h.bi (M + 25) k ∧ nowF L mp (h.bi (M + 35) i) ≠ none) i s.2)) (Q := fun o => ∃ h' x, o = some (h', x) ∧ RfO [] [1351] M h h' ∧ B01 x (NgR h M m L mp k up)) ?_ ?_ m 0 N (h, -1) (by omega) (by omega) (by omega) ⟨RfO.rf _ _ _ _, fun _ => Or.inl ⟨rfl, fun i hi => by omega⟩, fun _ => Or.inl ⟨rfl, fun i hi => by omega⟩⟩
  · intro F s hs
    exact fin s.1 s.2 hs.1 hs.2.1 hs.2.2 F
  · intro F i s1 hi hs
    obtain ⟨s1, at0⟩ := s1
    obtain ⟨f, p1, p2⟩ := hs
    have f : RfO [] [1351] M h s1 := f
    left
    have q' := f.rk q
    have e25 : s1.bi (M + 25) = h.bi (M + 25) := f.bi (by decide)
    have e35 : s1.bi (M + 35) = h.bi (M + 35) := f.bi (by decide)
    obtain ⟨h', x, d1, d2, d3⟩ := rf_hasNow q' (s.con f (by decide) (by decide)) N hN (h.bi (M + 35) i)
    have f2 : RfO [] [1351] M h h' := f.tr d2
    have sx : x ≠ 0 ↔ nowF L mp (h.bi (M + 35) i) ≠ none := by
      rcases d3 with ⟨a1, a2⟩ | ⟨a1, a2⟩
      · rw [a1, a2]; exact ⟨fun u => absurd rfl u, fun u => absurd rfl u⟩
      · rw [a1, a2]; exact ⟨fun _ u => (by cases u), fun _ => by decide⟩
    have t68 : ∀ y : Int32, B_X10_isNearAgain_68 N (L_X10_isNearAgain_5 N M F) M s1 (nI k) up at0 (nI i) y = if y = 0 then L_X10_isNearAgain_5 N M F s1 (nI k) up at0 (nI (i + 1)) else if x = 0 then L_X10_isNearAgain_5 N M F h' (nI k) up at0 (nI (i + 1)) else L_X10_isNearAgain_5 N M F h' (nI k) up (nI i) (nI (i + 1)) := by
      intro y
      unfold B_X10_isNearAgain_68 B_X10_isNearAgain_92
      rw [rd_1352 q', rx_1352 q' (show i < 514 by omega), ni_clp (show i < _ by omega), ni_inc, e35]
      by_cases z : y = 0
      · rw [if_pos z, if_pos z]
      · rw [if_neg z, if_neg z]
        refine (bnd (by exact d1)).trans ?_
        show B_X10_isNearAgain_86 N (L_X10_isNearAgain_5 N M F) M h' (nI k) up at0 (nI i) x = _
        unfold B_X10_isNearAgain_86 B_X10_isNearAgain_92
        rw [ni_inc]
    have body : L_X10_isNearAgain_5 N M (F + 1) s1 (nI k) up at0 (nI i) = if up = 0 then (if h.bi (M + 25) k < h.bi (M + 35) i then L_X10_isNearAgain_5 N M F s1 (nI k) up at0 (nI (i + 1)) else if x = 0 then L_X10_isNearAgain_5 N M F h' (nI k) up at0 (nI (i + 1)) else L_X10_isNearAgain_5 N M F h' (nI k) up (nI i) (nI (i + 1))) else if h.bi (M + 35) i < h.bi (M + 25) k then L_X10_isNearAgain_5 N M F s1 (nI k) up at0 (nI (i + 1)) else if at0 = -1 then (if x = 0 then L_X10_isNearAgain_5 N M F h' (nI k) up at0 (nI (i + 1)) else L_X10_isNearAgain_5 N M F h' (nI k) up (nI i) (nI (i + 1))) else L_X10_isNearAgain_5 N M F s1 (nI k) up at0 (nI (i + 1)) := by
      show B_X10_isNearAgain_5 N (L_X10_isNearAgain_5 N M F) M s1 (nI k) up at0 (nI i) = _
      unfold B_X10_isNearAgain_5 B_X10_isNearAgain_43
      rw [f.gi (by decide), em, if_neg (by rw [ni_le (by omega) (by omega)]; omega), rd_1352 q', rx_1352 q' (show i < 514 by omega), rd_1352 q', rx_1352 q' (show i < 514 by omega), rd_1331 q', rx_1331 q' (show k < 514 by omega), rd_1331 q', rx_1331 q' (show k < 514 by omega), ni_clp (show i < _ by omega), ni_clp (show k < _ by omega), e35, e25, t68 0, t68 1, if_pos (rfl : (0 : Int32) = 0), if_neg (show ¬ (1 : Int32) = 0 by decide)]
    show ∃ s' : Hp × Int32, (RfO [] [1351] M h s'.1 ∧ (up = 0 → lastS (fun i => ¬ h.bi (M + 25) k < h.bi (M + 35) i ∧ nowF L mp (h.bi (M + 35) i) ≠ none) (i + 1) s'.2) ∧ (up ≠ 0 → firstS (fun i => ¬ h.bi (M + 35) i < h.bi (M + 25) k ∧ nowF L mp (h.bi (M + 35) i) ≠ none) (i + 1) s'.2)) ∧ L_X10_isNearAgain_5 N M (F + 1) s1 (nI k) up at0 (nI i) = L_X10_isNearAgain_5 N M F s'.1 (nI k) up s'.2 (nI (i + 1))
    rw [body]
    by_cases u0 : up = 0
    · rw [if_pos u0]
      by_cases z1 : h.bi (M + 25) k < h.bi (M + 35) i
      · rw [if_pos z1]
        exact ⟨(s1, at0), ⟨f, fun y => (p1 y).skip (fun t => t.1 z1), fun y => absurd u0 y⟩, rfl⟩
      · rw [if_neg z1]
        by_cases z2 : x = 0
        · rw [if_pos z2]
          exact ⟨(h', at0), ⟨f2, fun y => (p1 y).skip (fun t => sx.mpr t.2 z2), fun y => absurd u0 y⟩, rfl⟩
        · rw [if_neg z2]
          exact ⟨(h', nI i), ⟨f2, fun _ => Or.inr ⟨i, by omega, rfl, ⟨z1, sx.mp z2⟩, fun j h1 h2 => by omega⟩, fun y => absurd u0 y⟩, rfl⟩
    · rw [if_neg u0]
      by_cases z1 : h.bi (M + 35) i < h.bi (M + 25) k
      · rw [if_pos z1]
        exact ⟨(s1, at0), ⟨f, fun y => absurd y u0, fun y => (p2 y).skip (fun _ t => t.1 z1)⟩, rfl⟩
      · rw [if_neg z1]
        by_cases z3 : at0 = -1
        · rw [if_pos z3]
          by_cases z2 : x = 0
          · rw [if_pos z2]
            exact ⟨(h', at0), ⟨f2, fun y => absurd y u0, fun y => (p2 y).skip (fun _ t => sx.mpr t.2 z2)⟩, rfl⟩
          · rw [if_neg z2]
            refine ⟨(h', nI i), ⟨f2, fun y => absurd y u0, fun _ => Or.inr ⟨i, by omega, rfl, ⟨z1, sx.mp z2⟩, ?_⟩⟩, rfl⟩
            rcases p2 u0 with ⟨_, a2⟩ | ⟨j, a1, a2, _⟩
            · exact a2
            · exact absurd (a2.symm.trans z3) (ni_m1 (by omega))
        · rw [if_neg z3]
          exact ⟨(s1, at0), ⟨f, fun y => absurd y u0, fun y => (p2 y).skip (fun t => absurd t z3)⟩, rfl⟩
end RF32
