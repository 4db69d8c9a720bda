/-! runsOf: the runs; told -/
section RF26
variable {h : Hp} {M b c w l v k r : Nat}
/-- the spans of the first i pieces -/
def RunI (A C : Nat → Int32) (i : Nat) (s : Int32 × Int64) : Prop := ∃ S, Can S ∧ s.1 = nI S.length ∧ S.length ≤ i ∧ (∀ key : Int32, InS S key ↔ ∃ j, j < i ∧ (A j).toInt ≤ key.toInt ∧ key.toInt ≤ (C j).toInt) ∧ (0 < i → ∃ S0 y, S = S0 ++ [y] ∧ s.2.toInt = y.2.toInt ∧ y.1.toInt ≤ (A (i - 1)).toInt)
theorem RunI.new {A C : Nat → Int32} {i : Nat} {x : Int32} {e : Int64} (g : RunI A C i (x, e)) (ac : (A i).toInt ≤ (C i).toInt) (z : i = 0 ∨ e.toInt + 1 < (A i).toInt) : RunI A C (i + 1) (x + 1, (C i).toInt64) := by
  obtain ⟨S, g1, g2, g3, g4, g5⟩ := g
  refine ⟨S ++ [(A i, C i)], g1.snoc ac (fun y hy => ?_), ?_, ?_, fun key => ?_, fun _ => ⟨S, (A i, C i), rfl, toI64 _, ?_⟩⟩
  · by_cases i0 : i = 0
    · have : S.length = 0 := by omega
      rw [List.length_eq_zero_iff.mp this] at hy
      cases hy
    · obtain ⟨S0, y0, e1, e2, e3⟩ := g5 (by omega)
      have zz : e.toInt + 1 < (A i).toInt := z.resolve_left i0
      have e2 : e.toInt = y0.2.toInt := e2
      rw [e1] at hy g1
      rcases List.mem_append.mp hy with m | m
      · have p := g1.init.2.1 y m
        have p2 := g1.init.2.2
        show y.2.toInt + 1 < (A i).toInt
        omega
      · rw [List.mem_singleton.mp m]
        show y0.2.toInt + 1 < (A i).toInt
        omega
  · have g2 : x = nI S.length := g2
    show x + 1 = _
    rw [g2, ni_inc, List.length_append, List.length_singleton]
  · rw [List.length_append, List.length_singleton]
    omega
  · rw [InS.snoc, g4]
    constructor
    · rintro (⟨j, j1, j2⟩ | p)
      · exact ⟨j, by omega, j2⟩
      · exact ⟨i, by omega, p⟩
    · rintro ⟨j, j1, j2⟩
      by_cases ji : j = i
      · rw [ji] at j2; exact Or.inr j2
      · exact Or.inl ⟨j, by omega, j2⟩
  · rw [Nat.add_sub_cancel]
    exact Int.le_refl _
theorem RunI.mrg {A C : Nat → Int32} {i : Nat} {x : Int32} {e : Int64} (g : RunI A C i (x, e)) (ac : (A i).toInt ≤ (C i).toInt) (i0 : 0 < i) (z : (A i).toInt ≤ e.toInt + 1) (so : (A (i - 1)).toInt ≤ (A i).toInt) {e' : Int64} (he : (e' = e ∧ (C i).toInt ≤ e.toInt) ∨ (e' = (C i).toInt64 ∧ e.toInt < (C i).toInt)) : RunI A C (i + 1) (x, e') := by
  obtain ⟨S, g1, g2, g3, g4, g5⟩ := g
  obtain ⟨S0, y, e1, e2, e3⟩ := g5 i0
  have e2 : e.toInt = y.2.toInt := e2
  have ci := (e1 ▸ g1).init
  have ex : ∃ m : Int32, m.toInt = e'.toInt ∧ y.2.toInt ≤ m.toInt ∧ (C i).toInt ≤ m.toInt ∧ (m.toInt = y.2.toInt ∨ m.toInt = (C i).toInt) := by
    rcases he with ⟨p1, p2⟩ | ⟨p1, p2⟩
    · exact ⟨y.2, by rw [p1, e2], Int.le_refl _, by omega, Or.inl rfl⟩
    · exact ⟨C i, by rw [p1, toI64], by omega, Int.le_refl _, Or.inr rfl⟩
  obtain ⟨m, m1, m2, m3, m4⟩ := ex
  refine ⟨S0 ++ [(y.1, m)], ci.1.snoc (show y.1.toInt ≤ m.toInt by have := ci.2.2; omega) ci.2.1, ?_, ?_, fun key => ?_, fun _ => ⟨S0, (y.1, m), rfl, m1.symm, ?_⟩⟩
  · have g2 : x = nI S.length := g2
    show x = _
    rw [g2, e1, List.length_append, List.length_append, List.length_singleton, List.length_singleton]
  · rw [e1, List.length_append, List.length_singleton] at g3
    rw [List.length_append, List.length_singleton]
    omega
  · have g4' := g4 key
    rw [e1, InS.snoc] at g4'
    rw [InS.snoc]
    show InS S0 key ∨ (y.1.toInt ≤ key.toInt ∧ key.toInt ≤ m.toInt) ↔ _
    constructor
    · rintro (p | p)
      · obtain ⟨j, j1, j2⟩ := g4'.mp (Or.inl p)
        exact ⟨j, by omega, j2⟩
      · by_cases q : key.toInt ≤ y.2.toInt
        · obtain ⟨j, j1, j2⟩ := g4'.mp (Or.inr ⟨p.1, q⟩)
          exact ⟨j, by omega, j2⟩
        · exact ⟨i, by omega, by omega, by omega⟩
    · rintro ⟨j, j1, j2⟩
      by_cases ji : j = i
      · rw [ji] at j2
        exact Or.inr ⟨by omega, by omega⟩
      · rcases g4'.mpr ⟨j, by omega, j2⟩ with p | p
        · exact Or.inl p
        · exact Or.inr ⟨p.1, by omega⟩
  · rw [Nat.add_sub_cancel]
    show y.1.toInt ≤ _
    omega
theorem rf_ro144 (q : Rk h M) (N : Nat) (hN : 1000 < N) {m : Nat} (hm : m ≤ 512) (so : ∀ a c, a < c → c < m → h.bi (M + 36) a ≤ h.bi (M + 36) c) (ac : ∀ j, j < m → (h.bi (M + 36) j).toInt ≤ (h.bi (M + 37) j).toInt) : ∃ x e, L_X10_runsOf_144 N M N h (nI m) 0 (-9223372036854775808 : Int64) (nI 0) = some (h, x) ∧ RunI (h.bi (M + 36)) (h.bi (M + 37)) m (x, e) := by
  refine lp_inv (G := fun F i (s : Int32 × Int64) => L_X10_runsOf_144 N M F h (nI m) s.1 s.2 (nI i)) (hi := m) (Inv := fun i s => RunI (h.bi (M + 36)) (h.bi (M + 37)) i s) (Q := fun o => ∃ x e, o = some (h, x) ∧ RunI (h.bi (M + 36)) (h.bi (M + 37)) m (x, e)) ?_ ?_ m 0 N (0, _) (by omega) (by omega) (by omega) ⟨[], ⟨fun y hy => (by cases hy), fun i j x y _ hx => by cases hx⟩, rfl, Nat.le_refl _, fun key => ⟨fun ⟨y, hy, _⟩ => (by cases hy), fun ⟨j, hj, _⟩ => by omega⟩, fun z => by omega⟩
  · intro F s hs
    refine ⟨s.1, s.2, ?_, hs⟩
    show B_X10_runsOf_144 N _ M h (nI m) s.1 s.2 (nI m) = _
    unfold B_X10_runsOf_144
    exact if_pos ((ni_le (by omega) (by omega)).mpr (by omega))
  · intro F i s hi hs
    obtain ⟨x, e⟩ := s
    left
    have t184 : ∀ (x : Int32) (e : Int64), B_X10_runsOf_184 N (L_X10_runsOf_144 N M F) M h (nI m) x e (nI i) = if (h.bi (M + 37) i).toInt ≤ e.toInt then L_X10_runsOf_144 N M F h (nI m) x e (nI (i + 1)) else L_X10_runsOf_144 N M F h (nI m) x (h.bi (M + 37) i).toInt64 (nI (i + 1)) := by
      intro x e
      unfold B_X10_runsOf_184 B_X10_runsOf_211
      rw [rd_1355 q, rx_1355 q (show i < 514 by omega), rd_1355 q, rx_1355 q (show i < 514 by omega), ni_clp (show i < _ by omega), ni_inc]
      by_cases z : (h.bi (M + 37) i).toInt ≤ e.toInt
      · rw [if_pos z, if_pos (lg_cmp_np.mpr (by rw [toI64]; exact z))]
      · rw [if_neg z, if_neg (fun y => z (by have := lg_cmp_np.mp y; rw [toI64] at this; exact this))]
    have t171 : ∀ (x : Int32), B_X10_runsOf_171 N (L_X10_runsOf_144 N M F) M h (nI m) x (nI i) = L_X10_runsOf_144 N M F h (nI m) (x + 1) (h.bi (M + 37) i).toInt64 (nI (i + 1)) := by
      intro x
      unfold B_X10_runsOf_171
      rw [rd_1355 q, rx_1355 q (show i < 514 by omega), ni_clp (show i < _ by omega), t184, if_pos (by rw [toI64]; exact Int.le_refl _)]
    have body : L_X10_runsOf_144 N M (F + 1) h (nI m) x e (nI i) = if i = 0 then L_X10_runsOf_144 N M F h (nI m) (x + 1) (h.bi (M + 37) i).toInt64 (nI (i + 1)) else if lg_cmp ((h.bi (M + 36) i).toInt64) (e + 1) ≤ 0 then (if (h.bi (M + 37) i).toInt ≤ e.toInt then L_X10_runsOf_144 N M F h (nI m) x e (nI (i + 1)) else L_X10_runsOf_144 N M F h (nI m) x (h.bi (M + 37) i).toInt64 (nI (i + 1))) else L_X10_runsOf_144 N M F h (nI m) (x + 1) (h.bi (M + 37) i).toInt64 (nI (i + 1)) := by
      show B_X10_runsOf_144 N (L_X10_runsOf_144 N M F) M h (nI m) x e (nI i) = _
      unfold B_X10_runsOf_144
      rw [if_neg (by rw [ni_le (by omega) (by omega)]; omega), rd_1354 q, rx_1354 q (show i < 514 by omega), ni_clp (show i < _ by omega), t184, t171]
      by_cases z : i = 0
      · rw [if_pos (by rw [z]; rfl), if_pos z]
      · rw [if_neg (show ¬ nI i = 0 from fun y => z ((ni_inj (b := 0) (by omega) (by omega)).mp y)), if_neg z]
    show ∃ s' : Int32 × Int64, RunI (h.bi (M + 36)) (h.bi (M + 37)) (i + 1) s' ∧ L_X10_runsOf_144 N M (F + 1) h (nI m) x e (nI i) = L_X10_runsOf_144 N M F h (nI m) s'.1 s'.2 (nI (i + 1))
    rw [body]
    by_cases z : i = 0
    · rw [if_pos z]
      exact ⟨_, RunI.new hs (ac i hi) (Or.inl z), rfl⟩
    · rw [if_neg z]
      have ep : (e + 1).toInt = e.toInt + 1 := by
        obtain ⟨S, _, _, _, _, g5⟩ := hs
        obtain ⟨S0, y, _, e2, _⟩ := g5 (by omega)
        have e2 : e.toInt = y.2.toInt := e2
        have : e = y.2.toInt64 := Int64.toInt_inj.mp (by rw [toI64]; exact e2)
        rw [this, i64_p1, toI64]
      have lge : lg_cmp (h.bi (M + 36) i).toInt64 (e + 1) ≤ 0 ↔ (h.bi (M + 36) i).toInt ≤ e.toInt + 1 := by rw [lg_cmp_np, toI64, ep]
      by_cases z2 : (h.bi (M + 36) i).toInt ≤ e.toInt + 1
      · rw [if_pos (lge.mpr z2)]
        have so' := so (i - 1) i (by omega) hi
        rw [Int32.le_iff_toInt_le] at so'
        by_cases z3 : (h.bi (M + 37) i).toInt ≤ e.toInt
        · rw [if_pos z3]
          exact ⟨_, RunI.mrg hs (ac i hi) (by omega) z2 so' (Or.inl ⟨rfl, z3⟩), rfl⟩
        · rw [if_neg z3]
          exact ⟨_, RunI.mrg hs (ac i hi) (by omega) z2 so' (Or.inr ⟨rfl, by omega⟩), rfl⟩
      · rw [if_neg (fun y => z2 (lge.mp y))]
        exact ⟨_, RunI.new hs (ac i hi) (Or.inr (by omega)), rfl⟩
/-- every look has its ends in order -/
def LkOk (h : Hp) (M l : Nat) : Prop := ∀ i, i < l → h.bi (M + 17) i ≤ h.bi (M + 18) i
/-- the number of runs of t -/
def runS (h : Hp) (M l t : Nat) (x : Int32) : Prop := ∃ S, Can S ∧ x = nI S.length ∧ S.length ≤ l ∧ ∀ key, InS S key ↔ rdK h M l t key
theorem rf_runsOf (q : Rk h M) (n : Rn h M b c w l v k r) (N : Nat) (hN : 1000 < N) (lo : LkOk h M l) {t : Nat} (ht : t < 514) : ∃ h' x, J_X10_runsOf N M h (nI t) = some (h', x) ∧ RfO [36, 37] [] M h h' ∧ runS h M l t x := by
  have hl := n.2.2.2.2.2.2.2.2.2.2.1
  have fin : ∀ (s : Hp) (j m : Nat), SrtR h M t j m s → j ≤ l → ∃ h' x, B_X10_runsOf_134 N M s (nI m) = some (h', x) ∧ RfO [36, 37] [] M h h' ∧ ∃ S, Can S ∧ x = nI S.length ∧ S.length ≤ m ∧ ∀ key, InS S key ↔ ∃ i, i < j ∧ h.bi (M + 16) i = nI t ∧ h.bi (M + 17) i ≤ key ∧ key ≤ h.bi (M + 18) i := by
    intro s j m g jl
    have ml := g.2.1
    obtain ⟨x, e, e1, S, g1, g2, g3, g4, _⟩ := rf_ro144 (g.1.rk q) N hN (show m ≤ 512 by omega) g.2.2.1 (fun i hi => by
      obtain ⟨u, u1, u2, u3, u4⟩ := (g.2.2.2 _ _).mp ⟨i, hi, rfl, rfl⟩
      rw [← u3, ← u4, ← Int32.le_iff_toInt_le]
      exact lo u (by omega))
    refine ⟨s, x, e1, g.1, S, g1, g2, g3, fun key => (g4 key).trans ⟨?_, ?_⟩⟩
    · rintro ⟨i, i1, i2, i3⟩
      obtain ⟨u, u1, u2, u3, u4⟩ := (g.2.2.2 _ _).mp ⟨i, i1, rfl, rfl⟩
      refine ⟨u, u1, u2, ?_, ?_⟩
      · rw [u3, Int32.le_iff_toInt_le]; exact i2
      · rw [u4, Int32.le_iff_toInt_le]; exact i3
    · rintro ⟨u, u1, u2, u3, u4⟩
      obtain ⟨i, i1, i2, i3⟩ := (g.2.2.2 _ _).mpr ⟨u, u1, u2, rfl, rfl⟩
      refine ⟨i, i1, ?_, ?_⟩
      · rw [i2, ← Int32.le_iff_toInt_le]; exact u3
      · rw [i3, ← Int32.le_iff_toInt_le]; exact u4
  by_cases sf : h.bi (M + 7) t = 1
  · have g0 : SrtR h M t 0 0 h := ⟨RfO.rf _ _ _ _, Nat.le_refl _, fun a c h1 h2 => by omega, fun x y => ⟨fun ⟨i, hi, _⟩ => by omega, fun ⟨i, hi, _⟩ => by omega⟩⟩
    obtain ⟨h', x, e1, e2, S, s1, s2, s3, s4⟩ := fin h 0 0 g0 (Nat.zero_le _)
    refine ⟨h', x, ?_, e2, S, s1, s2, by omega, fun key => ⟨fun y => ?_, fun y => absurd sf y.1⟩⟩
    · obtain ⟨N', rfl⟩ : ∃ N', N = N' + 1 := ⟨N - 1, by omega⟩
      show B_X10_runsOf_4 (N' + 1) _ M h (nI t) (nI 0) (nI 0) = _
      unfold B_X10_runsOf_4
      by_cases z : h.gi 1323 M ≤ nI 0
      · rw [if_pos z]; exact e1
      · rw [if_neg z, rd_1307 q, rx_1307 q ht, ni_clp (show t < _ by omega), if_pos sf]
        exact e1
    · obtain ⟨i, hi, _⟩ := (s4 key).mp y
      omega
  · have key := lp_inv (G := fun F i (s : Hp × Int32) => L_X10_runsOf_4 N M F s.1 (nI t) s.2 (nI i)) (hi := l) (Inv := fun i s => ∃ m, s.2 = nI m ∧ SrtR h M t i m s.1) (Q := fun o => ∃ h' x, o = some (h', x) ∧ RfO [36, 37] [] M h h' ∧ runS h M l t x) ?_ ?_ l 0 N (h, 0) (by omega) (by omega) (by omega) ⟨0, rfl, RfO.rf _ _ _ _, Nat.le_refl _, fun a c h1 h2 => by omega, fun x y => ⟨fun ⟨i, hi, _⟩ => by omega, fun ⟨i, hi, _⟩ => by omega⟩⟩
    · exact key
    · intro F s hs
      obtain ⟨m, m1, g⟩ := hs
      obtain ⟨h', x, e1, e2, S, s1, s2, s3, s4⟩ := fin s.1 l m g (Nat.le_refl _)
      have ml := g.2.1
      refine ⟨h', x, ?_, e2, S, s1, s2, by omega, fun key => (s4 key).trans ⟨fun y => ⟨sf, y⟩, fun y => y.2⟩⟩
      show B_X10_runsOf_4 N _ M s.1 (nI t) s.2 (nI l) = _
      unfold B_X10_runsOf_4
      rw [(g.1.rn n (fun _ _ z => by cases z)).2.2.2.1, if_pos ((ni_le (by omega) (by omega)).mpr (Nat.le_refl _)), m1]
      exact e1
    · intro F i s hi hs
      obtain ⟨s, x⟩ := s
      obtain ⟨m, m1, g⟩ := hs
      have m1 : x = nI m := m1
      have g : SrtR h M t i m s := g
      have q' := g.1.rk q
      left
      have body : L_X10_runsOf_4 N M (F + 1) s (nI t) (nI m) (nI i) = if h.bi (M + 16) i = nI t then L_X10_runsOf_38 N (L_X10_runsOf_4 N M F) M N s (nI t) (nI m) (nI i) (nI m) else L_X10_runsOf_4 N M F s (nI t) (nI m) (nI (i + 1)) := by
        show B_X10_runsOf_4 N (L_X10_runsOf_4 N M F) M s (nI t) (nI m) (nI i) = _
        unfold B_X10_runsOf_4 B_X10_runsOf_128
        rw [(g.1.rn n (fun _ _ z => by cases z)).2.2.2.1, if_neg (by rw [ni_le (by omega) (by omega)]; omega), rd_1307 q', rx_1307 q' ht, ni_clp (show t < _ by omega), g.1.bi (by decide), if_neg sf, rd_1320 q', rx_1320 q' (show i < 514 by omega), ni_clp (show i < _ by omega), g.1.bi (by decide), ni_inc]
      show ∃ s' : Hp × Int32, (∃ m, s'.2 = nI m ∧ SrtR h M t (i + 1) m s'.1) ∧ L_X10_runsOf_4 N M (F + 1) s (nI t) x (nI i) = L_X10_runsOf_4 N M F s'.1 (nI t) s'.2 (nI (i + 1))
      rw [m1, body]
      by_cases z : h.bi (M + 16) i = nI t
      · rw [if_pos z]
        obtain ⟨s', e1, e2⟩ := rf_ro38 q n N hN (L_X10_runsOf_4 N M F) hi g.2.1 z g
        rw [e1]
        exact ⟨(s', nI (m + 1)), ⟨m + 1, rfl, e2⟩, rfl⟩
      · rw [if_neg z]
        exact ⟨(s, nI m), ⟨m, rfl, g.old z⟩, rfl⟩
end RF26
