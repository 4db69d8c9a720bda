/-! judge -/
section RF4
variable {h : Hp} {M b c w l v k r : Nat}
theorem RfO.rn {A G : List Nat} {h' : Hp} (a : RfO A G M h h') (n : Rn h M b c w l v k r) (z : ∀ x ∈ [1311, 1312, 1319, 1323, 1328, 1339, 1342], x ∉ G) : Rn h' M b c w l v k r := by
  obtain ⟨n1, n2, n3, n4, n5, n6, n7, n8⟩ := n
  exact ⟨(a.gi (z _ (by decide))).trans n1, (a.gi (z _ (by decide))).trans n2, (a.gi (z _ (by decide))).trans n3, (a.gi (z _ (by decide))).trans n4, (a.gi (z _ (by decide))).trans n5, (a.gi (z _ (by decide))).trans n6, (a.gi (z _ (by decide))).trans n7, n8⟩
/-- t waits for one that is at work -/
def wtS (h : Hp) (M n : Nat) : Prop := ∃ u, 1 ≤ u ∧ u < n ∧ h.bi (M + 2) u = 0 ∧ h.bi (M + 1) u = 1
/-- one that counts makes t bad -/
def bdC (h : Hp) (M b l v t u : Nat) : Prop := h.bi (M + 2) u = 0 ∧ h.bi (M + 1) u = 2 ∧ h.bi (M + 5) t ≤ h.bi (M + 6) u ∧ ∃ x, outS h M l v u (b + 1) x ∧ x ≠ 0 ∧ x ≤ h.bi (M + 3) t
def bdS (h : Hp) (M b l v t n : Nat) : Prop := ∃ u, 1 ≤ u ∧ u < n ∧ bdC h M b l v t u
/-- the judgement -/
def jdV (h : Hp) (M b l v t : Nat) (x : Int32) : Prop := (x = 2 ∧ bdS h M b l v t t) ∨ (x = 0 ∧ ¬ bdS h M b l v t t ∧ wtS h M t) ∨ (x = 1 ∧ ¬ bdS h M b l v t t ∧ ¬ wtS h M t)
def B01 (x : Int32) (P : Prop) : Prop := (x = 1 ∧ P) ∨ (x = 0 ∧ ¬ P)
theorem wtS.up {n : Nat} (h1 : 1 ≤ n) : wtS h M (n + 1) ↔ (wtS h M n ∨ (h.bi (M + 2) n = 0 ∧ h.bi (M + 1) n = 1)) := by
  constructor
  · rintro ⟨u, u1, u2, u3⟩
    by_cases e : u = n
    · rw [e] at u3; exact Or.inr u3
    · exact Or.inl ⟨u, u1, by omega, u3⟩
  · rintro (⟨u, u1, u2, u3⟩ | u3)
    · exact ⟨u, u1, by omega, u3⟩
    · exact ⟨n, h1, by omega, u3⟩
theorem bdS.up {t n : Nat} (h1 : 1 ≤ n) : bdS h M b l v t (n + 1) ↔ (bdS h M b l v t n ∨ bdC h M b l v t n) := by
  constructor
  · rintro ⟨u, u1, u2, u3⟩
    by_cases e : u = n
    · rw [e] at u3; exact Or.inr u3
    · exact Or.inl ⟨u, u1, by omega, u3⟩
  · rintro (⟨u, u1, u2, u3⟩ | u3)
    · exact ⟨u, u1, by omega, u3⟩
    · exact ⟨n, h1, by omega, u3⟩
theorem B01.con {x : Int32} {P Q : Prop} (a : B01 x P) (e : P ↔ Q) : B01 x Q := a.imp (fun y => ⟨y.1, e.mp y.2⟩) (fun y => ⟨y.1, fun z => y.2 (e.mpr z)⟩)
theorem rf_judgeOne (q : Rk h M) (n : Rn h M b c w l v k r) (N : Nat) (hN : 1000 < N) (pos : ∀ u, 1 ≤ u → u ≤ b → h.bi (M + 1) u = 2 → 0 < h.bi (M + 4) u) {t : Nat} (h1 : 1 ≤ t) (ht : t ≤ b) : ∃ x, J_X10_judgeOne N M h (nI t) = some (h.sbi (M + 7) t x, ()) ∧ jdV h M b l v t x := by
  have hb := n.2.2.2.2.2.2.2.1
  have key := lp_inv (G := fun F i (s : Int32 × Int32) => L_X10_judgeOne_7 N M F h (nI t) s.1 s.2 (nI i)) (hi := t) (Inv := fun i s => 1 ≤ i ∧ B01 s.1 (wtS h M i) ∧ B01 s.2 (bdS h M b l v t i)) (Q := fun o => ∃ x, o = some (h.sbi (M + 7) t x, ()) ∧ jdV h M b l v t x) ?_ ?_ (t - 1) 1 N (0, 0) (by omega) (by omega) (by omega) ⟨Nat.le_refl _, Or.inr ⟨rfl, fun ⟨u, u1, u2, _⟩ => by omega⟩, Or.inr ⟨rfl, fun ⟨u, u1, u2, _⟩ => by omega⟩⟩
  · exact key
  · intro F s hs
    obtain ⟨_, s1, s2⟩ := hs
    have e : L_X10_judgeOne_7 N M (F + 1) h (nI t) s.1 s.2 (nI t) = some (h.sbi (M + 7) t (if s.2 = 0 then (if s.1 = 0 then 1 else 0) else 2), ()) := by
      show B_X10_judgeOne_7 N _ M h (nI t) s.1 s.2 (nI t) = _
      unfold B_X10_judgeOne_7 B_X10_judgeOne_151
      refine (if_pos (by exact (ni_le (by omega) (by omega)).mpr (by omega))).trans ?_
      rw [rd_1307 q, rx_1307 q (by omega)]
      rw [ni_clp (by omega)]
      by_cases z2 : s.2 = 0
      · rw [if_pos z2, if_pos z2]
        by_cases z1 : s.1 = 0
        · rw [if_pos z1, if_pos z1]
        · rw [if_neg z1, if_neg z1, rd_1307 q, ry_1307 q (by omega)]
      · rw [if_neg z2, if_neg z2, rd_1307 q, ry_1307 q (by omega)]
    refine ⟨_, e, ?_⟩
    rcases s2 with ⟨a1, a2⟩ | ⟨a1, a2⟩
    · rw [a1, if_neg (by decide)]
      exact Or.inl ⟨rfl, a2⟩
    · rw [a1, if_pos rfl]
      rcases s1 with ⟨b1, b2⟩ | ⟨b1, b2⟩
      · rw [b1, if_neg (by decide)]
        exact Or.inr (Or.inl ⟨rfl, a2, b2⟩)
      · rw [b1, if_pos rfl]
        exact Or.inr (Or.inr ⟨rfl, a2, b2⟩)
  · intro F i s hi hs
    obtain ⟨i1, s1, s2⟩ := hs
    left
    show ∃ s' : Int32 × Int32, (1 ≤ i + 1 ∧ B01 s'.1 (wtS h M (i + 1)) ∧ B01 s'.2 (bdS h M b l v t (i + 1))) ∧ L_X10_judgeOne_7 N M (F + 1) h (nI t) s.1 s.2 (nI i) = L_X10_judgeOne_7 N M F h (nI t) s'.1 s'.2 (nI (i + 1))
    have body : L_X10_judgeOne_7 N M (F + 1) h (nI t) s.1 s.2 (nI i) = if h.bi (M + 2) i = 0 then (if h.bi (M + 1) i = 1 then B_X10_judgeOne_53 N (L_X10_judgeOne_7 N M F) M h (nI t) s.1 s.2 (nI i) else if h.bi (M + 5) t ≤ h.bi (M + 6) i then B_X10_judgeOne_53 N (L_X10_judgeOne_7 N M F) M h (nI t) s.1 s.2 (nI i) else L_X10_judgeOne_7 N M F h (nI t) s.1 s.2 (nI (i + 1))) else L_X10_judgeOne_7 N M F h (nI t) s.1 s.2 (nI (i + 1)) := by
      show B_X10_judgeOne_7 N (L_X10_judgeOne_7 N M F) M h (nI t) s.1 s.2 (nI i) = _
      unfold B_X10_judgeOne_7 B_X10_judgeOne_123
      refine (if_neg (by exact fun z => by rw [ni_le (by omega) (by omega)] at z; omega)).trans ?_
      rw [rd_1302 q, rx_1302 q (by omega), rd_1301 q, rx_1301 q (by omega), rd_1306 q, rx_1306 q (by omega), rd_1305 q, rx_1305 q (by omega)]
      rw [ni_clp (by omega), ni_clp (by omega), ni_inc]
    have skip : ¬ (h.bi (M + 2) i = 0 ∧ (h.bi (M + 1) i = 1 ∨ h.bi (M + 5) t ≤ h.bi (M + 6) i)) → 1 ≤ i + 1 ∧ B01 s.1 (wtS h M (i + 1)) ∧ B01 s.2 (bdS h M b l v t (i + 1)) := by
      intro z
      refine ⟨by omega, s1.con ?_, s2.con ?_⟩
      · rw [wtS.up i1]
        exact ⟨Or.inl, fun y => y.elim id (fun y => absurd ⟨y.1, Or.inl y.2⟩ z)⟩
      · rw [bdS.up i1]
        exact ⟨Or.inl, fun y => y.elim id (fun y => absurd ⟨y.1, Or.inr y.2.2.1⟩ z)⟩
    have s1' : ∀ z1 : h.bi (M + 2) i = 0, ∃ y, B01 y (wtS h M (i + 1)) ∧ B_X10_judgeOne_53 N (L_X10_judgeOne_7 N M F) M h (nI t) s.1 s.2 (nI i) = B_X10_judgeOne_73 N (L_X10_judgeOne_7 N M F) M h (nI t) s.2 (nI i) y := by
      intro z1
      unfold B_X10_judgeOne_53 B_X10_judgeOne_68
      rw [rd_1301 q, rx_1301 q (by omega)]
      rw [ni_clp (by omega)]
      rcases s1 with ⟨b1, b2⟩ | ⟨b1, b2⟩
      · refine ⟨1, Or.inl ⟨rfl, (wtS.up i1).mpr (Or.inl b2)⟩, ?_⟩
        rw [b1, if_neg (by decide)]
      · rw [b1, if_pos rfl]
        by_cases z2 : h.bi (M + 1) i = 1
        · rw [if_pos z2]
          exact ⟨1, Or.inl ⟨rfl, (wtS.up i1).mpr (Or.inr ⟨z1, z2⟩)⟩, rfl⟩
        · rw [if_neg z2]
          exact ⟨0, Or.inr ⟨rfl, fun y => ((wtS.up i1).mp y).elim b2 (fun y => z2 y.2)⟩, rfl⟩
    have s2' : ∀ y (z1 : h.bi (M + 2) i = 0) (z2 : h.bi (M + 1) i = 1 ∨ h.bi (M + 5) t ≤ h.bi (M + 6) i), ∃ x, B01 x (bdS h M b l v t (i + 1)) ∧ B_X10_judgeOne_73 N (L_X10_judgeOne_7 N M F) M h (nI t) s.2 (nI i) y = L_X10_judgeOne_7 N M F h (nI t) y x (nI (i + 1)) := by
      intro y z1 z2
      have tail : ∀ o : Int32, B_X10_judgeOne_95 N (L_X10_judgeOne_7 N M F) M h (nI t) y s.2 (nI i) o = L_X10_judgeOne_7 N M F h (nI t) y (if s.2 = 0 then (if o = 0 then 0 else if h.bi (M + 3) t < o then 0 else 1) else 1) (nI (i + 1)) := by
        intro o
        unfold B_X10_judgeOne_95 B_X10_judgeOne_121 B_X10_judgeOne_117 B_X10_judgeOne_122 B_X10_judgeOne_123
        rw [rd_1303 q, rx_1303 q (by omega)]
        rw [ni_clp (by omega), ni_inc]
        by_cases c1 : s.2 = 0
        · rw [if_pos c1, if_pos c1]
          by_cases c2 : o = 0
          · rw [if_pos c2, if_pos c2]
          · rw [if_neg c2, if_neg c2]
            by_cases c3 : h.bi (M + 3) t < o
            · rw [if_pos c3, if_pos c3]
            · rw [if_neg c3, if_neg c3]
        · rw [if_neg c1, if_neg c1]
      have fin : ∀ o : Int32, (bdC h M b l v t i ↔ (o ≠ 0 ∧ o ≤ h.bi (M + 3) t)) → B01 (if s.2 = 0 then (if o = 0 then 0 else if h.bi (M + 3) t < o then 0 else 1) else 1) (bdS h M b l v t (i + 1)) := by
        intro o ho
        rcases s2 with ⟨a1, a2⟩ | ⟨a1, a2⟩
        · rw [a1, if_neg (by decide)]
          exact Or.inl ⟨rfl, (bdS.up i1).mpr (Or.inl a2)⟩
        · rw [a1, if_pos rfl]
          have no : ¬ (o ≠ 0 ∧ o ≤ h.bi (M + 3) t) → ¬ bdS h M b l v t (i + 1) := fun z y => ((bdS.up i1).mp y).elim a2 (fun y => z (ho.mp y))
          by_cases c2 : o = 0
          · rw [if_pos c2]
            exact Or.inr ⟨rfl, no (fun z => z.1 c2)⟩
          · rw [if_neg c2]
            by_cases c3 : h.bi (M + 3) t < o
            · rw [if_pos c3]
              refine Or.inr ⟨rfl, no (fun z => ?_)⟩
              have := z.2
              rw [Int32.le_iff_toInt_le] at this
              rw [Int32.lt_iff_toInt_lt] at c3
              omega
            · rw [if_neg c3]
              refine Or.inl ⟨rfl, (bdS.up i1).mpr (Or.inr (ho.mpr ⟨c2, ?_⟩))⟩
              rw [Int32.le_iff_toInt_le]
              rw [Int32.lt_iff_toInt_lt] at c3
              omega
      unfold B_X10_judgeOne_73
      rw [rd_1301 q, rx_1301 q (by omega)]
      rw [ni_clp (by omega)]
      by_cases c1 : h.bi (M + 1) i = 2
      · rw [if_pos c1]
        obtain ⟨o, e1, e2⟩ := rf_outOf q n N hN pos (a := i) (by omega)
        refine ⟨_, fin o ?_, ?_⟩
        · constructor
          · rintro ⟨_, _, _, x, y1, y2, y3⟩
            rw [y1.uniq e2] at y2 y3
            exact ⟨y2, y3⟩
          · intro y
            exact ⟨z1, c1, z2.resolve_left (fun e => by rw [c1] at e; exact absurd e (by decide)), o, e2, y⟩
        · refine (bnd (by exact e1)).trans ?_
          exact tail o
      · rw [if_neg c1]
        refine ⟨_, fin 0 ?_, tail 0⟩
        exact ⟨fun y => absurd y.2.1 c1, fun y => absurd rfl y.1⟩
    have go : h.bi (M + 2) i = 0 → (h.bi (M + 1) i = 1 ∨ h.bi (M + 5) t ≤ h.bi (M + 6) i) → ∃ s' : Int32 × Int32, (1 ≤ i + 1 ∧ B01 s'.1 (wtS h M (i + 1)) ∧ B01 s'.2 (bdS h M b l v t (i + 1))) ∧ B_X10_judgeOne_53 N (L_X10_judgeOne_7 N M F) M h (nI t) s.1 s.2 (nI i) = L_X10_judgeOne_7 N M F h (nI t) s'.1 s'.2 (nI (i + 1)) := by
      intro z1 z2
      obtain ⟨y, y1, y2⟩ := s1' z1
      obtain ⟨x, x1, x2⟩ := s2' y z1 z2
      exact ⟨(y, x), ⟨by omega, y1, x1⟩, y2.trans x2⟩
    rw [body]
    by_cases z1 : h.bi (M + 2) i = 0
    · rw [if_pos z1]
      by_cases z2 : h.bi (M + 1) i = 1
      · rw [if_pos z2]
        exact go z1 (Or.inl z2)
      · rw [if_neg z2]
        by_cases z3 : h.bi (M + 5) t ≤ h.bi (M + 6) i
        · rw [if_pos z3]
          exact go z1 (Or.inr z3)
        · rw [if_neg z3]
          exact ⟨s, skip (fun y => y.2.elim z2 z3), rfl⟩
    · rw [if_neg z1]
      exact ⟨s, skip (fun y => z1 y.1), rfl⟩
end RF4
