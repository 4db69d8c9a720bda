/-! told, keptMany, versionMany, count -/
section RF27
variable {h : Hp} {M b c w l v k r : Nat}
/-- what told tells of one that is told of -/
def tolA (h : Hp) (M b w l v t : Nat) (what y : Int32) : Prop := if what = 1 then y = h.bi (M + 3) t else if what = 2 then y = h.bi (M + 4) t else if what = 3 then outS h M l v t (b + 1) y else if what = 4 then y = (if h.bi (M + 8) t = 0 then 0 else 1) else if what = 5 then y = nI (cntQ (lstW h M w t) w) else if what = 6 then runS h M l t y else if what = 7 then y = (if h.bi (M + 2) t = 0 then 0 else h.bi (M + 7) t + 1) else if what = 8 then y = h.bi (M + 9) t else y = -1
theorem rf_told51 (q : Rk h M) (n : Rn h M b c w l v k r) (N : Nat) (hN : 1000 < N) (pos : ∀ u, 1 ≤ u → u ≤ b → h.bi (M + 1) u = 2 → 0 < h.bi (M + 4) u) (lo : LkOk h M l) {t : Nat} (ht : t < 514) (what : Int32) : ∃ h' y, B_X10_told_51 N M h (nI t) what = some (h', y) ∧ RfO [36, 37] [] M h h' ∧ tolA h M b w l v t what y := by
  have rf := RfO.rf [36, 37] [] M h
  unfold B_X10_told_51 tolA
  rw [rd_1303 q, rx_1303 q ht, rd_1304 q, rx_1304 q ht, rd_1308 q, rx_1308 q ht, rd_1302 q, rx_1302 q ht, rd_1307 q, rx_1307 q ht, rd_1309 q, rx_1309 q ht, ni_clp (show t < _ by omega)]
  by_cases z1 : what = 1
  · rw [if_pos z1]
    refine ⟨_, _, rfl, rf, ?_⟩
    rw [if_pos z1]
  rw [if_neg z1]
  by_cases z2 : what = 2
  · rw [if_pos z2]
    refine ⟨_, _, rfl, rf, ?_⟩
    rw [if_neg z1, if_pos z2]
  rw [if_neg z2]
  by_cases z3 : what = 3
  · rw [if_pos z3]
    obtain ⟨x, e1, e2⟩ := rf_outOf q n N hN pos ht
    refine ⟨h, x, ?_, rf, ?_⟩
    · refine (bnd (by exact e1)).trans ?_
      rfl
    · rw [if_neg z1, if_neg z2, if_pos z3]
      exact e2
  rw [if_neg z3]
  by_cases z4 : what = 4
  · rw [if_pos z4]
    refine ⟨h, (if h.bi (M + 8) t = 0 then 0 else 1), ?_, rf, ?_⟩
    · unfold B_X10_told_134
      by_cases y : h.bi (M + 8) t = 0
      · rw [if_pos y, if_pos y]
      · rw [if_neg y, if_neg y]
    · rw [if_neg z1, if_neg z2, if_neg z3, if_pos z4]
  rw [if_neg z4]
  by_cases z5 : what = 5
  · rw [if_pos z5]
    refine ⟨h, nI (cntQ (lstW h M w t) w), ?_, rf, ?_⟩
    · refine (bnd (by exact rf_wroteMany q n N hN t)).trans ?_
      rfl
    · rw [if_neg z1, if_neg z2, if_neg z3, if_neg z4, if_pos z5]
  rw [if_neg z5]
  by_cases z6 : what = 6
  · rw [if_pos z6]
    obtain ⟨h', x, e1, e2, e3⟩ := rf_runsOf q n N hN lo ht
    refine ⟨h', x, ?_, e2, ?_⟩
    · refine (bnd (by exact e1)).trans ?_
      rfl
    · rw [if_neg z1, if_neg z2, if_neg z3, if_neg z4, if_neg z5, if_pos z6]
      exact e3
  rw [if_neg z6]
  by_cases z7 : what = 7
  · rw [if_pos z7]
    refine ⟨h, (if h.bi (M + 2) t = 0 then 0 else h.bi (M + 7) t + 1), ?_, rf, ?_⟩
    · unfold B_X10_told_168
      by_cases y : h.bi (M + 2) t = 0
      · rw [if_pos y, if_pos y]
      · rw [if_neg y, if_neg y]
    · rw [if_neg z1, if_neg z2, if_neg z3, if_neg z4, if_neg z5, if_neg z6, if_pos z7]
  rw [if_neg z7]
  by_cases z8 : what = 8
  · rw [if_pos z8]
    refine ⟨_, _, rfl, rf, ?_⟩
    rw [if_neg z1, if_neg z2, if_neg z3, if_neg z4, if_neg z5, if_neg z6, if_neg z7, if_pos z8]
  · rw [if_neg z8]
    refine ⟨_, _, rfl, rf, ?_⟩
    rw [if_neg z1, if_neg z2, if_neg z3, if_neg z4, if_neg z5, if_neg z6, if_neg z7, if_neg z8]
/-- what told answers -/
def TolR (h : Hp) (M b c w l v : Nat) (x what y : Int32) : Prop := ((¬ ∃ t, x = nI t ∧ 1 ≤ t ∧ t ≤ b) ∧ y = -1) ∨ ∃ t, x = nI t ∧ 1 ≤ t ∧ t ≤ b ∧ ((what = 0 ∧ y = h.bi (M + 1) t) ∨ (what ≠ 0 ∧ ((h.bi (M + 1) t ≠ 1 ∧ ¬ keptT h M b c t ∧ y = -1) ∨ ((h.bi (M + 1) t = 1 ∨ keptT h M b c t) ∧ tolA h M b w l v t what y))))
theorem rf_told (q : Rk h M) (n : Rn h M b c w l v k r) (N : Nat) (hN : 1000 < N) (pos : ∀ u, 1 ≤ u → u ≤ b → h.bi (M + 1) u = 2 → 0 < h.bi (M + 4) u) (lo : LkOk h M l) (x what : Int32) : ∃ h' y, J_X10_told N M h x what = some (h', y) ∧ RfO [36, 37] [1300] M h h' ∧ h'.gi 1300 M = 0 ∧ TolR h M b c w l v x what y := by
  have hb := n.2.2.2.2.2.2.2.1
  have f : RfO [36, 37] [1300] M h (h.sgi 1300 M 0) := RfO.sgi (by decide) _
  have q' := f.rk q
  have n' := f.rn n (by decide)
  have g0 : (h.sgi 1300 M 0).gi 1300 M = 0 := gi_same
  unfold J_X10_told B_X10_told_0 B_X10_told_18
  rw [n'.1]
  by_cases z1 : x < 1
  · rw [if_pos z1]
    refine ⟨_, _, rfl, f, g0, Or.inl ⟨fun ⟨t, e, h1, h2⟩ => ?_, rfl⟩⟩
    rw [e, ni_lt1 (by omega)] at z1
    omega
  · rw [if_neg z1]
    by_cases z2 : x ≤ nI b
    · rw [if_pos z2]
      have tb : x.toInt.toNat ≤ b ∧ 1 ≤ x.toInt.toNat := by
        rw [Int32.lt_iff_toInt_lt, i1] at z1
        rw [Int32.le_iff_toInt_le, nI_toInt (by omega)] at z2
        omega
      have e : x = nI x.toInt.toNat := ni_of (by rw [Int32.lt_iff_toInt_lt, i1] at z1; omega)
      generalize x.toInt.toNat = t at e tb
      rw [e, rd_1301 q', rx_1301 q' (show t < 514 by omega), rd_1301 q', rx_1301 q' (show t < 514 by omega), ni_clp (show t < _ by omega), pj_sgi_bi]
      by_cases z3 : what = 0
      · rw [if_pos z3]
        exact ⟨_, _, rfl, f, g0, Or.inr ⟨t, rfl, tb.2, tb.1, Or.inl ⟨z3, rfl⟩⟩⟩
      · rw [if_neg z3]
        obtain ⟨h', y, e1, e2, e3⟩ := rf_told51 q' n' N hN pos lo (show t < 514 by omega) what
        have f2 : RfO [36, 37] [1300] M h h' := f.tr (e2.mono (fun _ z => z) (fun _ z => by cases z))
        have g2 : h'.gi 1300 M = 0 := (e2.gi (fun z => by cases z)).trans g0
        by_cases z4 : h.bi (M + 1) t = 1
        · rw [if_pos z4]
          exact ⟨h', y, e1, f2, g2, Or.inr ⟨t, rfl, tb.2, tb.1, Or.inr ⟨z3, Or.inr ⟨Or.inl z4, e3⟩⟩⟩⟩
        · rw [if_neg z4]
          obtain ⟨x2, d1, d2⟩ := rf_isKept q' n' N hN (show t < 514 by omega)
          have st : ∀ {y : Option (Hp × Int32)}, B_X10_told_46 N M (h.sgi 1300 M 0) (nI t) what x2 = y → (J_X10_isKept N M (h.sgi 1300 M 0) (nI t)).bind (fun z => B_X10_told_46 N M z.1 (nI t) what z.2) = y := fun hz => (bnd d1).trans hz
          rcases d2 with ⟨y1, y2⟩ | ⟨y1, y2⟩
          · refine ⟨h', y, st ?_, f2, g2, Or.inr ⟨t, rfl, tb.2, tb.1, Or.inr ⟨z3, Or.inr ⟨Or.inr y2, e3⟩⟩⟩⟩
            unfold B_X10_told_46
            rw [y1, if_neg (show ¬ (1 : Int32) = 0 by decide)]
            exact e1
          · refine ⟨_, -1, st ?_, f, g0, Or.inr ⟨t, rfl, tb.2, tb.1, Or.inr ⟨z3, Or.inl ⟨z4, y2, rfl⟩⟩⟩⟩
            unfold B_X10_told_46
            exact if_pos y1
    · rw [if_neg z2]
      refine ⟨_, _, rfl, f, g0, Or.inl ⟨fun ⟨t, e, h1, h2⟩ => ?_, rfl⟩⟩
      rw [e, ni_le (by omega) (by omega)] at z2
      omega
end RF27
