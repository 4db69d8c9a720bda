/-! scan: its row, and the whole call -/
section RF24
variable {h : Hp} {M b c w l v k r : Nat}
def scn1 (h : Hp) (M k : Nat) (z most n x : Int32) : Hp := (((h.sbi (M + 26) k z).sbi (M + 27) k most).sbi (M + 29) k n).sbi (M + 32) k x
theorem scn1.ro {z most n x : Int32} : RfO [26, 27, 29, 32] [] M h (scn1 h M k z most n x) := (((RfO.sbi (k := 26) (by decide) _ _).tr (RfO.sbi (k := 27) (by decide) _ _)).tr (RfO.sbi (k := 29) (by decide) _ _)).tr (RfO.sbi (k := 32) (by decide) _ _)
theorem scn1.a {z most n x : Int32} (j : Nat) : (scn1 h M k z most n x).bi (M + 26) j = (if j = k then z else h.bi (M + 26) j) ∧ (scn1 h M k z most n x).bi (M + 27) j = (if j = k then most else h.bi (M + 27) j) ∧ (scn1 h M k z most n x).bi (M + 29) j = (if j = k then n else h.bi (M + 29) j) ∧ (scn1 h M k z most n x).bi (M + 32) j = (if j = k then x else h.bi (M + 32) j) := by
  unfold scn1
  refine ⟨?_, ?_, ?_, ?_⟩
  · rw [bi_oth (by omega), bi_oth (by omega), bi_oth (by omega), bi_at]
  · rw [bi_oth (by omega), bi_oth (by omega), bi_at, bi_oth (by omega)]
  · rw [bi_oth (by omega), bi_at, bi_oth (by omega), bi_oth (by omega)]
  · rw [bi_at, bi_oth (by omega), bi_oth (by omega), bi_oth (by omega)]
def scn2 (h : Hp) (M r n : Nat) : Hp := ((h.sgi 1345 M (nI r)).sgi 1346 M (nI n)).sgi 1342 M (nI (r + n))
theorem scn2.ro {n : Nat} : RfO [] [1342, 1345, 1346] M h (scn2 h M r n) := ((RfO.sgi (by decide) _).tr (RfO.sgi (by decide) _)).tr (RfO.sgi (by decide) _)
theorem scn2.g {n : Nat} : (scn2 h M r n).gi 1345 M = nI r ∧ (scn2 h M r n).gi 1346 M = nI n ∧ (scn2 h M r n).gi 1342 M = nI (r + n) := by
  unfold scn2
  refine ⟨?_, ?_, gi_same⟩
  · rw [gi_oth (by decide), gi_oth (by decide), gi_same]
  · rw [gi_oth (by decide), gi_same]
def tS4 (N M : Nat) (h : Hp) (x5 y0 : Int32) : Option (Hp × Int32) := dr h 30 (h.gr 1338 M) (fun a17 => ck (¬ (y0 < 0 ∨ h.al a17 ≤ y0.toNatClampNeg)) (B_X10_scan_237 N M (h.sbi a17 y0.toNatClampNeg (h.gi 1342 M)) x5))
def tS3 (N M : Nat) (h : Hp) (x5 y0 : Int32) : Option (Hp × Int32) := dr h 30 (h.gr 1335 M) (fun a15 => ck (¬ (y0 < 0 ∨ h.al a15 ≤ y0.toNatClampNeg)) (tS4 N M (h.sbi a15 y0.toNatClampNeg x5) x5 y0))
def tS2 (N M : Nat) (h : Hp) (x4 x5 y0 : Int32) : Option (Hp × Int32) := dr h 30 (h.gr 1333 M) (fun a13 => ck (¬ (y0 < 0 ∨ h.al a13 ≤ y0.toNatClampNeg)) (tS3 N M (h.sbi a13 y0.toNatClampNeg x4) x5 y0))
theorem tS_cut (N M : Nat) (h : Hp) (x3 x4 x5 y0 : Int32) : B_X10_scan_198 N M h x3 x4 x5 y0 = dr h 30 (h.gr 1332 M) (fun a11 => ck (¬ (y0 < 0 ∨ h.al a11 ≤ y0.toNatClampNeg)) (tS2 N M (h.sbi a11 y0.toNatClampNeg x3) x4 x5 y0)) := by
  unfold B_X10_scan_198 tS2 tS3 tS4
  rfl
theorem tS4_eq (q : Rk h M) (N : Nat) {k n : Nat} (hk : k < 514) (er : h.gi 1342 M = nI r) : tS4 N M h (nI n) (nI k) = some (scn2 (h.sbi (M + 32) k (nI r)) M r n, nI n) := by
  unfold tS4 B_X10_scan_237 scn2
  rw [rd_1338 q, rx_1338 q hk, ni_clp (show k < _ by omega), er, pj_sbi_gi, er, gi_oth (by decide), gi_oth (by decide), pj_sbi_gi, er, show nI r + nI n = nI (r + n) from nI_add _ _]
theorem tS3_eq (q : Rk h M) (N : Nat) {k : Nat} (hk : k < 514) (x5 : Int32) : tS3 N M h x5 (nI k) = tS4 N M (h.sbi (M + 29) k x5) x5 (nI k) := by
  unfold tS3
  rw [rd_1335 q, rx_1335 q hk, ni_clp (show k < _ by omega)]
theorem tS2_eq (q : Rk h M) (N : Nat) {k : Nat} (hk : k < 514) (x4 x5 : Int32) : tS2 N M h x4 x5 (nI k) = tS3 N M (h.sbi (M + 27) k x4) x5 (nI k) := by
  unfold tS2
  rw [rd_1333 q, rx_1333 q hk, ni_clp (show k < _ by omega)]
theorem rf_sc198 (q : Rk h M) (er : h.gi 1342 M = nI r) (N : Nat) {k : Nat} (hk : k < 514) (z most : Int32) (n : Nat) : B_X10_scan_198 N M h z most (nI n) (nI k) = some (scn2 (scn1 h M k z most (nI n) (nI r)) M r n, nI n) := by
  rw [tS_cut, rd_1332 q, rx_1332 q hk, ni_clp (show k < _ by omega)]
  have q2 := q.sbi (M + 26) k z
  have q3 := q2.sbi (M + 27) k most
  have q4 := q3.sbi (M + 29) k (nI n)
  refine (tS2_eq q2 N hk most (nI n)).trans ((tS3_eq q3 N hk (nI n)).trans ((tS4_eq q4 N hk (r := r) ?_).trans ?_))
  · rw [pj_sbi_gi, pj_sbi_gi, pj_sbi_gi]; exact er
  · unfold scn1
    rfl
/-- what scan answers and leaves, once t is at work and the numbers are good -/
def ScaR (h : Hp) (M b w l v k r t : Nat) (a z : Int32) (most : Nat) (h' : Hp) (y : Int32) : Prop := ∃ h1 m i s n, GkR h M w m h1 ∧ i ≤ m ∧ ScI h1 M w v r t (h1.bi (M + 35)) a z most i s ∧ s.2.1 = nI n ∧ n ≤ most ∧ n ≤ i ∧ (n = most ∨ i = m) ∧ ((LooR s.1 M b l v t a s.2.2 h' 0 ∧ y = -1) ∨ ∃ h3, LooR s.1 M b l v t a s.2.2 h3 1 ∧ h' = scn2 (scn1 (logH h3 M k 4 (nI t) a) M k z (nI most) (nI n) (nI r)) M r n ∧ y = nI n)
theorem cntQ_le (P : Nat → Prop) (n : Nat) : cntQ P n ≤ n := by
  induction n with
  | zero => exact Nat.le_refl _
  | succ n ih =>
    have cs : cntQ P (n + 1) = cntQ P n + @ite Nat (P n) (Classical.propDecidable _) 1 0 := rfl
    by_cases z : P n
    · rw [if_pos z] at cs; omega
    · rw [if_neg z] at cs; omega
theorem rf_scan1 (q : Rk h M) (n : Rn h M b c w l v k r) (N : Nat) (hN : 1000 < N) (g : VtOk h M b v) (B : WvB h M w v) (hl : l < 512) (hk : k < 512) (pos : ∀ u, 1 ≤ u → u ≤ b → h.bi (M + 1) u = 2 → 0 < h.bi (M + 4) u) {t : Nat} (t1 : 1 ≤ t) (ht : t ≤ b) (ac : h.bi (M + 1) t = 1) {a z : Int32} (haz : ¬ z < a) {most : Nat} (m1 : 1 ≤ most) (m2 : most ≤ 100) : ∃ h' y, B_X10_scan_15 N M h (nI t) a z (nI most) 0 = some (h', y) ∧ ScaR h M b w l v k r t a z most h' y := by
  have hb := n.2.2.2.2.2.2.2.1
  have hw := n.2.2.2.2.2.2.2.2.2.1
  obtain ⟨h1, m, gk1, gk⟩ := rf_gatherKeys q n N hN
  have f1 := gk.1
  have mw := gk.2.2.1
  obtain ⟨i, s, im, e1, sc, fin⟩ := rf_scn (f1.rk q) (f1.rn n (by decide)) N hN (g.con f1 (by decide)) (B.con f1 (by decide) (by decide)) (t := t) (by omega) gk.2.1 (by omega) m1 m2 a z
  obtain ⟨f2, d, d1, d2, d3, d4, d5⟩ := id sc
  have q2 := f2.rk (f1.rk q)
  have n2 := f2.rn (f1.rn n (by decide)) (by decide)
  have g2 : VtOk s.1 M b v := (g.con f1 (by decide)).con f2 (by decide)
  have e1' : s.1.bi (M + 1) = h.bi (M + 1) := (f2.bi (by decide)).trans (f1.bi (by decide))
  have e4' : s.1.bi (M + 4) = h.bi (M + 4) := (f2.bi (by decide)).trans (f1.bi (by decide))
  have dm : d ≤ most := by rcases d5 with y | y <;> omega
  have di : d ≤ i := by rw [d2]; exact cntQ_le _ _
  have fin' : d = most ∨ i = m := fin.imp (fun y => (ni_inj (by omega) (by omega)).mp (d1.symm.trans y)) id
  have st : ∀ {y : Option (Hp × Int32)}, B_X10_scan_178 N M s.1 (nI t) a z (nI most) s.2.1 s.2.2 = y → B_X10_scan_15 N M h (nI t) a z (nI most) 0 = y := by
    intro y hy
    unfold B_X10_scan_15
    rw [if_pos rfl, if_neg haz, if_neg (by rw [ni_lt1 (by omega)]; omega), if_pos (show nI most ≤ 100 from (ni_le (b := 100) (by omega) (by omega)).mpr m2)]
    refine (bnd (by exact gk1)).trans ?_
    unfold B_X10_scan_49
    exact e1.trans hy
  obtain ⟨hL, y, l1, l2⟩ := rf_looks q2 n2 N hN g2 hl (by rw [e1', e4']; exact pos) t1 ht (by rw [e1']; exact ac) a s.2.2
  have st2 : ∀ {y' : Option (Hp × Int32)}, B_X10_scan_186 N M hL (nI t) a z (nI most) s.2.1 y = y' → B_X10_scan_15 N M h (nI t) a z (nI most) 0 = y' := by
    intro y' hy
    refine st ?_
    unfold B_X10_scan_178
    refine (bnd (by exact l1)).trans ?_
    exact hy
  have l3 := l2
  rcases l2 with ⟨y0, _⟩ | ⟨y1, _, p⟩
  · rw [y0] at l3
    refine ⟨hL, -1, st2 ?_, h1, m, i, s, d, gk, im, sc, d1, dm, di, fin', Or.inl ⟨l3, rfl⟩⟩
    unfold B_X10_scan_186
    exact if_pos y0
  · rw [y1] at l3
    have fl := lokH.ro (h := s.1) (M := M) (l := l) (t := nI t) (a := a) (z := s.2.2)
    have fp := p.1
    have qL := fp.rk (fl.rk q2)
    have nL := fp.rn (lokH.rn n2 hl) (fun _ _ z => by cases z)
    have fg := logH.ro (h := hL) (M := M) (k := k) (kind := 4) (t := nI t) (key := a)
    refine ⟨_, nI d, st2 ?_, h1, m, i, s, d, gk, im, sc, d1, dm, di, fin', Or.inr ⟨hL, l3, rfl, rfl⟩⟩
    unfold B_X10_scan_186
    rw [y1, if_neg (show ¬ (1 : Int32) = 0 by decide), d1]
    refine (bnd (by exact rf_log qL nL N 4 (nI t) a)).trans ?_
    exact rf_sc198 (fg.rk qL) (logH.rn nL hk).2.2.2.2.2.2.1 N (show k < 514 by omega) z (nI most) d
theorem rf_scanX (q : Rk h M) (n : Rn h M b c w l v k r) (N : Nat) {x : Int32} (a z most : Int32) (no : ¬ actT h M b x) : J_X10_scan N M h x a z most = some (tk h M 1, 0) := by
  rcases rf_enter q n N x with ⟨y, _⟩ | ⟨_, e⟩
  · exact absurd y no
  · unfold J_X10_scan B_X10_scan_0
    refine (bnd (by exact e)).trans ?_
    unfold B_X10_scan_15
    exact if_neg (by show ¬ (1 : Int32) = 0; decide)
theorem rf_scanT (q : Rk h M) (n : Rn h M b c w l v k r) (N : Nat) (a z most : Int32) {t : Nat} (h1 : 1 ≤ t) (ht : t ≤ b) (ac : h.bi (M + 1) t = 1) : J_X10_scan N M h (nI t) a z most = B_X10_scan_15 N M (tk h M 0) (nI t) a z most 0 := by
  rcases rf_enter q n N (nI t) with ⟨_, e⟩ | ⟨no, _⟩
  · unfold J_X10_scan B_X10_scan_0
    refine (bnd (by exact e)).trans ?_
    rfl
  · exact absurd ⟨t, rfl, h1, ht, ac⟩ no
theorem rf_scanR (N t : Nat) {a z most : Int32} (bad : z < a ∨ most < 1 ∨ ¬ most ≤ 100) : B_X10_scan_15 N M h (nI t) a z most 0 = some (h.sgi 1300 M 2, 0) := by
  unfold B_X10_scan_15 B_X10_scan_38
  rw [if_pos rfl]
  by_cases z1 : z < a
  · rw [if_pos z1]
  · rw [if_neg z1]
    by_cases z2 : most < 1
    · rw [if_pos z2]
    · rw [if_neg z2]
      exact if_neg (bad.elim (fun y => absurd y z1) (fun y => y.elim (fun y => absurd y z2) id))
end RF24
