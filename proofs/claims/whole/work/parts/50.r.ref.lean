/-! near, horizon, isKept -/
section RF18
variable {h : Hp} {M b c w l v k r : Nat}
/-- the end of what a near call looks at -/
def nearE (A : Nat → Int32) (up x : Int32) : Int32 := if x = -1 then (if up = 0 then -2147483648 else 2147483647) else A x.toNatClampNeg
/-- what near does once it has looked -/
def Nea2 (h : Hp) (M w v k t : Nat) (key up x e : Int32) (h' : Hp) (y : Int32) : Prop := (x = -1 ∧ h' = logH h M k (if up = 0 then 3 else 2) (nI t) key ∧ y = h.bi (M + 29) k) ∨ (x ≠ -1 ∧ ∃ h1 z, SeeR (logH h M k (if up = 0 then 3 else 2) (nI t) key) M w v t e h1 z ∧ h' = fndH h1 M k e (h1.gl 1351 M) ∧ y = 1)
theorem rf_near99 (q : Rk h M) (n : Rn h M b c w l v k r) (N : Nat) (hN : 1000 < N) (g : VtOk h M b v) (B : WvB h M w v) (hk : k < 512) {t : Nat} (ht : t < 514) (key up x e : Int32) : ∃ h' y, B_X10_near_84 N M h (nI t) key up x e 1 = some (h', y) ∧ Nea2 h M w v k t key up x e h' y := by
  have kd : ∀ {z : Option (Hp × Int32)}, B_X10_near_99 N M h (nI t) key x e (some M) (if up = 0 then 3 else 2) = z → B_X10_near_84 N M h (nI t) key up x e 1 = z := by
    intro z hz
    unfold B_X10_near_84
    refine (if_neg (by decide)).trans ?_
    by_cases u : up = 0
    · rw [if_pos u] at hz ⊢; exact hz
    · rw [if_neg u] at hz ⊢; exact hz
  unfold Nea2
  generalize (if up = 0 then 3 else 2 : Int32) = kind at kd ⊢
  have f := logH.ro (h := h) (M := M) (k := k) (kind := kind) (t := nI t) (key := key)
  have qf := f.rk q
  have st : ∀ {z : Option (Hp × Int32)}, B_X10_near_104 N M (logH h M k kind (nI t) key) (nI t) x e (nI k) = z → B_X10_near_84 N M h (nI t) key up x e 1 = z := by
    intro z hz
    refine kd ?_
    unfold B_X10_near_99
    refine (dr_e (by exact rfl) (by exact q.1)).trans ?_
    refine (bnd (by exact rf_log q n N kind (nI t) key)).trans ?_
    exact hz
  by_cases z : x = -1
  · refine ⟨_, h.bi (M + 29) k, st ?_, Or.inl ⟨z, rfl, rfl⟩⟩
    unfold B_X10_near_104 B_X10_near_133
    refine (if_pos (by exact z)).trans ?_
    rw [rd_1335 qf, rx_1335 qf (by omega), ni_clp (by omega), f.bi (by decide)]
  · obtain ⟨h1, y, e1, e2⟩ := rf_sees qf (logH.rn n hk) N hN (g.con f (by decide)) (B.con f (by decide) (by decide)) ht e
    have q1 := e2.ro.rk qf
    have q2 : Rk (fndH h1 M k e (h1.gl 1351 M)) M := fndH.ro.rk q1
    refine ⟨_, 1, st ?_, Or.inr ⟨z, h1, y, e2, rfl, rfl⟩⟩
    unfold B_X10_near_104
    refine (if_neg (by exact z)).trans ?_
    refine (bnd (by exact e1)).trans ?_
    unfold B_X10_near_119
    refine (bnd (by exact rf_found q1 N (show k < 514 by omega) e (h1.gl 1351 M))).trans ?_
    unfold B_X10_near_133
    rw [rd_1335 q2, rx_1335 q2 (by omega), ni_clp (by omega), fndH.ans]
/-- what near answers and leaves, once t is at work -/
def NeaR (h : Hp) (M b w l v k t : Nat) (key up : Int32) (h' : Hp) (y : Int32) : Prop := ∃ h1 m h2 x e, GkR h M w m h1 ∧ RfO [] [1351] M h1 h2 ∧ NeaS h M w v t (h1.bi (M + 35)) key up m x ∧ e = nearE (h1.bi (M + 35)) up x ∧ ((LooR h2 M b l v t (if up = 0 then e else key) (if up = 0 then key else e) h' 0 ∧ y = -1) ∨ ∃ h3, LooR h2 M b l v t (if up = 0 then e else key) (if up = 0 then key else e) h3 1 ∧ Nea2 h3 M w v k t key up x e h' y)
theorem rf_near1 (q : Rk h M) (n : Rn h M b c w l v k r) (N : Nat) (hN : 1000 < N) (g : VtOk h M b v) (B : WvB h M w v) (hl : l < 512) (hk : k < 512) (pos : ∀ u, 1 ≤ u → u ≤ b → h.bi (M + 1) u = 2 → 0 < h.bi (M + 4) u) {t : Nat} (t1 : 1 ≤ t) (ht : t ≤ b) (ac : h.bi (M + 1) t = 1) (key up : Int32) : ∃ h' y, B_X10_near_15 N M h (nI t) key up 0 = some (h', y) ∧ NeaR h M b w l v k t key up h' y := by
  have hb := n.2.2.2.2.2.2.2.1
  have hw := n.2.2.2.2.2.2.2.2.2.1
  obtain ⟨h1, m, h2, x, e1, gk, f2, ns⟩ := rf_nearest q n N hN g B (t := t) (by omega) key up
  have f1 := gk.1
  have q2 := f2.rk (f1.rk q)
  have n2 := f2.rn (f1.rn n (by decide)) (by decide)
  have g2 : VtOk h2 M b v := (g.con f1 (by decide)).con f2 (by decide)
  have B2 : WvB h2 M w v := (B.con f1 (by decide) (by decide)).con f2 (by decide) (by decide)
  have e1' : h2.bi (M + 1) = h.bi (M + 1) := (f2.bi (by decide)).trans (f1.bi (by decide))
  have e4' : h2.bi (M + 4) = h.bi (M + 4) := (f2.bi (by decide)).trans (f1.bi (by decide))
  have e35 : h2.bi (M + 35) = h1.bi (M + 35) := f2.bi (by decide)
  have xs : x = -1 ∨ ∃ i, i < m ∧ x = nI i := by
    by_cases u : up = 0
    · rcases ns.1 u with ⟨a, _⟩ | ⟨i, a1, a2, _⟩
      · exact Or.inl a
      · exact Or.inr ⟨i, a1, a2⟩
    · rcases ns.2 u with ⟨a, _⟩ | ⟨i, a1, a2, _⟩
      · exact Or.inl a
      · exact Or.inr ⟨i, a1, a2⟩
  have mw := gk.2.2.1
  have st : ∀ {z : Option (Hp × Int32)}, B_X10_near_57 N M h2 (nI t) key up x (nearE (h1.bi (M + 35)) up x) = z → B_X10_near_15 N M h (nI t) key up 0 = z := by
    intro z hz
    unfold B_X10_near_15
    refine (if_pos (by rfl)).trans ?_
    refine (bnd (by exact e1)).trans ?_
    show B_X10_near_27 N M h2 (nI t) key up x = z
    unfold B_X10_near_27
    unfold nearE at hz
    rcases xs with a | ⟨i, a1, a2⟩
    · rw [if_pos a] at hz ⊢
      by_cases u : up = 0
      · rw [if_pos u] at hz ⊢; exact hz
      · rw [if_neg u] at hz ⊢; exact hz
    · rw [if_neg (by rw [a2]; exact ni_m1 (by omega))] at hz ⊢
      rw [a2] at hz ⊢
      rw [rd_1352 q2, rx_1352 q2 (by omega), e35]
      exact hz
  obtain ⟨e, he⟩ : ∃ e, e = nearE (h1.bi (M + 35)) up x := ⟨_, rfl⟩
  rw [← he] at st
  obtain ⟨hL, y, l1, l2⟩ := rf_looks q2 n2 N hN g2 hl (by rw [e1', e4']; exact pos) t1 ht (by rw [e1']; exact ac) (if up = 0 then e else key) (if up = 0 then key else e)
  have st2 : ∀ {z : Option (Hp × Int32)}, B_X10_near_84 N M hL (nI t) key up x e y = z → B_X10_near_15 N M h (nI t) key up 0 = z := by
    intro z hz
    refine st ?_
    unfold B_X10_near_57 B_X10_near_71 B_X10_near_81
    by_cases u : up = 0
    · rw [if_pos u, if_pos u] at l1
      rw [if_pos u, if_pos u]
      refine (dr_e (by exact rfl) (by exact q2.1)).trans ?_
      refine (bnd (by exact l1)).trans ?_
      exact hz
    · rw [if_neg u, if_neg u] at l1
      rw [if_neg u, if_neg u]
      refine (dr_e (by exact rfl) (by exact q2.1)).trans ?_
      refine (bnd (by exact l1)).trans ?_
      exact hz
  have l3 := l2
  rcases l2 with ⟨y0, _⟩ | ⟨y1, _, p⟩
  · rw [y0] at l3
    refine ⟨hL, -1, st2 ?_, h1, m, h2, x, e, gk, f2, ns, he, Or.inl ⟨l3, rfl⟩⟩
    unfold B_X10_near_84
    exact if_pos y0
  · rw [y1] at l3
    have fl := lokH.ro (h := h2) (M := M) (l := l) (t := nI t) (a := (if up = 0 then e else key)) (z := (if up = 0 then key else e))
    have fp := p.1
    obtain ⟨h', z, r1, r2⟩ := rf_near99 (fp.rk (fl.rk q2)) (fp.rn (lokH.rn n2 hl) (fun _ _ z => by cases z)) N hN ((g2.con fl (by decide)).con fp (by decide)) ((B2.con fl (by decide) (by decide)).con fp (by decide) (by decide)) hk (show t < 514 by omega) key up x e
    refine ⟨h', z, st2 ?_, h1, m, h2, x, e, gk, f2, ns, he, Or.inr ⟨hL, l3, r2⟩⟩
    rw [y1]
    exact r1
theorem rf_nearX (q : Rk h M) (n : Rn h M b c w l v k r) (N : Nat) {x : Int32} (key up : Int32) (no : ¬ actT h M b x) : J_X10_near N M h x key up = some (tk h M 1, 0) := by
  rcases rf_enter q n N x with ⟨y, _⟩ | ⟨_, e⟩
  · exact absurd y no
  · unfold J_X10_near B_X10_near_0
    refine (bnd (by exact e)).trans ?_
    unfold B_X10_near_15
    exact if_neg (by show ¬ (1 : Int32) = 0; decide)
theorem rf_nearT (q : Rk h M) (n : Rn h M b c w l v k r) (N : Nat) (key up : Int32) {t : Nat} (h1 : 1 ≤ t) (ht : t ≤ b) (ac : h.bi (M + 1) t = 1) : J_X10_near N M h (nI t) key up = B_X10_near_15 N M (tk h M 0) (nI t) key up 0 := by
  rcases rf_enter q n N (nI t) with ⟨_, e⟩ | ⟨y, _⟩
  · unfold J_X10_near B_X10_near_0
    exact bnd e
  · exact absurd ⟨t, rfl, h1, ht, ac⟩ y
end RF18
