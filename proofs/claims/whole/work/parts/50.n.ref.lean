/-! read -/
section RF14
variable {h : Hp} {M b c w l v k r : Nat}
theorem WvB.con {A G : List Nat} {h' : Hp} (f : RfO A G M h h') (h14 : 14 ∉ A) (h22 : 22 ∉ A) (g : WvB h M w v) : WvB h' M w v := by
  unfold WvB
  rw [f.bi h14, f.bi h22]
  exact g
theorem SeeR.ro {t : Nat} {key x : Int32} {h' : Hp} (s : SeeR h M w v t key h' x) : RfO [] [1351] M h h' := by
  rcases s with ⟨i, _, _, e, _⟩ | ⟨_, ⟨_, e, _⟩ | ⟨i, _, _, e, _⟩⟩
  · rw [e]; exact RfO.sgl (by decide) _
  · rw [e]; exact RfO.rf _ _ _ _
  · rw [e]; exact RfO.sgl (by decide) _
theorem logH.rn (n : Rn h M b c w l v k r) (hk : k < 512) {kind t key : Int32} : Rn (logH h M k kind t key) M b c w l v (k + 1) r := by
  obtain ⟨n1, n2, n3, n4, n5, n6, n7, n8, n9, n10, n11, n12, n13, n14⟩ := n
  have f := logH.ro (h := h) (M := M) (k := k) (kind := kind) (t := t) (key := key)
  exact ⟨(f.gi (by decide)).trans n1, (f.gi (by decide)).trans n2, (f.gi (by decide)).trans n3, (f.gi (by decide)).trans n4, (f.gi (by decide)).trans n5, gi_same, (f.gi (by decide)).trans n7, n8, n9, n10, n11, n12, by omega, n14⟩
theorem fndH.ans {key : Int32} {x : Int64} : (fndH h M k key x).bi (M + 29) k = 1 := by
  unfold fndH
  rw [pj_sbw_bi, bi_oth (by omega), bi_at, if_pos rfl]
/-- a read that may be done: the call's row, what is seen -/
def RdR (h : Hp) (M w v k t : Nat) (key : Int32) (h' : Hp) (x : Int32) : Prop := ∃ h1 y, SeeR (logH h M k 1 (nI t) key) M w v t key h1 y ∧ ((y = 0 ∧ h' = h1 ∧ x = h.bi (M + 29) k) ∨ (y ≠ 0 ∧ h' = fndH h1 M k key (h1.gl 1351 M) ∧ x = 1))
theorem rf_read42 (q : Rk h M) (n : Rn h M b c w l v k r) (N : Nat) (hN : 1000 < N) (g : VtOk h M b v) (B : WvB h M w v) (hk : k < 512) {t : Nat} (ht : t < 514) (key : Int32) : ∃ h' x, B_X10_read_42 N M h (nI t) key = some (h', x) ∧ RdR h M w v k t key h' x := by
  have f := logH.ro (h := h) (M := M) (k := k) (kind := 1) (t := nI t) (key := key)
  obtain ⟨h1, y, e1, e2⟩ := rf_sees (f.rk q) (logH.rn n hk) N hN (g.con f (by decide)) (B.con f (by decide) (by decide)) ht key
  have f1 := e2.ro
  have q1 := f1.rk (f.rk q)
  have st : ∀ {z : Option (Hp × Int32)}, B_X10_read_56 N M h1 key (nI k) y = z → B_X10_read_42 N M h (nI t) key = z := by
    intro z hz
    unfold B_X10_read_42
    refine (bnd (by exact rf_log q n N 1 (nI t) key)).trans ?_
    unfold B_X10_read_49
    refine (bnd (by exact e1)).trans ?_
    exact hz
  by_cases z : y = 0
  · refine ⟨h1, h.bi (M + 29) k, st ?_, h1, y, e2, Or.inl ⟨z, rfl, rfl⟩⟩
    unfold B_X10_read_56 B_X10_read_69
    refine (if_pos (by exact z)).trans ?_
    rw [rd_1335 q1, rx_1335 q1 (by omega), ni_clp (by omega), f1.bi (by decide), f.bi (by decide)]
  · refine ⟨_, 1, st ?_, h1, y, e2, Or.inr ⟨z, rfl, rfl⟩⟩
    unfold B_X10_read_56
    refine (if_neg (by exact z)).trans ?_
    refine (bnd (by exact rf_found q1 N (show k < 514 by omega) key (h1.gl 1351 M))).trans ?_
    have q2 : Rk (fndH h1 M k key (h1.gl 1351 M)) M := fndH.ro.rk q1
    unfold B_X10_read_69
    rw [rd_1335 q2, rx_1335 q2 (by omega), ni_clp (by omega), fndH.ans]
/-- what read answers and leaves, once t is at work -/
def ReaR (h : Hp) (M b w l v k t : Nat) (key : Int32) (h' : Hp) (x : Int32) : Prop := ((∃ j, j < w ∧ ownC h M t key j) ∧ RdR h M w v k t key h' x) ∨ ((¬ ∃ j, j < w ∧ ownC h M t key j) ∧ ((LooR h M b l v t key key h' 0 ∧ x = -1) ∨ ∃ h1, LooR h M b l v t key key h1 1 ∧ RdR h1 M w v k t key h' x))
theorem rf_read1 (q : Rk h M) (n : Rn h M b c w l v k r) (N : Nat) (hN : 1000 < N) (g : VtOk h M b v) (B : WvB h M w v) (hl : l < 512) (hk : k < 512) (pos : ∀ u, 1 ≤ u → u ≤ b → h.bi (M + 1) u = 2 → 0 < h.bi (M + 4) u) {t : Nat} (h1 : 1 ≤ t) (ht : t ≤ b) (ac : h.bi (M + 1) t = 1) (key : Int32) : ∃ h' x, B_X10_read_15 N M h (nI t) key 0 = some (h', x) ∧ ReaR h M b w l v k t key h' x := by
  have hb := n.2.2.2.2.2.2.2.1
  have hw := n.2.2.2.2.2.2.2.2.2.1
  obtain ⟨x1, e1, e2⟩ := rf_ownOf q n N hN t key
  have st : ∀ {z : Option (Hp × Int32)}, B_X10_read_26 N M h (nI t) key x1 = z → B_X10_read_15 N M h (nI t) key 0 = z := by
    intro z hz
    unfold B_X10_read_15
    refine (if_pos (by rfl)).trans ?_
    refine (bnd (by exact e1)).trans ?_
    exact hz
  by_cases z : x1 = -1
  · have no := (e2.no (by omega)).mp z
    obtain ⟨hL, xL, f1, f2⟩ := rf_looks q n N hN g hl pos h1 ht ac key key
    have st2 : ∀ {z : Option (Hp × Int32)}, B_X10_read_37 N M hL (nI t) key xL = z → B_X10_read_15 N M h (nI t) key 0 = z := by
      intro y hy
      refine st ?_
      unfold B_X10_read_26
      refine (if_pos (by exact z)).trans ?_
      refine (bnd (by exact f1)).trans ?_
      exact hy
    have f2' := f2
    rcases f2 with ⟨x0, _⟩ | ⟨x1', _, p⟩
    · rw [x0] at f2'
      refine ⟨hL, -1, st2 ?_, Or.inr ⟨no, Or.inl ⟨f2', rfl⟩⟩⟩
      unfold B_X10_read_37
      exact if_pos x0
    · rw [x1'] at f2'
      have fl := (lokH.ro (h := h) (M := M) (l := l) (t := nI t) (a := key) (z := key))
      have fp := p.1
      have qL := fp.rk (fl.rk q)
      have nL := fp.rn (lokH.rn n hl (t := nI t) (a := key) (z := key)) (fun _ _ z => by cases z)
      obtain ⟨h', x, r1, r2⟩ := rf_read42 qL nL N hN ((g.con fl (by decide)).con fp (by decide)) ((B.con fl (by decide) (by decide)).con fp (by decide) (by decide)) hk (show t < 514 by omega) key
      refine ⟨h', x, st2 ?_, Or.inr ⟨no, Or.inr ⟨hL, f2', r2⟩⟩⟩
      unfold B_X10_read_37
      refine (if_neg (by rw [x1']; decide)).trans ?_
      exact r1
  · obtain ⟨h', x, r1, r2⟩ := rf_read42 q n N hN g B hk (show t < 514 by omega) key
    refine ⟨h', x, st ?_, Or.inl ⟨Classical.byContradiction fun y => z ((e2.no (by omega)).mpr y), r2⟩⟩
    unfold B_X10_read_26
    refine (if_neg z).trans ?_
    exact r1
theorem rf_readX (q : Rk h M) (n : Rn h M b c w l v k r) (N : Nat) {x : Int32} (key : Int32) (no : ¬ actT h M b x) : J_X10_read N M h x key = some (tk h M 1, 0) := by
  rcases rf_enter q n N x with ⟨y, _⟩ | ⟨_, e⟩
  · exact absurd y no
  · unfold J_X10_read B_X10_read_0
    refine (bnd (by exact e)).trans ?_
    unfold B_X10_read_15
    exact if_neg (by show ¬ (1 : Int32) = 0; decide)
theorem rf_readT (q : Rk h M) (n : Rn h M b c w l v k r) (N : Nat) (key : Int32) {t : Nat} (h1 : 1 ≤ t) (ht : t ≤ b) (ac : h.bi (M + 1) t = 1) : J_X10_read N M h (nI t) key = B_X10_read_15 N M (tk h M 0) (nI t) key 0 := by
  rcases rf_enter q n N (nI t) with ⟨_, e⟩ | ⟨y, _⟩
  · unfold J_X10_read B_X10_read_0
    exact bnd e
  · exact absurd ⟨t, rfl, h1, ht, ac⟩ y
end RF14
