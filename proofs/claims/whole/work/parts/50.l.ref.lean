/-! commit, abort -/
section RF12
variable {h : Hp} {M b c w l v k r : Nat}
/-- the clock told, the door opened or not -/
def tick (h : Hp) (M : Nat) : Hp := h.sgi 1313 M (h.gi 1313 M + 1)
theorem tick.ro : RfO [] [1313] M h (tick h M) := RfO.sgi (by decide) _
def tk (h : Hp) (M : Nat) (x : Int32) : Hp := (tick h M).sgi 1300 M x
theorem tk.ro {x : Int32} : RfO [] [1300, 1313] M h (tk h M x) := (RfO.sgi (by decide) _).tr (RfO.sgi (by decide) _)
theorem tk.clock {x : Int32} : (tk h M x).gi 1313 M = h.gi 1313 M + 1 := by
  unfold tk tick
  rw [gi_oth (by decide), gi_same]
theorem rf_enter (q : Rk h M) (n : Rn h M b c w l v k r) (N : Nat) (x : Int32) : (actT h M b x ∧ J_X10_isIdle N M (tick h M) x = some (tk h M 0, 0)) ∨ (¬ actT h M b x ∧ J_X10_isIdle N M (tick h M) x = some (tk h M 1, 1)) :=
  rf_isIdle (tick.ro.rk q) (tick.ro.rn n (by decide)) N x
def cmt1 (h : Hp) (M c t : Nat) : Hp := ((h.sbi (M + 1) t 2).sbi (M + 4) t (nI (c + 1))).sbi (M + 6) t (h.gi 1313 M)
theorem cmt1.ro {t : Nat} : RfO [1, 4, 6] [] M h (cmt1 h M c t) := ((RfO.sbi (k := 1) (by decide) _ _).tr (RfO.sbi (k := 4) (by decide) _ _)).tr (RfO.sbi (k := 6) (by decide) _ _)
theorem cmt1.a {t : Nat} (j : Nat) : (cmt1 h M c t).bi (M + 1) j = (if j = t then 2 else h.bi (M + 1) j) ∧ (cmt1 h M c t).bi (M + 4) j = (if j = t then nI (c + 1) else h.bi (M + 4) j) ∧ (cmt1 h M c t).bi (M + 6) j = (if j = t then h.gi 1313 M else h.bi (M + 6) j) := by
  unfold cmt1
  refine ⟨?_, ?_, ?_⟩
  · rw [bi_oth (by omega), bi_oth (by omega), bi_at]
  · rw [bi_oth (by omega), bi_at, bi_oth (by omega)]
  · rw [bi_at, bi_oth (by omega), bi_oth (by omega)]
/-- what commit answers and leaves, once t is at work -/
def ComM (h : Hp) (M b c w l v t : Nat) (h' : Hp) (x : Int32) : Prop := ∃ s : Int32 × Int32 × Int32, CfS h M w v t 0 s ∧ ((s.1 = 1 ∧ x = 1 ∧ JdR (((rsnH h M 1 (nI t) s.2.2 s.2.1).sbi (M + 1) t 4).sbi (M + 6) t (h.gi 1313 M)) M b l v (b + 1) h') ∨ (s.1 = 0 ∧ ∃ s2 m s3 y, GkR (cmt1 h M c t) M w m s2 ∧ VerR s2 M w v t (s2.bi (M + 35)) m y s3 ∧ ((x = 2 ∧ ∃ a h1, 1 ≤ a ∧ a ≤ b ∧ Wayq s3 M b l y a t ∧ (∀ a', 1 ≤ a' → a' < a → ¬ Wayq s3 M b l y a' t) ∧ DgR s3 M b l y a t h1 ∧ JdR (((((h1.sgi 1328 M (nI v)).sbi (M + 4) t 0).sbi (M + 1) t 5).sbi (M + 6) t (h.gi 1313 M))) M b l v (b + 1) h') ∨ (x = 0 ∧ (∀ a, 1 ≤ a → a ≤ b → ¬ Wayq s3 M b l y a t) ∧ ∃ s4, PrcR s3 M l y t (b + 1) s4 ∧ JdR (s4.sgi 1312 M (nI (c + 1))) M b l y (b + 1) h'))))
theorem rf_commit1 (q : Rk h M) (n : Rn h M b c w l v k r) (N : Nat) (hN : 1000 < N) (g : VtOk h M b v) (pos : ∀ u, 1 ≤ u → u ≤ b → h.bi (M + 1) u = 2 → 0 < h.bi (M + 4) u) (B : ∀ i, i < w → h.bi (M + 14) i = 0 ∨ h.bi (M + 14) i = 1) (hc : c < 512) {t : Nat} (ht : t ≤ b) (h8 : h.bi (M + 8) t = 0 ∨ h.bi (M + 8) t = 1) (room : ∀ s2 m, GkR (cmt1 h M c t) M w m s2 → v + ownN s2 M w t (s2.bi (M + 35)) m ≤ 512) : ∃ h' x, B_X10_commit_15 N M h (nI t) 0 = some (h', x) ∧ ComM h M b c w l v t h' x := by
  have hb := n.2.2.2.2.2.2.2.1
  have hv := n.2.2.2.2.2.2.2.2.2.2.2.1
  have hw := n.2.2.2.2.2.2.2.2.2.1
  obtain ⟨s, cf, e⟩ := rf_conflicts q n N hN g (t := t) (by omega)
  have st : ∀ {z : Option (Hp × Int32)}, B_X10_commit_25 N M (if s.1 = 0 then h else rsnH h M 1 (nI t) s.2.2 s.2.1) (nI t) s.1 = z → B_X10_commit_15 N M h (nI t) 0 = z := by
    intro z hz
    unfold B_X10_commit_15
    refine (if_pos (by rfl)).trans ?_
    refine (bnd (by exact e)).trans ?_
    exact hz
  have two : s.1 = 1 ∨ s.1 = 0 := cf.elim (fun z => Or.inr z.1) (fun z => Or.inl z.1)
  rcases two with s1 | s0
  · have fd := rsnH.ro (h := h) (M := M) (a := 1) (b := nI t) (c := s.2.2) (d := s.2.1)
    obtain ⟨h', j1, j2⟩ := rf_ends (fd.rk q) (fd.rn n (by decide)) N hN (t := t) (by omega) 4 (fun u a1 a2 a3 a4 => by
      rcases a4 with a4 | a4
      · exact absurd (a3 a4) (by decide)
      · rw [fd.bi (k := 1) (by decide)] at a4
        rw [fd.bi (k := 4) (by decide)]
        exact pos u a1 a2 a4)
    rw [fd.gi (by decide)] at j2
    refine ⟨h', 1, st ?_, s, cf, Or.inl ⟨s1, rfl, j2⟩⟩
    rw [s1, if_neg (by decide)]
    unfold B_X10_commit_25 B_X10_commit_34
    refine (if_neg (by decide)).trans ?_
    refine (bnd (by exact j1)).trans ?_
    rfl
  · have f1 := cmt1.ro (h := h) (M := M) (c := c) (t := t)
    have q1 := f1.rk q
    have n1 := f1.rn n (fun _ _ z => by cases z)
    obtain ⟨s2, m, g1, g2⟩ := rf_gatherKeys q1 n1 N hN
    have rm := room s2 m g2
    obtain ⟨f2, em, hm, gs⟩ := g2
    have q2 := f2.rk q1
    have n2 := f2.rn n1 (by decide)
    have B2 : ∀ i, i < w → s2.bi (M + 14) i = 0 ∨ s2.bi (M + 14) i = 1 := by
      rw [f2.bi (k := 14) (by decide), f1.bi (k := 14) (by decide)]; exact B
    obtain ⟨s3, y, v1, v2⟩ := rf_cm76 q2 n2 N hN (t := t) em (by omega) B2 rm (nI v)
    have f3 := v2.1
    have q3 := f3.rk q2
    have n3 : Rn s3 M b c w l y k r := by
      have ey := v2.2.2.1
      have gy := v2.2.1
      obtain ⟨n1, n2, n3, n4, n5, n6, n7, n8, n9, n10, n11, n12, n13, n14⟩ := n2
      exact ⟨(f3.gi (by decide)).trans n1, (f3.gi (by decide)).trans n2, (f3.gi (by decide)).trans n3, (f3.gi (by decide)).trans n4, gy, (f3.gi (by decide)).trans n6, (f3.gi (by decide)).trans n7, n8, n9, n10, n11, by omega, n13, n14⟩
    have pos3 : ∀ u, 1 ≤ u → u ≤ b → s3.bi (M + 1) u = 2 → 0 < s3.bi (M + 4) u := by
      intro u a1 a2 a3
      rw [f3.bi (k := 1) (by decide), f2.bi (k := 1) (by decide), (cmt1.a u).1] at a3
      rw [f3.bi (k := 4) (by decide), f2.bi (k := 4) (by decide), (cmt1.a u).2.1]
      by_cases z : u = t
      · rw [if_pos z]
        exact (ni_gz (by omega)).mpr (by omega)
      · rw [if_neg z] at a3 ⊢
        exact pos u a1 a2 a3
    have clk : s3.gi 1313 M = h.gi 1313 M := (f3.gi (by decide)).trans ((f2.gi (by decide)).trans (f1.gi (by decide)))
    have st2 : ∀ {z : Option (Hp × Int32)}, L_X10_commit_181 N M N s3 (nI t) (nI v) (nI 1) = z → B_X10_commit_15 N M h (nI t) 0 = z := by
      intro z hz
      refine st ?_
      rw [s0, if_pos rfl]
      unfold B_X10_commit_25
      refine (if_pos (by rfl)).trans ?_
      rw [rd_1301 q, rx_1301 q (show t < 514 by omega), pj_sbi_gr, dr_sbi, rd_1304 q, pj_sbi_al, rx_1304 q (show t < 514 by omega), pj_sbi_gr, dr_sbi, pj_sbi_gr, dr_sbi, rd_1306 q, pj_sbi_al, pj_sbi_al, rx_1306 q (show t < 514 by omega), pj_sbi_gi, pj_sbi_gi, pj_sbi_gi, n.2.1, n.2.2.2.2.1, ni_inc, ni_clp (by omega)]
      refine (bnd (by exact g1)).trans ?_
      exact v1.trans hz
    rcases rf_cm181 q3 n3 N hN pos3 (t := t) hv (by omega) with ⟨a, h1, h', a1, a2, a3, a4, a5, a6, a7⟩ | ⟨a1, a2⟩
    · rw [clk] at a6
      exact ⟨h', 2, st2 a7, s, cf, Or.inr ⟨s0, s2, m, s3, y, ⟨f2, em, hm, gs⟩, v2, Or.inl ⟨rfl, a, h1, a1, a2, a3, a4, a5, a6⟩⟩⟩
    · obtain ⟨s4, h', b1, b2, b3⟩ := rf_cm241 q3 n3 N hN pos3 hc (t := t) (by omega) (by rw [f3.bi (k := 8) (by decide), f2.bi (k := 8) (by decide), f1.bi (k := 8) (by decide)]; exact h8)
      exact ⟨h', 0, st2 (a2.trans b1), s, cf, Or.inr ⟨s0, s2, m, s3, y, ⟨f2, em, hm, gs⟩, v2, Or.inr ⟨rfl, a1, s4, b2, b3⟩⟩⟩
theorem rf_commitX (q : Rk h M) (n : Rn h M b c w l v k r) (N : Nat) {x : Int32} (no : ¬ actT h M b x) : J_X10_commit N M h x = some (tk h M 1, 0) := by
  rcases rf_enter q n N x with ⟨y, _⟩ | ⟨_, e⟩
  · exact absurd y no
  · unfold J_X10_commit B_X10_commit_0
    refine (bnd (by exact e)).trans ?_
    unfold B_X10_commit_15
    exact if_neg (by show ¬ (1 : Int32) = 0; decide)
theorem rf_commitT (q : Rk h M) (n : Rn h M b c w l v k r) (N : Nat) {t : Nat} (h1 : 1 ≤ t) (ht : t ≤ b) (ac : h.bi (M + 1) t = 1) : J_X10_commit N M h (nI t) = B_X10_commit_15 N M (tk h M 0) (nI t) 0 := by
  rcases rf_enter q n N (nI t) with ⟨_, e⟩ | ⟨y, _⟩
  · unfold J_X10_commit B_X10_commit_0
    exact bnd e
  · exact absurd ⟨t, rfl, h1, ht, ac⟩ y
theorem rf_abortX (q : Rk h M) (n : Rn h M b c w l v k r) (N : Nat) {x : Int32} (no : ¬ actT h M b x) : J_X10_abort N M h x = some (tk h M 1, ()) := by
  rcases rf_enter q n N x with ⟨y, _⟩ | ⟨_, e⟩
  · exact absurd y no
  · unfold J_X10_abort B_X10_abort_0
    refine (bnd (by exact e)).trans ?_
    unfold B_X10_abort_15
    exact if_neg (by show ¬ (1 : Int32) = 0; decide)
theorem rf_abort (q : Rk h M) (n : Rn h M b c w l v k r) (N : Nat) (hN : 1000 < N) (pos : ∀ u, 1 ≤ u → u ≤ b → h.bi (M + 1) u = 2 → 0 < h.bi (M + 4) u) {t : Nat} (h1 : 1 ≤ t) (ht : t ≤ b) (ac : h.bi (M + 1) t = 1) : ∃ h', J_X10_abort N M h (nI t) = some (h', ()) ∧ JdR (((tk h M 0).sbi (M + 1) t 3).sbi (M + 6) t (h.gi 1313 M + 1)) M b l v (b + 1) h' := by
  have hb := n.2.2.2.2.2.2.2.1
  have f := tk.ro (h := h) (M := M) (x := 0)
  obtain ⟨h', j1, j2⟩ := rf_ends (f.rk q) (f.rn n (by decide)) N hN (t := t) (by omega) 3 (fun u a1 a2 a3 a4 => by
    rcases a4 with a4 | a4
    · exact absurd (a3 a4) (by decide)
    · exact pos u a1 a2 a4)
  rw [tk.clock] at j2
  refine ⟨h', ?_, j2⟩
  rcases rf_enter q n N (nI t) with ⟨_, e⟩ | ⟨y, _⟩
  · unfold J_X10_abort B_X10_abort_0
    refine (bnd (by exact e)).trans ?_
    unfold B_X10_abort_15 B_X10_abort_25
    refine (if_pos (by rfl)).trans ?_
    refine (bnd (by exact j1)).trans ?_
    rfl
  · exact absurd ⟨t, rfl, h1, ht, ac⟩ y
end RF12
