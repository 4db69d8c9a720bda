/-! wroteMany, writes -/
section RF15
variable {h : Hp} {M b c w l v k r : Nat}
/-- how many of the first n have P -/
noncomputable def cntQ (P : Nat → Prop) : Nat → Nat
  | 0 => 0
  | n + 1 => cntQ P n + @ite Nat (P n) (Classical.propDecidable _) 1 0
theorem cntQ.le (P : Nat → Prop) (n : Nat) : cntQ P n ≤ n := by
  induction n with
  | zero => exact Nat.le_refl _
  | succ n ih =>
    show cntQ P n + _ ≤ n + 1
    by_cases z : P n
    · rw [if_pos z]; omega
    · rw [if_neg z]; omega
/-- write i is t's last of its key -/
def lstW (h : Hp) (M w t i : Nat) : Prop := h.bi (M + 11) i = nI t ∧ lastS (ownC h M t (h.bi (M + 12) i)) w (nI i)
theorem rf_wroteMany (q : Rk h M) (n : Rn h M b c w l v k r) (N : Nat) (hN : 1000 < N) (t : Nat) : J_X10_wroteMany N M h (nI t) = some (h, nI (cntQ (lstW h M w t) w)) := by
  have hw := n.2.2.2.2.2.2.2.2.2.1
  refine lp_inv (G := fun F i (s : Int32) => L_X10_wroteMany_4 N M F h (nI t) s (nI i)) (hi := w) (Inv := fun i s => s = nI (cntQ (lstW h M w t) i)) (Q := fun o => o = some (h, nI (cntQ (lstW h M w t) w))) ?_ ?_ w 0 N 0 (by omega) (by omega) (by omega) rfl
  · intro F s hs
    show B_X10_wroteMany_4 N _ M h (nI t) s (nI w) = _
    unfold B_X10_wroteMany_4
    rw [n.2.2.1, hs]
    exact if_pos ((ni_le (by omega) (by omega)).mpr (by omega))
  · intro F i s hi hs
    left
    obtain ⟨x, e1, e2⟩ := rf_ownOf q n N hN t (h.bi (M + 12) i)
    have body : L_X10_wroteMany_4 N M (F + 1) h (nI t) s (nI i) = if h.bi (M + 11) i = nI t then (if x = nI i then L_X10_wroteMany_4 N M F h (nI t) (s + 1) (nI (i + 1)) else L_X10_wroteMany_4 N M F h (nI t) (s + 0) (nI (i + 1))) else L_X10_wroteMany_4 N M F h (nI t) (s + 0) (nI (i + 1)) := by
      show B_X10_wroteMany_4 N (L_X10_wroteMany_4 N M F) M h (nI t) s (nI i) = _
      unfold B_X10_wroteMany_4 B_X10_wroteMany_42 B_X10_wroteMany_43
      rw [n.2.2.1]
      refine (if_neg (by exact fun z => by rw [ni_le (by omega) (by omega)] at z; omega)).trans ?_
      rw [rd_1314 q, rx_1314 q (by omega), rd_1315 q, rx_1315 q (by omega)]
      rw [ni_clp (by omega), ni_inc]
      by_cases z : h.bi (M + 11) i = nI t
      · rw [if_pos z, if_pos z]
        refine (bnd (by exact e1)).trans ?_
        show B_X10_wroteMany_34 N (L_X10_wroteMany_4 N M F) M h (nI t) (nI i) s x = _
        unfold B_X10_wroteMany_34 B_X10_wroteMany_42 B_X10_wroteMany_43
        rw [ni_inc]
      · rw [if_neg z, if_neg z]
    show ∃ s' : Int32, s' = nI (cntQ (lstW h M w t) (i + 1)) ∧ L_X10_wroteMany_4 N M (F + 1) h (nI t) s (nI i) = L_X10_wroteMany_4 N M F h (nI t) s' (nI (i + 1))
    rw [body]
    have no : ¬ lstW h M w t i → s + 0 = nI (cntQ (lstW h M w t) (i + 1)) := by
      intro z
      show _ = nI (cntQ (lstW h M w t) i + _)
      rw [if_neg z, hs]
      exact nI_add _ 0
    by_cases z1 : h.bi (M + 11) i = nI t
    · rw [if_pos z1]
      by_cases z2 : x = nI i
      · rw [if_pos z2]
        refine ⟨_, ?_, rfl⟩
        show _ = nI (cntQ (lstW h M w t) i + _)
        rw [if_pos ⟨z1, by rw [← z2]; exact e2⟩, hs, ni_inc]
      · rw [if_neg z2]
        exact ⟨_, no (fun y => z2 (e2.uniq y.2)), rfl⟩
    · rw [if_neg z1]
      exact ⟨_, no (fun y => z1 y.1), rfl⟩
/-- a write's row -/
def wrtH (h : Hp) (M w : Nat) (t key : Int32) (x : Int64) (is : Int32) : Hp := ((((h.sbi (M + 11) w t).sbi (M + 12) w key).sbw (M + 13) w x).sbi (M + 14) w is).sgi 1319 M (nI (w + 1))
theorem wrtH.ro {t key is : Int32} {x : Int64} : RfO [11, 12, 13, 14] [1319] M h (wrtH h M w t key x is) := ((((RfO.sbi (k := 11) (by decide) _ _).tr (RfO.sbi (k := 12) (by decide) _ _)).tr (RfO.sbw (k := 13) (by decide) _ _)).tr (RfO.sbi (k := 14) (by decide) _ _)).tr (RfO.sgi (by decide) _)
theorem wrtH.n {t key is : Int32} {x : Int64} : (wrtH h M w t key x is).gi 1319 M = nI (w + 1) := gi_same
theorem wrtH.a {t key is : Int32} {x : Int64} (j : Nat) : (wrtH h M w t key x is).bi (M + 11) j = (if j = w then t else h.bi (M + 11) j) ∧ (wrtH h M w t key x is).bi (M + 12) j = (if j = w then key else h.bi (M + 12) j) ∧ (wrtH h M w t key x is).bw (M + 13) j = (if j = w then x else h.bw (M + 13) j) ∧ (wrtH h M w t key x is).bi (M + 14) j = (if j = w then is else h.bi (M + 14) j) := by
  unfold wrtH
  refine ⟨?_, ?_, ?_, ?_⟩
  · rw [pj_sgi_bi, bi_oth (by omega), pj_sbw_bi, bi_oth (by omega), bi_at]
  · rw [pj_sgi_bi, bi_oth (by omega), pj_sbw_bi, bi_at, bi_oth (by omega)]
  · rw [pj_sgi_bw, pj_sbi_bw, bw_at, pj_sbi_bw, pj_sbi_bw]
  · rw [pj_sgi_bi, bi_at, pj_sbw_bi, bi_oth (by omega), bi_oth (by omega)]
/-- the heap that a write leaves -/
def wr2H (h : Hp) (M w k : Nat) (t key : Int32) (x : Int64) (is : Int32) : Hp := (logH (wrtH h M w t key x is) M k (if is = 0 then 6 else 5) t key).sbw (M + 28) k x
theorem wr2H.ro {t key is : Int32} {x : Int64} : RfO [11, 12, 13, 14, 23, 24, 25, 28] [1319, 1339] M h (wr2H h M w k t key x is) := ((wrtH.ro.mono (by decide) (by decide)).tr (logH.ro.mono (by decide) (by decide))).tr (RfO.sbw (k := 28) (by decide) _ _)
theorem wr2H.rn (n : Rn h M b c w l v k r) (hw : w < 512) (hk : k < 512) {t key is : Int32} {x : Int64} : Rn (wr2H h M w k t key x is) M b c (w + 1) l v (k + 1) r := by
  obtain ⟨n1, n2, n3, n4, n5, n6, n7, n8, n9, n10, n11, n12, n13, n14⟩ := n
  have f := wr2H.ro (h := h) (M := M) (w := w) (k := k) (t := t) (key := key) (x := x) (is := is)
  refine ⟨(f.gi (by decide)).trans n1, (f.gi (by decide)).trans n2, ?_, (f.gi (by decide)).trans n4, (f.gi (by decide)).trans n5, ?_, (f.gi (by decide)).trans n7, n8, n9, by omega, n11, n12, by omega, n14⟩
  · unfold wr2H
    rw [pj_sbw_gi, logH.ro.gi (by decide)]
    exact wrtH.n
  · unfold wr2H
    rw [pj_sbw_gi]
    exact gi_same
theorem rf_writes1 (q : Rk h M) (n : Rn h M b c w l v k r) (N : Nat) (hN : 1000 < N) (hw : w < 512) (hk : k < 512) {t : Nat} (ht : t ≤ b) (key : Int32) (x : Int64) {is : Int32} (his : is = 0 ∨ is = 1) (ro : h.bi (M + 2) t = 0) : B_X10_writes_15 N M h (nI t) key x is 0 = some (wr2H h M w k (nI t) key x is, nI (cntQ (lstW (wr2H h M w k (nI t) key x is) M (w + 1) t) (w + 1))) := by
  have hb := n.2.2.2.2.2.2.2.1
  have f1 := wrtH.ro (h := h) (M := M) (w := w) (t := nI t) (key := key) (x := x) (is := is)
  have q1 := f1.rk q
  have n1 : Rn (wrtH h M w (nI t) key x is) M b c (w + 1) l v k r := by
    obtain ⟨n1, n2, n3, n4, n5, n6, n7, n8, n9, n10, n11, n12, n13, n14⟩ := n
    exact ⟨(f1.gi (by decide)).trans n1, (f1.gi (by decide)).trans n2, wrtH.n, (f1.gi (by decide)).trans n4, (f1.gi (by decide)).trans n5, (f1.gi (by decide)).trans n6, (f1.gi (by decide)).trans n7, n8, n9, by omega, n11, n12, n13, n14⟩
  have last : ∀ kind : Int32, kind = (if is = 0 then 6 else 5) → B_X10_writes_99 N M (wrtH h M w (nI t) key x is) (nI t) key x (some M) kind = some (wr2H h M w k (nI t) key x is, nI (cntQ (lstW (wr2H h M w k (nI t) key x is) M (w + 1) t) (w + 1))) := by
    intro kind hkd
    have wm := rf_wroteMany (wr2H.ro.rk q) (wr2H.rn n hw hk) N hN t (h := wr2H h M w k (nI t) key x is)
    unfold B_X10_writes_99
    refine (dr_e (by exact rfl) (by exact q1.1)).trans ?_
    refine (bnd (by exact rf_log q1 n1 N kind (nI t) key)).trans ?_
    have q2 : Rk (logH (wrtH h M w (nI t) key x is) M k kind (nI t) key) M := logH.ro.rk q1
    unfold B_X10_writes_104 B_X10_writes_119
    rw [rd_1334 q2, rx_1334 q2 (by omega), ni_clp (by omega), hkd]
    exact bnd wm
  have e66 : ∀ s : Hp, s = ((h.sbi (M + 11) w (nI t)).sbi (M + 12) w key).sbw (M + 13) w x → Rk s M → s.gi 1319 M = nI w → B_X10_writes_66 N M s (nI t) key x is = some (wr2H h M w k (nI t) key x is, nI (cntQ (lstW (wr2H h M w k (nI t) key x is) M (w + 1) t) (w + 1))) := by
    intro s es qs gs
    have ew : (s.sbi (M + 14) w is).sgi 1319 M (nI (w + 1)) = wrtH h M w (nI t) key x is := by
      rw [es]
      unfold wrtH
      rfl
    unfold B_X10_writes_66
    rw [rd_1317 qs, gs, rx_1317 qs (by omega), ni_clp (by omega)]
    refine (ck_eq his).trans ?_
    rw [pj_sbi_gi, gs, ni_inc, ew]
    by_cases z : is = 0
    · rw [if_pos z]
      exact last 6 (by rw [if_pos z])
    · rw [if_neg z]
      exact last 5 (by rw [if_neg z])
  unfold B_X10_writes_15
  refine (if_pos (by rfl)).trans ?_
  rw [rd_1302 q, rx_1302 q (show t < 514 by omega), ni_clp (show t < _ by omega)]
  refine (if_pos (by exact ro)).trans ?_
  rw [n.2.2.1, rd_1314 q, rx_1314 q (show w < 514 by omega), ni_clp (show w < _ by omega), pj_sbi_gr, dr_sbi, rd_1315 q, pj_sbi_al, pj_sbi_gi, n.2.2.1, rx_1315 q (show w < 514 by omega), ni_clp (show w < _ by omega), pj_sbi_gr, dr_sbi, pj_sbi_gr, dr_sbi, rd_1316 q, pj_sbi_al, pj_sbi_al, pj_sbi_gi, pj_sbi_gi, n.2.2.1, rx_1316 q (show w < 514 by omega), ni_clp (show w < _ by omega)]
  exact e66 _ rfl (((q.sbi _ _ _).sbi _ _ _).sbw _ _ _) (by rw [pj_sbw_gi, pj_sbi_gi, pj_sbi_gi]; exact n.2.2.1)
theorem rf_writesR (q : Rk h M) (n : Rn h M b c w l v k r) (N : Nat) {t : Nat} (ht : t ≤ b) (key : Int32) (x : Int64) (is : Int32) (ro : h.bi (M + 2) t ≠ 0) : B_X10_writes_15 N M h (nI t) key x is 0 = some (h.sgi 1300 M 2, 0) := by
  have hb := n.2.2.2.2.2.2.2.1
  unfold B_X10_writes_15
  refine (if_pos (by rfl)).trans ?_
  rw [rd_1302 q, rx_1302 q (show t < 514 by omega), ni_clp (show t < _ by omega)]
  exact if_neg ro
theorem rf_writesX (q : Rk h M) (n : Rn h M b c w l v k r) (N : Nat) {x : Int32} (key : Int32) (y : Int64) (is : Int32) (no : ¬ actT h M b x) : J_X10_writes N M h x key y is = some (tk h M 1, 0) := by
  rcases rf_enter q n N x with ⟨y, _⟩ | ⟨_, e⟩
  · exact absurd y no
  · unfold J_X10_writes B_X10_writes_0
    refine (bnd (by exact e)).trans ?_
    unfold B_X10_writes_15
    exact if_neg (by show ¬ (1 : Int32) = 0; decide)
theorem rf_writesT (q : Rk h M) (n : Rn h M b c w l v k r) (N : Nat) (key : Int32) (y : Int64) (is : Int32) {t : Nat} (h1 : 1 ≤ t) (ht : t ≤ b) (ac : h.bi (M + 1) t = 1) : J_X10_writes N M h (nI t) key y is = B_X10_writes_15 N M (tk h M 0) (nI t) key y is 0 := by
  rcases rf_enter q n N (nI t) with ⟨_, e⟩ | ⟨y, _⟩
  · unfold J_X10_writes B_X10_writes_0
    exact bnd e
  · exact absurd ⟨t, rfl, h1, ht, ac⟩ y
end RF15
