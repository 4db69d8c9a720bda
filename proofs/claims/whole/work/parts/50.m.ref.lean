/-! begin, read -/
section RF13
variable {h : Hp} {M b c w l v k r : Nat}
def bS3 (N M : Nat) (h : Hp) : Option (Hp × Int32) := dr h 30 (h.gr 1303 M) (fun a13 => ck (¬ (h.gi 1311 M < 0 ∨ h.al a13 ≤ (h.gi 1311 M).toNatClampNeg)) (B_X10_begin_69 N M (h.sbi a13 (h.gi 1311 M).toNatClampNeg (h.gi 1312 M))))
def bS2 (N M : Nat) (h : Hp) (x1 : Int32) : Option (Hp × Int32) := dr h 32 (h.gr 1302 M) (fun a10 => ck (¬ (h.gi 1311 M < 0 ∨ h.al a10 ≤ (h.gi 1311 M).toNatClampNeg)) (ck (x1 = 0 ∨ x1 = 1) (bS3 N M (h.sbi a10 (h.gi 1311 M).toNatClampNeg x1))))
def bS1 (N M : Nat) (h : Hp) (x1 : Int32) : Option (Hp × Int32) := dr h 30 (h.gr 1301 M) (fun a8 => ck (¬ (h.gi 1311 M < 0 ∨ h.al a8 ≤ (h.gi 1311 M).toNatClampNeg)) (bS2 N M (h.sbi a8 (h.gi 1311 M).toNatClampNeg (1 : Int32)) x1))
theorem bg_cut (N M : Nat) (h : Hp) (x1 y0 : Int32) : B_X10_begin_19 N M h x1 y0 = if y0 = (24 : Int32) then (some (h, (-1 : Int32))) else bS1 N M (h.sgi 1311 M ((h.gi 1311 M) + (1 : Int32))) x1 := by
  unfold B_X10_begin_19 bS1 bS2 bS3
  rfl
theorem bS1_eq (q : Rk h M) (N : Nat) {y : Nat} (eg : h.gi 1311 M = nI y) (hy : y < 514) (x1 : Int32) : bS1 N M h x1 = bS2 N M (h.sbi (M + 1) y 1) x1 := by
  unfold bS1
  rw [rd_1301 q, eg, rx_1301 q hy, ni_clp (show y < _ by omega)]
theorem bS2_eq (q : Rk h M) (N : Nat) {y : Nat} (eg : h.gi 1311 M = nI y) (hy : y < 514) {x1 : Int32} (hx : x1 = 0 ∨ x1 = 1) : bS2 N M h x1 = bS3 N M (h.sbi (M + 2) y x1) := by
  unfold bS2
  rw [rd_1302 q, eg, rx_1302 q hy, ni_clp (show y < _ by omega)]
  exact ck_eq hx
theorem bS3_eq (q : Rk h M) (N : Nat) {y c : Nat} (eg : h.gi 1311 M = nI y) (ec : h.gi 1312 M = nI c) (hy : y < 514) : bS3 N M h = B_X10_begin_69 N M (h.sbi (M + 3) y (nI c)) := by
  unfold bS3
  rw [rd_1303 q, eg, ec, rx_1303 q hy, ni_clp (show y < _ by omega)]
/-- one more begun -/
def begH (h : Hp) (M b c : Nat) (x : Int32) : Hp := ((((h.sgi 1311 M (nI (b + 1))).sbi (M + 1) (b + 1) 1).sbi (M + 2) (b + 1) x).sbi (M + 3) (b + 1) (nI c)).sbi (M + 5) (b + 1) (h.gi 1313 M)
theorem begH.ro {x : Int32} : RfO [1, 2, 3, 5] [1311] M h (begH h M b c x) := ((((RfO.sgi (by decide) _).tr (RfO.sbi (k := 1) (by decide) _ _)).tr (RfO.sbi (k := 2) (by decide) _ _)).tr (RfO.sbi (k := 3) (by decide) _ _)).tr (RfO.sbi (k := 5) (by decide) _ _)
theorem begH.n {x : Int32} : (begH h M b c x).gi 1311 M = nI (b + 1) := by
  unfold begH
  rw [pj_sbi_gi, pj_sbi_gi, pj_sbi_gi, pj_sbi_gi, gi_same]
theorem begH.a {x : Int32} (j : Nat) : (begH h M b c x).bi (M + 1) j = (if j = b + 1 then 1 else h.bi (M + 1) j) ∧ (begH h M b c x).bi (M + 2) j = (if j = b + 1 then x else h.bi (M + 2) j) ∧ (begH h M b c x).bi (M + 3) j = (if j = b + 1 then nI c else h.bi (M + 3) j) ∧ (begH h M b c x).bi (M + 5) j = (if j = b + 1 then h.gi 1313 M else h.bi (M + 5) j) := by
  unfold begH
  refine ⟨?_, ?_, ?_, ?_⟩
  · rw [bi_oth (by omega), bi_oth (by omega), bi_oth (by omega), bi_at, pj_sgi_bi]
  · rw [bi_oth (by omega), bi_oth (by omega), bi_at, bi_oth (by omega), pj_sgi_bi]
  · rw [bi_oth (by omega), bi_at, bi_oth (by omega), bi_oth (by omega), pj_sgi_bi]
  · rw [bi_at, bi_oth (by omega), bi_oth (by omega), bi_oth (by omega), pj_sgi_bi]
def tb (h : Hp) (M : Nat) : Hp := (h.sgi 1300 M 0).sgi 1313 M (h.gi 1313 M + 1)
theorem tb.ro : RfO [] [1300, 1313] M h (tb h M) := (RfO.sgi (by decide) _).tr (RfO.sgi (by decide) _)
theorem tb.clock : (tb h M).gi 1313 M = h.gi 1313 M + 1 := gi_same
theorem rf_begin (q : Rk h M) (n : Rn h M b c w l v k r) (N : Nat) (hN : 1000 < N) (pos : ∀ u, 1 ≤ u → u ≤ b → h.bi (M + 1) u = 2 → 0 < h.bi (M + 4) u) (hb : b < 512) {x : Int32} (hx : x = 0 ∨ x = 1) : ((List.range' 1 b).countP (fun u => decide (h.bi (M + 1) u = 1)) = 24 ∧ J_X10_begin N M h x = some (tb h M, -1)) ∨ ((List.range' 1 b).countP (fun u => decide (h.bi (M + 1) u = 1)) ≠ 24 ∧ ∃ h', J_X10_begin N M h x = some (h', nI (b + 1)) ∧ JdR (begH (tb h M) M b c x) M (b + 1) l v (b + 2) h') := by
  have f0 := tb.ro (h := h) (M := M)
  have q0 := f0.rk q
  have n0 := f0.rn n (by decide)
  have am := rf_activeMany q0 n0 N hN
  have e1 : (tb h M).bi (M + 1) = h.bi (M + 1) := f0.bi (by decide)
  rw [e1] at am
  generalize hm : (List.range' 1 b).countP (fun u => decide (h.bi (M + 1) u = 1)) = m at am
  have hm5 : m ≤ b := by
    rw [← hm]
    have := List.countP_le_length (p := fun u => decide (h.bi (M + 1) u = 1)) (l := List.range' 1 b)
    rw [List.length_range'] at this
    exact this
  have st : ∀ {z : Option (Hp × Int32)}, B_X10_begin_19 N M (tb h M) x (nI m) = z → J_X10_begin N M h x = z := by
    intro z hz
    unfold J_X10_begin B_X10_begin_0
    refine (bnd (show J_X10_activeMany N M (tb h M) = _ from am)).trans ?_
    exact hz
  by_cases z : m = 24
  · left
    refine ⟨z, st ?_⟩
    rw [bg_cut, z]
    exact if_pos rfl
  · right
    refine ⟨z, ?_⟩
    have fb := begH.ro (h := tb h M) (M := M) (b := b) (c := c) (x := x)
    have nb : Rn (begH (tb h M) M b c x) M (b + 1) c w l v k r := by
      obtain ⟨n1, n2, n3, n4, n5, n6, n7, n8, n9, n10, n11, n12, n13, n14⟩ := n0
      exact ⟨begH.n, (fb.gi (by decide)).trans n2, (fb.gi (by decide)).trans n3, (fb.gi (by decide)).trans n4, (fb.gi (by decide)).trans n5, (fb.gi (by decide)).trans n6, (fb.gi (by decide)).trans n7, by omega, n9, n10, n11, n12, n13, n14⟩
    obtain ⟨h', j1, j2⟩ := rf_judge (fb.rk q0) nb N hN (fun u u1 u2 u3 => by
      rw [(begH.a u).1] at u3
      rw [fb.bi (k := 4) (by decide), f0.bi (k := 4) (by decide)]
      by_cases e : u = b + 1
      · rw [if_pos e] at u3; exact absurd u3 (by decide)
      · rw [if_neg e, e1] at u3
        exact pos u u1 (by omega) u3)
    refine ⟨h', st ?_, j2⟩
    rw [bg_cut, if_neg (show ¬ nI m = (24 : Int32) from fun y => z ((ni_inj (b := 24) (by omega) (by omega)).mp y)), n0.1, ni_inc]
    have q1 : Rk ((tb h M).sgi 1311 M (nI (b + 1))) M := q0.sgi _ _ _
    have g1 : ((tb h M).sgi 1311 M (nI (b + 1))).gi 1311 M = nI (b + 1) := gi_same
    have c1 : ((tb h M).sgi 1311 M (nI (b + 1))).gi 1312 M = nI c := by rw [gi_oth (by decide)]; exact n0.2.1
    have k1 : ((tb h M).sgi 1311 M (nI (b + 1))).gi 1313 M = (tb h M).gi 1313 M := gi_oth (by decide)
    unfold begH at j1
    rw [← k1] at j1
    have res : h'.gi 1311 M = nI (b + 1) := (j2.1.gi (by decide)).trans begH.n
    clear j2 nb fb
    generalize (tb h M).sgi 1311 M (nI (b + 1)) = h1 at q1 g1 c1 k1 j1 ⊢
    rw [bS1_eq q1 N g1 (by omega), bS2_eq (q1.sbi _ _ _) N (by rw [pj_sbi_gi]; exact g1) (show b + 1 < 514 by omega) hx, bS3_eq ((q1.sbi _ _ _).sbi _ _ _) N (c := c) (y := b + 1) (by rw [pj_sbi_gi, pj_sbi_gi]; exact g1) (by rw [pj_sbi_gi, pj_sbi_gi]; exact c1) (by omega)]
    have q4 : Rk (((h1.sbi (M + 1) (b + 1) 1).sbi (M + 2) (b + 1) x).sbi (M + 3) (b + 1) (nI c)) M := ((q1.sbi _ _ _).sbi _ _ _).sbi _ _ _
    have g4 : (((h1.sbi (M + 1) (b + 1) 1).sbi (M + 2) (b + 1) x).sbi (M + 3) (b + 1) (nI c)).gi 1311 M = nI (b + 1) := by rw [pj_sbi_gi, pj_sbi_gi, pj_sbi_gi]; exact g1
    have k4 : (((h1.sbi (M + 1) (b + 1) 1).sbi (M + 2) (b + 1) x).sbi (M + 3) (b + 1) (nI c)).gi 1313 M = h1.gi 1313 M := by rw [pj_sbi_gi, pj_sbi_gi, pj_sbi_gi]
    rw [← k4] at j1
    generalize ((h1.sbi (M + 1) (b + 1) 1).sbi (M + 2) (b + 1) x).sbi (M + 3) (b + 1) (nI c) = h4 at q4 g4 j1 ⊢
    unfold B_X10_begin_69
    rw [rd_1305 q4, g4, rx_1305 q4 (by omega), ni_clp (by omega)]
    refine (bnd (by exact j1)).trans ?_
    unfold B_X10_begin_86
    rw [res]
end RF13
