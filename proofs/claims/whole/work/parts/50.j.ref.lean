/-! commit: the versions laid -/
section RF10
variable {h : Hp} {M b c w l v k r : Nat}
/-- a version's row -/
def verH (h : Hp) (M y : Nat) (key t : Int32) (x : Int64) (is : Int32) : Hp := ((((h.sbi (M + 19) y key).sbi (M + 20) y t).sbw (M + 21) y x).sbi (M + 22) y is).sgi 1328 M (nI (y + 1))
theorem verH.ro {y : Nat} {key t is : Int32} {x : Int64} : RfO [19, 20, 21, 22] [1328] M h (verH h M y key t x is) := ((((RfO.sbi (k := 19) (by decide) _ _).tr (RfO.sbi (k := 20) (by decide) _ _)).tr (RfO.sbw (k := 21) (by decide) _ _)).tr (RfO.sbi (k := 22) (by decide) _ _)).tr (RfO.sgi (by decide) _)
theorem verH.a {y : Nat} {key t is : Int32} {x : Int64} (j : Nat) : (verH h M y key t x is).bi (M + 19) j = (if j = y then key else h.bi (M + 19) j) ∧ (verH h M y key t x is).bi (M + 20) j = (if j = y then t else h.bi (M + 20) j) ∧ (verH h M y key t x is).bw (M + 21) j = (if j = y then x else h.bw (M + 21) j) ∧ (verH h M y key t x is).bi (M + 22) j = (if j = y then is else h.bi (M + 22) j) := by
  unfold verH
  refine ⟨?_, ?_, ?_, ?_⟩
  · rw [pj_sgi_bi, bi_oth (by omega), pj_sbw_bi, bi_oth (by omega), bi_at]
  · rw [pj_sgi_bi, bi_oth (by omega), pj_sbw_bi, bi_at, bi_oth (by omega)]
  · rw [pj_sgi_bw, pj_sbi_bw, bw_at, pj_sbi_bw, pj_sbi_bw]
  · rw [pj_sgi_bi, bi_at, pj_sbw_bi, bi_oth (by omega), bi_oth (by omega)]
def cS4 (N : Nat) (k76 : Hp → Int32 → Int32 → Int32 → Option (Hp × Int32)) (M : Nat) (h : Hp) (x1 x2 x3 y0 : Int32) : Option (Hp × Int32) := dr h 32 (h.gr 1317 M) (fun a12 => ck (¬ (y0 < 0 ∨ h.al a12 ≤ y0.toNatClampNeg)) (dr h 32 (h.gr 1327 M) (fun a14 => ck (¬ (h.gi 1328 M < 0 ∨ h.al a14 ≤ (h.gi 1328 M).toNatClampNeg)) (ck (h.bi a12 y0.toNatClampNeg = 0 ∨ h.bi a12 y0.toNatClampNeg = 1) (B_X10_commit_163 N k76 M (h.sbi a14 (h.gi 1328 M).toNatClampNeg (h.bi a12 y0.toNatClampNeg)) x1 x2 x3)))))
def cS3 (N : Nat) (k76 : Hp → Int32 → Int32 → Int32 → Option (Hp × Int32)) (M : Nat) (h : Hp) (x1 x2 x3 y0 : Int32) : Option (Hp × Int32) := dr h 31 (h.gr 1316 M) (fun a8 => ck (¬ (y0 < 0 ∨ h.al a8 ≤ y0.toNatClampNeg)) (dr h 31 (h.gr 1326 M) (fun a10 => ck (¬ (h.gi 1328 M < 0 ∨ h.al a10 ≤ (h.gi 1328 M).toNatClampNeg)) (cS4 N k76 M (h.sbw a10 (h.gi 1328 M).toNatClampNeg (h.bw a8 y0.toNatClampNeg)) x1 x2 x3 y0))))
def cS2 (N : Nat) (k76 : Hp → Int32 → Int32 → Int32 → Option (Hp × Int32)) (M : Nat) (h : Hp) (x1 x2 x3 y0 : Int32) : Option (Hp × Int32) := dr h 30 (h.gr 1325 M) (fun a6 => ck (¬ (h.gi 1328 M < 0 ∨ h.al a6 ≤ (h.gi 1328 M).toNatClampNeg)) (cS3 N k76 M (h.sbi a6 (h.gi 1328 M).toNatClampNeg x1) x1 x2 x3 y0))
theorem cm95_cut (N : Nat) (k76 : Hp → Int32 → Int32 → Int32 → Option (Hp × Int32)) (M : Nat) (h : Hp) (x1 x2 x3 y0 : Int32) : B_X10_commit_95 N k76 M h x1 x2 x3 y0 = if y0 = (-1 : Int32) then (B_X10_commit_173 N k76 M h x1 x2 x3) else (dr h 30 (h.gr 1352 M) (fun a2 => ck (¬ (x3 < 0 ∨ h.al a2 ≤ x3.toNatClampNeg)) (dr h 30 (h.gr 1324 M) (fun a4 => ck (¬ (h.gi 1328 M < 0 ∨ h.al a4 ≤ (h.gi 1328 M).toNatClampNeg)) (cS2 N k76 M (h.sbi a4 (h.gi 1328 M).toNatClampNeg (h.bi a2 x3.toNatClampNeg)) x1 x2 x3 y0))))) := by
  unfold B_X10_commit_95 cS2 cS3 cS4
  rfl
theorem cS4_eq (q : Rk h M) (N : Nat) (k76 : Hp → Int32 → Int32 → Int32 → Option (Hp × Int32)) {y i j : Nat} (eg : h.gi 1328 M = nI y) (hy : y < 514) (hj : j < 514) (hB : h.bi (M + 14) j = 0 ∨ h.bi (M + 14) j = 1) (x1 x2 : Int32) : cS4 N k76 M h x1 x2 (nI i) (nI j) = k76 ((h.sbi (M + 22) y (h.bi (M + 14) j)).sgi 1328 M (nI (y + 1))) x1 x2 (nI (i + 1)) := by
  unfold cS4 B_X10_commit_163 B_X10_commit_173
  rw [rd_1317 q, rx_1317 q hj, rd_1327 q, eg, rx_1327 q hy, ni_clp (show y < _ by omega), ni_clp (show j < _ by omega)]
  refine (ck_eq hB).trans ?_
  rw [pj_sbi_gi, eg, ni_inc, ni_inc]
theorem cS3_eq (q : Rk h M) (N : Nat) (k76 : Hp → Int32 → Int32 → Int32 → Option (Hp × Int32)) {y j : Nat} (eg : h.gi 1328 M = nI y) (hy : y < 514) (hj : j < 514) (x1 x2 x3 : Int32) : cS3 N k76 M h x1 x2 x3 (nI j) = cS4 N k76 M (h.sbw (M + 21) y (h.bw (M + 13) j)) x1 x2 x3 (nI j) := by
  unfold cS3
  rw [rd_1316 q, rx_1316 q hj, rd_1326 q, eg, rx_1326 q hy, ni_clp (show y < _ by omega), ni_clp (show j < _ by omega)]
theorem cS2_eq (q : Rk h M) (N : Nat) (k76 : Hp → Int32 → Int32 → Int32 → Option (Hp × Int32)) {y : Nat} (eg : h.gi 1328 M = nI y) (hy : y < 514) (x1 x2 x3 y0 : Int32) : cS2 N k76 M h x1 x2 x3 y0 = cS3 N k76 M (h.sbi (M + 20) y x1) x1 x2 x3 y0 := by
  unfold cS2
  rw [rd_1325 q, eg, rx_1325 q hy, ni_clp (show y < _ by omega)]
theorem rf_cm95 (q : Rk h M) (N : Nat) (k76 : Hp → Int32 → Int32 → Int32 → Option (Hp × Int32)) {y i j : Nat} (eg : h.gi 1328 M = nI y) (hy : y < 514) (hi : i < 514) (hj : j < 514) (hB : h.bi (M + 14) j = 0 ∨ h.bi (M + 14) j = 1) (x1 x2 : Int32) : B_X10_commit_95 N k76 M h x1 x2 (nI i) (nI j) = k76 (verH h M y (h.bi (M + 35) i) x1 (h.bw (M + 13) j) (h.bi (M + 14) j)) x1 x2 (nI (i + 1)) := by
  have key : ∀ key : Int32, cS2 N k76 M (h.sbi (M + 19) y key) x1 x2 (nI i) (nI j) = k76 (verH h M y key x1 (h.bw (M + 13) j) (h.bi (M + 14) j)) x1 x2 (nI (i + 1)) := by
    intro key
    have w2 : ((h.sbi (M + 19) y key).sbi (M + 20) y x1).bw (M + 13) j = h.bw (M + 13) j := by rw [pj_sbi_bw, pj_sbi_bw]
    have i3 : (((h.sbi (M + 19) y key).sbi (M + 20) y x1).sbw (M + 21) y (h.bw (M + 13) j)).bi (M + 14) j = h.bi (M + 14) j := by rw [pj_sbw_bi, bi_oth (by omega), bi_oth (by omega)]
    have g1 : (h.sbi (M + 19) y key).gi 1328 M = nI y := by rw [pj_sbi_gi]; exact eg
    have g2 : ((h.sbi (M + 19) y key).sbi (M + 20) y x1).gi 1328 M = nI y := by rw [pj_sbi_gi]; exact g1
    have g3 : (((h.sbi (M + 19) y key).sbi (M + 20) y x1).sbw (M + 21) y (h.bw (M + 13) j)).gi 1328 M = nI y := by rw [pj_sbw_gi]; exact g2
    rw [cS2_eq (q.sbi _ _ _) N k76 g1 hy, cS3_eq ((q.sbi _ _ _).sbi _ _ _) N k76 g2 hy hj, w2, cS4_eq (((q.sbi _ _ _).sbi _ _ _).sbw _ _ _) N k76 g3 hy hj (by rw [i3]; exact hB), i3]
    unfold verH
    rfl
  rw [cm95_cut, if_neg (ni_m1 (by omega)), rd_1352 q, rx_1352 q hi, rd_1324 q, eg, rx_1324 q hy, ni_clp (show i < _ by omega), ni_clp (show y < _ by omega)]
  exact key _
/-- key is written by t and not taken back -/
def owns (h : Hp) (M w t : Nat) (key : Int32) : Prop := ∃ j, j < w ∧ ownC h M t key j
/-- how many of the first n keys t owns -/
noncomputable def ownN (h : Hp) (M w t : Nat) (A : Nat → Int32) : Nat → Nat
  | 0 => 0
  | n + 1 => ownN h M w t A n + @ite Nat (owns h M w t (A n)) (Classical.propDecidable _) 1 0
/-- the versions y0 .. y - 1 are t's own of the keys ahead of n, in their order -/
def VerR (h : Hp) (M w y0 t : Nat) (A : Nat → Int32) (n y : Nat) (h' : Hp) : Prop := RfO [19, 20, 21, 22] [1328] M h h' ∧ h'.gi 1328 M = nI y ∧ y = y0 + ownN h M w t A n ∧ (∀ j, j < y0 → h'.bi (M + 19) j = h.bi (M + 19) j ∧ h'.bi (M + 20) j = h.bi (M + 20) j ∧ h'.bw (M + 21) j = h.bw (M + 21) j ∧ h'.bi (M + 22) j = h.bi (M + 22) j) ∧ ∀ i, i < n → owns h M w t (A i) → ∃ e, e < w ∧ lastS (ownC h M t (A i)) w (nI e) ∧ h'.bi (M + 19) (y0 + ownN h M w t A i) = A i ∧ h'.bi (M + 20) (y0 + ownN h M w t A i) = nI t ∧ h'.bw (M + 21) (y0 + ownN h M w t A i) = h.bw (M + 13) e ∧ h'.bi (M + 22) (y0 + ownN h M w t A i) = h.bi (M + 14) e
theorem ownN.mono {t : Nat} {A : Nat → Int32} {i n : Nat} (hi : i ≤ n) : ownN h M w t A i ≤ ownN h M w t A n := by
  induction n with
  | zero => rw [show i = 0 by omega]; exact Nat.le_refl _
  | succ n ih =>
    by_cases e : i = n + 1
    · rw [e]; exact Nat.le_refl _
    · exact Nat.le_trans (ih (by omega)) (Nat.le_add_right _ _)
theorem ownN.lt {t : Nat} {A : Nat → Int32} {i n : Nat} (hi : i < n) (o : owns h M w t (A i)) : ownN h M w t A i < ownN h M w t A n := by
  have e : ownN h M w t A (i + 1) = ownN h M w t A i + 1 := by
    show ownN h M w t A i + _ = _
    rw [if_pos o]
  have := ownN.mono (h := h) (M := M) (w := w) (t := t) (A := A) (show i + 1 ≤ n from hi)
  omega
theorem ownC.con {A G : List Nat} {h' : Hp} (f : RfO A G M h h') (hA : ∀ x ∈ [11, 12, 15], x ∉ A) (t : Nat) (key : Int32) : ownC h' M t key = ownC h M t key := by
  funext i
  unfold ownC
  rw [f.bi (hA 11 (by decide)), f.bi (hA 12 (by decide)), f.bi (hA 15 (by decide))]
theorem rf_cm76 (q : Rk h M) (n : Rn h M b c w l v k r) (N : Nat) (hN : 1000 < N) {m t : Nat} (em : h.gi 1353 M = nI m) (hm : m ≤ 512) (B : ∀ i, i < w → h.bi (M + 14) i = 0 ∨ h.bi (M + 14) i = 1) (room : v + ownN h M w t (h.bi (M + 35)) m ≤ 512) (x2 : Int32) : ∃ h' y, L_X10_commit_76 N M N h (nI t) x2 (nI 0) = L_X10_commit_181 N M N h' (nI t) x2 1 ∧ VerR h M w v t (h.bi (M + 35)) m y h' := by
  have hw := n.2.2.2.2.2.2.2.2.2.1
  refine lp_inv (G := fun F i (s : Hp) => L_X10_commit_76 N M F s (nI t) x2 (nI i)) (hi := m) (Inv := fun i s => ∃ y, VerR h M w v t (h.bi (M + 35)) i y s) (Q := fun o => ∃ h' y, o = L_X10_commit_181 N M N h' (nI t) x2 1 ∧ VerR h M w v t (h.bi (M + 35)) m y h') ?_ ?_ m 0 N h (by omega) (by omega) (by omega) ⟨v, RfO.rf _ _ _ _, n.2.2.2.2.1, rfl, fun _ _ => ⟨rfl, rfl, rfl, rfl⟩, fun i hi => by omega⟩
  · intro F s ⟨y, hs⟩
    refine ⟨s, y, ?_, hs⟩
    show B_X10_commit_76 N _ M s (nI t) x2 (nI m) = _
    unfold B_X10_commit_76
    rw [hs.1.gi (by decide), em]
    exact if_pos ((ni_le (by omega) (by omega)).mpr (by omega))
  · intro F i s hi ⟨y, f, gy, ey, old, nw⟩
    left
    have q' := f.rk q
    have own' : ∀ key, ownC s M t key = ownC h M t key := fun key => ownC.con f (by decide) t key
    have e35 : s.bi (M + 35) = h.bi (M + 35) := f.bi (by decide)
    have e14 : s.bi (M + 14) = h.bi (M + 14) := f.bi (by decide)
    have e13 : s.bw (M + 13) = h.bw (M + 13) := f.bw (by decide)
    have up := ownN.mono (h := h) (M := M) (w := w) (t := t) (A := h.bi (M + 35)) (show i ≤ m by omega)
    have n' : Rn s M b c w l y k r := by
      obtain ⟨n1, n2, n3, n4, n5, n6, n7, n8, n9, n10, n11, n12, n13, n14⟩ := n
      exact ⟨(f.gi (by decide)).trans n1, (f.gi (by decide)).trans n2, (f.gi (by decide)).trans n3, (f.gi (by decide)).trans n4, gy, (f.gi (by decide)).trans n6, (f.gi (by decide)).trans n7, n8, n9, n10, n11, by omega, n13, n14⟩
    obtain ⟨x, e1, e2⟩ := rf_ownOf q' n' N hN t (h.bi (M + 35) i)
    rw [own'] at e2
    have st : ∀ {z : Option (Hp × Int32)}, B_X10_commit_95 N (L_X10_commit_76 N M F) M s (nI t) x2 (nI i) x = z → L_X10_commit_76 N M (F + 1) s (nI t) x2 (nI i) = z := by
      intro z hz
      show B_X10_commit_76 N (L_X10_commit_76 N M F) M s (nI t) x2 (nI i) = z
      unfold B_X10_commit_76
      rw [f.gi (by decide), em]
      refine (if_neg (by exact fun z => by rw [ni_le (by omega) (by omega)] at z; omega)).trans ?_
      rw [rd_1352 q', rx_1352 q' (show i < 514 by omega), ni_clp (show i < _ by omega), e35]
      refine (bnd (by exact e1)).trans ?_
      exact hz
    show ∃ s' : Hp, (∃ y, VerR h M w v t (h.bi (M + 35)) (i + 1) y s') ∧ L_X10_commit_76 N M (F + 1) s (nI t) x2 (nI i) = L_X10_commit_76 N M F s' (nI t) x2 (nI (i + 1))
    rcases e2 with ⟨p1, p2⟩ | ⟨e, p1, p2, p3, p4⟩
    · have no : ¬ owns h M w t (h.bi (M + 35) i) := fun ⟨j, h1, h2⟩ => p2 j h1 h2
      refine ⟨s, ⟨y, f, gy, ?_, old, fun j hj o => ?_⟩, st ?_⟩
      · show y = v + (ownN h M w t (h.bi (M + 35)) i + _)
        rw [if_neg no]
        exact ey
      · by_cases z : j = i
        · rw [z] at o; exact absurd o no
        · exact nw j (by omega) o
      · unfold B_X10_commit_95 B_X10_commit_173
        refine (if_pos (by exact p1)).trans ?_
        rw [ni_inc]
    · have yes : owns h M w t (h.bi (M + 35) i) := ⟨e, p1, p3⟩
      have lt := ownN.lt (n := m) hi yes
      refine ⟨_, ⟨y + 1, f.tr verH.ro, gi_same, ?_, fun j hj => ?_, fun j hj o => ?_⟩, st (by rw [p2]; exact rf_cm95 q' N _ gy (by omega) (by omega) (by omega) (by rw [e14]; exact B e p1) _ _)⟩
      · show y + 1 = v + (ownN h M w t (h.bi (M + 35)) i + _)
        rw [if_pos yes]
        omega
      · obtain ⟨a1, a2, a3, a4⟩ := verH.a (h := s) (M := M) (y := y) (key := s.bi (M + 35) i) (t := nI t) (x := s.bw (M + 13) e) (is := s.bi (M + 14) e) j
        rw [a1, a2, a3, a4, if_neg (by omega), if_neg (by omega), if_neg (by omega), if_neg (by omega)]
        exact old j hj
      · by_cases z : j = i
        · rw [z]
          obtain ⟨a1, a2, a3, a4⟩ := verH.a (h := s) (M := M) (y := y) (key := s.bi (M + 35) i) (t := nI t) (x := s.bw (M + 13) e) (is := s.bi (M + 14) e) y
          rw [← ey, a1, a2, a3, a4, if_pos rfl, if_pos rfl, if_pos rfl, if_pos rfl, e35, e13, e14]
          exact ⟨e, p1, Or.inr ⟨e, p1, rfl, p3, p4⟩, rfl, rfl, rfl, rfl⟩
        · have lt2 := ownN.lt (show j < i by omega) o
          obtain ⟨a1, a2, a3, a4⟩ := verH.a (h := s) (M := M) (y := y) (key := s.bi (M + 35) i) (t := nI t) (x := s.bw (M + 13) e) (is := s.bi (M + 14) e) (v + ownN h M w t (h.bi (M + 35)) j)
          rw [a1, a2, a3, a4, if_neg (by omega), if_neg (by omega), if_neg (by omega), if_neg (by omega)]
          exact nw j (by omega) o
end RF10
