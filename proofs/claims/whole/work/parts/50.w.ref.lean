/-! scan -/
section RF23
variable {h : Hp} {M b c w l v k r : Nat}
/-- the value that t sees under key -/
def seeV (h : Hp) (M w v t : Nat) (key : Int32) (x : Int64) : Prop := (∃ i, i < w ∧ lastS (ownC h M t key) w (nI i) ∧ x = h.bw (M + 13) i) ∨ (lastS (ownC h M t key) w (-1) ∧ ∃ i, i < v ∧ lastS (vatC h M key (h.bi (M + 3) t)) v (nI i) ∧ x = h.bw (M + 21) i)
theorem seeV.con {A G : List Nat} {h' : Hp} (f : RfO A G M h h') (hA : ∀ x ∈ [3, 4, 11, 12, 13, 15, 19, 20, 21], x ∉ A) {t : Nat} {key : Int32} {x : Int64} : seeV h' M w v t key x ↔ seeV h M w v t key x := by
  unfold seeV
  rw [ownC.con f (fun x hx => hA x (by simp at hx ⊢; omega)), vatC.con f (fun x hx => hA x (by simp at hx ⊢; omega)), f.bi (hA 3 (by decide)), f.bw (hA 13 (by decide)), f.bw (hA 21 (by decide))]
theorem SeeR.val {t : Nat} {key x : Int32} {h' : Hp} (s : SeeR h M w v t key h' x) (hx : x ≠ 0) : seeV h M w v t key (h'.gl 1351 M) := by
  rcases s with ⟨i, i1, i2, e, _⟩ | ⟨o, ⟨n, _, e⟩ | ⟨i, i1, i2, e, _⟩⟩
  · exact Or.inl ⟨i, i1, i2, by rw [e]; exact gl_same⟩
  · exact absurd e hx
  · exact Or.inr ⟨o, i, i1, i2, by rw [e]; exact gl_same⟩
def scP (h : Hp) (M w v t : Nat) (A : Nat → Int32) (a z : Int32) (j : Nat) : Prop := ¬ A j < a ∧ ¬ z < A j ∧ seeB h M w v t (A j)
/-- what the loop of scan keeps: rows so far, and the last key to look at -/
def ScI (h : Hp) (M w v r t : Nat) (A : Nat → Int32) (a z : Int32) (most i : Nat) (s : Hp × Int32 × Int32) : Prop := RfO [33, 34] [1351] M h s.1 ∧ ∃ n, s.2.1 = nI n ∧ n = cntQ (scP h M w v t A a z) i ∧ (∀ j, j < i → scP h M w v t A a z j → s.1.bi (M + 33) (r + cntQ (scP h M w v t A a z) j) = A j ∧ seeV h M w v t (A j) (s.1.bw (M + 34) (r + cntQ (scP h M w v t A a z) j))) ∧ (∀ j, j < r → s.1.bi (M + 33) j = h.bi (M + 33) j ∧ s.1.bw (M + 34) j = h.bw (M + 34) j) ∧ ((n < most ∧ s.2.2 = z) ∨ (n = most ∧ ∃ i', i = i' + 1 ∧ scP h M w v t A a z i' ∧ s.2.2 = A i'))
theorem cntQ_lt {P : Nat → Prop} {i j : Nat} (hij : i < j) (hp : P i) : cntQ P i < cntQ P j := by
  induction j with
  | zero => omega
  | succ j ih =>
    have cs : cntQ P (j + 1) = cntQ P j + @ite Nat (P j) (Classical.propDecidable _) 1 0 := rfl
    by_cases e : i = j
    · rw [e] at hp ⊢
      rw [if_pos hp] at cs
      omega
    · have := ih (by omega)
      omega
theorem cntQ_mono {P : Nat → Prop} {i j : Nat} (h : i ≤ j) : cntQ P i ≤ cntQ P j := by
  induction j with
  | zero => rw [show i = 0 by omega]; exact Nat.le_refl _
  | succ j ih =>
    by_cases e : i = j + 1
    · rw [e]; exact Nat.le_refl _
    · have cs : cntQ P (j + 1) = cntQ P j + @ite Nat (P j) (Classical.propDecidable _) 1 0 := rfl
      have := ih (by omega)
      omega
def sS3 (N : Nat) (k58 : Hp → Int32 → Int32 → Int32 → Int32 → Int32 → Int32 → Int32 → Option (Hp × Int32)) (M : Nat) (h : Hp) (x1 x2 x3 x4 x5 x7 : Int32) : Option (Hp × Int32) := if (x5 + (1 : Int32)) = x4 then (dr h 30 (h.gr 1352 M) (fun a9 => ck (¬ (x7 < 0 ∨ h.al a9 ≤ x7.toNatClampNeg)) (B_X10_scan_170 N k58 M h x1 x2 x3 x4 (x5 + (1 : Int32)) x7 (h.bi a9 x7.toNatClampNeg)))) else (B_X10_scan_170 N k58 M h x1 x2 x3 x4 (x5 + (1 : Int32)) x7 x3)
def sS2 (N : Nat) (k58 : Hp → Int32 → Int32 → Int32 → Int32 → Int32 → Int32 → Int32 → Option (Hp × Int32)) (M : Nat) (h : Hp) (x1 x2 x3 x4 x5 x7 : Int32) : Option (Hp × Int32) := dr h 31 (h.gr 1341 M) (fun a6 => ck (¬ ((h.gi 1342 M) + x5 < 0 ∨ h.al a6 ≤ ((h.gi 1342 M) + x5).toNatClampNeg)) (sS3 N k58 M (h.sbw a6 ((h.gi 1342 M) + x5).toNatClampNeg (h.gl 1351 M)) x1 x2 x3 x4 x5 x7))
theorem sc_cut (N : Nat) (k58 : Hp → Int32 → Int32 → Int32 → Int32 → Int32 → Int32 → Int32 → Option (Hp × Int32)) (M : Nat) (h : Hp) (x1 x2 x3 x4 x5 x6 x7 y0 : Int32) : B_X10_scan_108 N k58 M h x1 x2 x3 x4 x5 x6 x7 y0 = if y0 = 0 then (B_X10_scan_172 N k58 M h x1 x2 x3 x4 x5 x6 x7) else (dr h 30 (h.gr 1352 M) (fun a2 => ck (¬ (x7 < 0 ∨ h.al a2 ≤ x7.toNatClampNeg)) (dr h 30 (h.gr 1340 M) (fun a4 => ck (¬ ((h.gi 1342 M) + x5 < 0 ∨ h.al a4 ≤ ((h.gi 1342 M) + x5).toNatClampNeg)) (sS2 N k58 M (h.sbi a4 ((h.gi 1342 M) + x5).toNatClampNeg (h.bi a2 x7.toNatClampNeg)) x1 x2 x3 x4 x5 x7))))) := by
  unfold B_X10_scan_108 sS2 sS3
  rfl
section RFs
variable {h : Hp} {M : Nat}
theorem sS3_eq (q : Rk h M) (N : Nat) (k58 : Hp → Int32 → Int32 → Int32 → Int32 → Int32 → Int32 → Int32 → Option (Hp × Int32)) {d most i : Nat} (hi : i < 514) (hd : d < 1000) (hm : most < 1000) (x1 x2 x3 : Int32) : sS3 N k58 M h x1 x2 x3 (nI most) (nI d) (nI i) = k58 h x1 x2 x3 (nI most) (nI (d + 1)) (if d + 1 = most then h.bi (M + 35) i else x3) (nI (i + 1)) := by
  unfold sS3 B_X10_scan_170 B_X10_scan_172
  rw [rd_1352 q, rx_1352 q hi, ni_clp (show i < _ by omega), ni_inc, ni_inc]
  by_cases z4 : d + 1 = most
  · rw [if_pos (by rw [z4]), if_pos z4]
  · rw [if_neg (by rw [ni_inj (by omega) (by omega)]; exact z4), if_neg z4]
theorem sS2_eq (q : Rk h M) (N : Nat) (k58 : Hp → Int32 → Int32 → Int32 → Int32 → Int32 → Int32 → Int32 → Option (Hp × Int32)) {r d : Nat} (er : h.gi 1342 M = nI r) (hr : r + d < 42000) (x1 x2 x3 x4 x7 : Int32) : sS2 N k58 M h x1 x2 x3 x4 (nI d) x7 = sS3 N k58 M (h.sbw (M + 34) (r + d) (h.gl 1351 M)) x1 x2 x3 x4 (nI d) x7 := by
  unfold sS2
  rw [er, show nI r + nI d = nI (r + d) from nI_add _ _, rd_1341 q, rx_1341 q hr, ni_clp (show r + d < _ by omega)]
theorem sc_108 (q : Rk h M) (N : Nat) (k58 : Hp → Int32 → Int32 → Int32 → Int32 → Int32 → Int32 → Int32 → Option (Hp × Int32)) {r d most i : Nat} (er : h.gi 1342 M = nI r) (hr : r + d < 42000) (hi : i < 514) (hd : d < 1000) (hm : most < 1000) (x1 x2 x3 x6 y0 : Int32) (hy : ¬ y0 = 0) : B_X10_scan_108 N k58 M h x1 x2 x3 (nI most) (nI d) x6 (nI i) y0 = k58 ((h.sbi (M + 33) (r + d) (h.bi (M + 35) i)).sbw (M + 34) (r + d) (h.gl 1351 M)) x1 x2 x3 (nI most) (nI (d + 1)) (if d + 1 = most then h.bi (M + 35) i else x3) (nI (i + 1)) := by
  rw [sc_cut, if_neg hy, er, show nI r + nI d = nI (r + d) from nI_add _ _, rd_1352 q, rx_1352 q hi, rd_1340 q, rx_1340 q hr, ni_clp (show r + d < _ by omega), ni_clp (show i < _ by omega)]
  generalize hx : h.bi (M + 35) i = x
  have e2 := sS2_eq (q.sbi (M + 33) (r + d) x) N k58 (r := r) (d := d) er hr x1 x2 x3 (nI most) (nI i)
  have e3 := sS3_eq ((q.sbi (M + 33) (r + d) x).sbw (M + 34) (r + d) (h.gl 1351 M)) N k58 hi hd hm x1 x2 x3
  refine e2.trans (e3.trans ?_)
  rw [pj_sbw_bi, bi_oth (by omega), hx]
end RFs
theorem rf_scn (q : Rk h M) (n : Rn h M b c w l v k r) (N : Nat) (hN : 1000 < N) (g : VtOk h M b v) (B : WvB h M w v) {t m most : Nat} (ht : t < 514) (em : h.gi 1353 M = nI m) (hm : m ≤ 512) (m1 : 1 ≤ most) (m2 : most ≤ 100) (a z : Int32) : ∃ i s, i ≤ m ∧ L_X10_scan_58 N M N h (nI t) a z (nI most) 0 z (nI 0) = B_X10_scan_178 N M s.1 (nI t) a z (nI most) s.2.1 s.2.2 ∧ ScI h M w v r t (h.bi (M + 35)) a z most i s ∧ (s.2.1 = nI most ∨ i = m) := by
  have hw := n.2.2.2.2.2.2.2.2.2.1
  have hv := n.2.2.2.2.2.2.2.2.2.2.2.1
  have hr := n.2.2.2.2.2.2.2.2.2.2.2.2.2
  refine lp_inv (G := fun F i (s : Hp × Int32 × Int32) => L_X10_scan_58 N M F s.1 (nI t) a z (nI most) s.2.1 s.2.2 (nI i)) (hi := m) (Inv := fun i s => ScI h M w v r t (h.bi (M + 35)) a z most i s) (Q := fun o => ∃ i s, i ≤ m ∧ o = B_X10_scan_178 N M s.1 (nI t) a z (nI most) s.2.1 s.2.2 ∧ ScI h M w v r t (h.bi (M + 35)) a z most i s ∧ (s.2.1 = nI most ∨ i = m)) ?_ ?_ m 0 N (h, 0, z) (by omega) (by omega) (by omega) ⟨RfO.rf _ _ _ _, 0, rfl, rfl, fun j hj => by omega, fun j hj => ⟨rfl, rfl⟩, Or.inl ⟨by omega, rfl⟩⟩
  · intro F s hs
    refine ⟨m, s, Nat.le_refl _, ?_, hs, Or.inr rfl⟩
    show B_X10_scan_58 N _ M s.1 (nI t) a z (nI most) s.2.1 s.2.2 (nI m) = _
    unfold B_X10_scan_58
    rw [hs.1.gi (by decide), em]
    exact if_pos ((ni_le (by omega) (by omega)).mpr (by omega))
  · intro F i s hi hs
    obtain ⟨s, nn, la⟩ := s
    have hs0 := hs
    obtain ⟨f, d, e1, e2, e3, e4, e5⟩ := hs
    have f : RfO [33, 34] [1351] M h s := f
    have e1 : nn = nI d := e1
    have q' := f.rk q
    have n' := f.rn n (by decide)
    have e35 : s.bi (M + 35) = h.bi (M + 35) := f.bi (by decide)
    by_cases full : d = most
    · right
      refine ⟨i, (s, nn, la), by omega, ?_, hs0, Or.inl (by rw [e1, full])⟩
      show B_X10_scan_58 N _ M s (nI t) a z (nI most) nn la (nI i) = _
      unfold B_X10_scan_58
      rw [f.gi (by decide), em, if_neg (by rw [ni_le (by omega) (by omega)]; omega)]
      refine if_pos ?_
      rw [e1, ni_le (by omega) (by rcases e5 with y | y <;> omega)]
      omega
    · left
      have dl : d < most ∧ la = z := by
        rcases e5 with y | y
        · exact y
        · exact absurd y.1 full
      obtain ⟨h', x, g1, g2⟩ := rf_sees q' n' N hN (g.con f (by decide)) (B.con f (by decide) (by decide)) ht (h.bi (M + 35) i)
      have f0 : RfO [33, 34] [1351] M s h' := g2.ro.mono (fun _ y => by cases y) (fun _ y => y)
      have f2 : RfO [33, 34] [1351] M h h' := f.tr f0
      have q2 := f2.rk q
      have n2 := f2.rn n (by decide)
      have e35' : h'.bi (M + 35) = h.bi (M + 35) := f2.bi (by decide)
      have sx := (g2.see hw hv).trans (seeB.con f (by decide))
      have body : L_X10_scan_58 N M (F + 1) s (nI t) a z (nI most) nn la (nI i) = if h.bi (M + 35) i < a then L_X10_scan_58 N M F s (nI t) a z (nI most) nn la (nI (i + 1)) else if z < h.bi (M + 35) i then L_X10_scan_58 N M F s (nI t) a z (nI most) nn la (nI (i + 1)) else if x = 0 then L_X10_scan_58 N M F h' (nI t) a z (nI most) nn la (nI (i + 1)) else L_X10_scan_58 N M F ((h'.sbi (M + 33) (r + d) (h.bi (M + 35) i)).sbw (M + 34) (r + d) (h'.gl 1351 M)) (nI t) a z (nI most) (nI (d + 1)) (if d + 1 = most then h.bi (M + 35) i else z) (nI (i + 1)) := by
        show B_X10_scan_58 N (L_X10_scan_58 N M F) M s (nI t) a z (nI most) nn la (nI i) = _
        unfold B_X10_scan_58 B_X10_scan_172
        rw [f.gi (by decide), em, if_neg (by rw [ni_le (by omega) (by omega)]; omega), if_neg (by rw [e1, ni_le (by omega) (by omega)]; omega)]
        rw [rd_1352 q', rx_1352 q' (show i < 514 by omega), rd_1352 q', rx_1352 q' (show i < 514 by omega), rd_1352 q', rx_1352 q' (show i < 514 by omega), ni_clp (show i < _ by omega), e35, ni_inc]
        by_cases z1 : h.bi (M + 35) i < a
        · rw [if_pos z1, if_pos z1]
        · rw [if_neg z1, if_neg z1]
          by_cases z2 : z < h.bi (M + 35) i
          · rw [if_pos z2, if_pos z2]
          · rw [if_neg z2, if_neg z2]
            refine (bnd (by exact g1)).trans ?_
            show B_X10_scan_108 N (L_X10_scan_58 N M F) M h' (nI t) a z (nI most) nn la (nI i) x = _
            by_cases z3 : x = 0
            · rw [if_pos z3, sc_cut, if_pos z3]
              unfold B_X10_scan_172
              rw [ni_inc]
            · rw [if_neg z3, e1, sc_108 q2 N _ n2.2.2.2.2.2.2.1 (show r + d < 42000 by omega) (show i < 514 by omega) (show d < 1000 by omega) (show most < 1000 by omega) (nI t) a z la x z3, e35']
      have cs : cntQ (scP h M w v t (h.bi (M + 35)) a z) (i + 1) = cntQ (scP h M w v t (h.bi (M + 35)) a z) i + @ite Nat (scP h M w v t (h.bi (M + 35)) a z i) (Classical.propDecidable _) 1 0 := rfl
      have skip : ∀ s2, RfO [33, 34] [1351] M h s2 → s2.bi (M + 33) = s.bi (M + 33) → s2.bw (M + 34) = s.bw (M + 34) → ¬ scP h M w v t (h.bi (M + 35)) a z i → ScI h M w v r t (h.bi (M + 35)) a z most (i + 1) (s2, nn, la) := by
        intro s2 k1 k2 k3 nz
        rw [if_neg nz] at cs
        refine ⟨k1, d, e1, by omega, fun j hj pj => ?_, fun j hj => ?_, Or.inl dl⟩
        · show s2.bi (M + 33) _ = _ ∧ seeV h M w v t _ (s2.bw (M + 34) _)
          rw [k2, k3]
          by_cases e : j = i
          · rw [e] at pj; exact absurd pj nz
          · exact e3 j (by omega) pj
        · show s2.bi (M + 33) _ = _ ∧ s2.bw (M + 34) _ = _
          rw [k2, k3]; exact e4 j hj
      show ∃ s' : Hp × Int32 × Int32, ScI h M w v r t (h.bi (M + 35)) a z most (i + 1) s' ∧ L_X10_scan_58 N M (F + 1) s (nI t) a z (nI most) nn la (nI i) = L_X10_scan_58 N M F s'.1 (nI t) a z (nI most) s'.2.1 s'.2.2 (nI (i + 1))
      rw [body]
      have r33 : h'.bi (M + 33) = s.bi (M + 33) := g2.ro.bi (by decide)
      have r34 : h'.bw (M + 34) = s.bw (M + 34) := g2.ro.bw (by decide)
      by_cases z1 : h.bi (M + 35) i < a
      · rw [if_pos z1]
        exact ⟨(s, nn, la), skip s f rfl rfl (fun y => y.1 z1), rfl⟩
      · rw [if_neg z1]
        by_cases z2 : z < h.bi (M + 35) i
        · rw [if_pos z2]
          exact ⟨(s, nn, la), skip s f rfl rfl (fun y => y.2.1 z2), rfl⟩
        · rw [if_neg z2]
          by_cases z3 : x = 0
          · rw [if_pos z3]
            exact ⟨(h', nn, la), skip h' f2 r33 r34 (fun y => sx.mpr y.2.2 z3), rfl⟩
          · rw [if_neg z3]
            have pi : scP h M w v t (h.bi (M + 35)) a z i := ⟨z1, z2, sx.mp z3⟩
            rw [if_pos pi] at cs
            have vv := (seeV.con f (by decide)).mp (g2.val z3)
            refine ⟨(_, _, _), ⟨(f2.tr (RfO.sbi (k := 33) (by decide) _ _)).tr (RfO.sbw (k := 34) (by decide) _ _), d + 1, rfl, by omega, fun j hj pj => ?_, fun j hj => ?_, ?_⟩, rfl⟩
            · show ((h'.sbi (M + 33) (r + d) (h.bi (M + 35) i)).sbw (M + 34) (r + d) (h'.gl 1351 M)).bi (M + 33) _ = _ ∧ seeV h M w v t _ (((h'.sbi (M + 33) (r + d) (h.bi (M + 35) i)).sbw (M + 34) (r + d) (h'.gl 1351 M)).bw (M + 34) _)
              rw [pj_sbw_bi, bi_at, bw_at, pj_sbi_bw]
              by_cases e : j = i
              · rw [e, ← e2, if_pos rfl, if_pos rfl]
                exact ⟨rfl, vv⟩
              · have := cntQ_lt (show j < i by omega) pj
                rw [if_neg (by omega), if_neg (by omega), r33, r34]
                exact e3 j (by omega) pj
            · show ((h'.sbi (M + 33) (r + d) (h.bi (M + 35) i)).sbw (M + 34) (r + d) (h'.gl 1351 M)).bi (M + 33) _ = _ ∧ ((h'.sbi (M + 33) (r + d) (h.bi (M + 35) i)).sbw (M + 34) (r + d) (h'.gl 1351 M)).bw (M + 34) _ = _
              rw [pj_sbw_bi, bi_at, bw_at, pj_sbi_bw, if_neg (by omega), if_neg (by omega), r33, r34]
              exact e4 j hj
            · by_cases z4 : d + 1 = most
              · right
                refine ⟨z4, i, rfl, pi, ?_⟩
                show (if d + 1 = most then h.bi (M + 35) i else z) = _
                rw [if_pos z4]
              · left
                refine ⟨by omega, ?_⟩
                show (if d + 1 = most then h.bi (M + 35) i else z) = _
                rw [if_neg z4]
end RF23
