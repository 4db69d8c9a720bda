/-! doing again: isScanAgain -/
section RF34
variable {h : Hp} {M m : Nat}
def sgP (h : Hp) (M : Nat) (L : Ow) (mp : Int32 → Option Int64) (k j : Nat) : Prop := ¬ h.bi (M + 35) j < h.bi (M + 25) k ∧ ¬ h.bi (M + 26) k < h.bi (M + 35) j ∧ nowF L mp (h.bi (M + 35) j) ≠ none
/-- the first i rows come out as they did -/
def sgS (h : Hp) (M : Nat) (L : Ow) (mp : Int32 → Option Int64) (k an rr i : Nat) : Prop := ∀ j, j < i → sgP h M L mp k j → cntQ (sgP h M L mp k) j < an ∧ h.bi (M + 33) (rr + cntQ (sgP h M L mp k) j) = h.bi (M + 35) j ∧ nowF L mp (h.bi (M + 35) j) = some (h.bw (M + 34) (rr + cntQ (sgP h M L mp k) j))
/-- a scan comes out as it did -/
def SgR (h : Hp) (M m : Nat) (L : Ow) (mp : Int32 → Option Int64) (k mo an rr : Nat) : Prop := ∃ i, i ≤ m ∧ (i = m ∨ cntQ (sgP h M L mp k) i = mo) ∧ (∀ j, j < i → cntQ (sgP h M L mp k) j < mo) ∧ sgS h M L mp k an rr i ∧ cntQ (sgP h M L mp k) i = an
theorem rf_isScanAgain (q : Rk h M) {L : Ow} {mp : Int32 → Option Int64} (s : RpS h M m L mp) (N : Nat) (hN : 1000 < N) {k mo an rr : Nat} (hk : k < 512) (e27 : h.bi (M + 27) k = nI mo) (e29 : h.bi (M + 29) k = nI an) (e32 : h.bi (M + 32) k = nI rr) (m1 : 1 ≤ mo) (m2 : mo ≤ 100) (a1 : an ≤ 100) (r1 : rr + an ≤ 42000) : ∃ h' x, J_X10_isScanAgain N M h (nI k) = some (h', x) ∧ RfO [] [1351] M h h' ∧ B01 x (SgR h M m L mp k mo an rr) := by
  have em := s.1
  have hm := s.2.1
  have fin : ∀ (s1 : Hp) (i d : Nat) (sm : Int32), RfO [] [1351] M h s1 → i ≤ m → d = cntQ (sgP h M L mp k) i → (i = m ∨ d = mo) → (∀ j, j < i → cntQ (sgP h M L mp k) j < mo) → d ≤ mo → B01 sm (sgS h M L mp k an rr i) → ∃ h' x, B_X10_isScanAgain_148 N M s1 (nI k) (nI d) sm = some (h', x) ∧ RfO [] [1351] M h h' ∧ B01 x (SgR h M m L mp k mo an rr) := by
    intro s1 i d sm f im ed en bl dm sm1
    have q' := f.rk q
    have t : B_X10_isScanAgain_148 N M s1 (nI k) (nI d) sm = if sm = 0 then some (s1, (0 : Int32)) else if nI d = nI an then some (s1, 1) else some (s1, 0) := by
      unfold B_X10_isScanAgain_148 B_X10_isScanAgain_166 B_X10_isScanAgain_167
      rw [rd_1335 q', rx_1335 q' (show k < 514 by omega), ni_clp (show k < _ by omega), f.bi (by decide), e29, ck_eq (Or.inl rfl), ck_eq (Or.inr rfl)]
    have ui : ∀ {i'}, i' ≤ m → (i' = m ∨ cntQ (sgP h M L mp k) i' = mo) → (∀ j, j < i' → cntQ (sgP h M L mp k) j < mo) → i' = i := by
      intro i' u1 u2 u3
      rcases Nat.lt_trichotomy i' i with z | z | z
      · have := bl i' z
        rcases u2 with u2 | u2 <;> omega
      · exact z
      · have := u3 i z
        rcases en with en | en <;> omega
    rw [t]
    rcases sm1 with ⟨p1, p2⟩ | ⟨p1, p2⟩
    · rw [if_neg (by rw [p1]; decide)]
      by_cases z : nI d = nI an
      · rw [if_pos z]
        have := (ni_inj (by omega) (by omega)).mp z
        exact ⟨s1, 1, rfl, f, Or.inl ⟨rfl, i, im, en.imp id (fun u => by omega), bl, p2, by omega⟩⟩
      · rw [if_neg z]
        refine ⟨s1, 0, rfl, f, Or.inr ⟨rfl, fun ⟨i', u1, u2, u3, u4, u5⟩ => z ?_⟩⟩
        rw [ui u1 u2 u3] at u5
        rw [ed, u5]
    · rw [if_pos p1]
      refine ⟨s1, 0, rfl, f, Or.inr ⟨rfl, fun ⟨i', u1, u2, u3, u4, u5⟩ => p2 ?_⟩⟩
      rw [← ui u1 u2 u3]
      exact u4
  refine lp_inv (G := fun F i (s : Hp × Int32 × Int32) => L_X10_isScanAgain_7 N M F s.1 (nI k) s.2.1 s.2.2 (nI i)) (hi := m) (Inv := fun i s => RfO [] [1351] M h s.1 ∧ s.2.1 = nI (cntQ (sgP h M L mp k) i) ∧ (∀ j, j < i → cntQ (sgP h M L mp k) j < mo) ∧ cntQ (sgP h M L mp k) i ≤ mo ∧ B01 s.2.2 (sgS h M L mp k an rr i)) (Q := fun o => ∃ h' x, o = some (h', x) ∧ RfO [] [1351] M h h' ∧ B01 x (SgR h M m L mp k mo an rr)) ?_ ?_ m 0 N (h, 0, 1) (by omega) (by omega) (by omega) ⟨RfO.rf _ _ _ _, rfl, fun j hj => by omega, Nat.zero_le _, Or.inl ⟨rfl, fun j hj => by omega⟩⟩
  · intro F s1 hs
    obtain ⟨f, p1, p2, p3, p4⟩ := hs
    obtain ⟨h', x, e1, e2⟩ := fin s1.1 m _ s1.2.2 f (Nat.le_refl _) rfl (Or.inl rfl) p2 p3 p4
    refine ⟨h', x, ?_, e2⟩
    show B_X10_isScanAgain_7 N _ M s1.1 (nI k) s1.2.1 s1.2.2 (nI m) = _
    unfold B_X10_isScanAgain_7
    rw [f.gi (by decide), em, if_pos ((ni_le (by omega) (by omega)).mpr (Nat.le_refl _)), p1]
    exact e1
  · intro F i s1 hi hs
    obtain ⟨s1, nn, sm⟩ := s1
    obtain ⟨f, p1, p2, p3, p4⟩ := hs
    have f : RfO [] [1351] M h s1 := f
    have p1 : nn = nI (cntQ (sgP h M L mp k) i) := p1
    have p4 : B01 sm (sgS h M L mp k an rr i) := p4
    obtain ⟨d, ed⟩ : ∃ d, d = cntQ (sgP h M L mp k) i := ⟨_, rfl⟩
    rw [← ed] at p1 p3
    have q' := f.rk q
    have e25 : s1.bi (M + 25) = h.bi (M + 25) := f.bi (by decide)
    have e26 : s1.bi (M + 26) = h.bi (M + 26) := f.bi (by decide)
    have e27' : s1.bi (M + 27) k = nI mo := by rw [f.bi (by decide)]; exact e27
    have e35 : s1.bi (M + 35) = h.bi (M + 35) := f.bi (by decide)
    obtain ⟨h', x, d1, d2, d3⟩ := rf_hasNow q' (s.con f (by decide) (by decide)) N hN (h.bi (M + 35) i)
    have f2 : RfO [] [1351] M h h' := f.tr d2
    have q2 := f2.rk q
    have t7 : ∀ {o : Option (Hp × Int32)}, (if mo ≤ d then B_X10_isScanAgain_148 N M s1 (nI k) (nI d) sm else if h.bi (M + 35) i < h.bi (M + 25) k then L_X10_isScanAgain_7 N M F s1 (nI k) (nI d) sm (nI (i + 1)) else if h.bi (M + 26) k < h.bi (M + 35) i then L_X10_isScanAgain_7 N M F s1 (nI k) (nI d) sm (nI (i + 1)) else B_X10_isScanAgain_69 N (L_X10_isScanAgain_7 N M F) M h' (nI k) (nI d) sm (nI i) x) = o → L_X10_isScanAgain_7 N M (F + 1) s1 (nI k) nn sm (nI i) = o := by
      intro o ho
      rw [← ho]
      show B_X10_isScanAgain_7 N (L_X10_isScanAgain_7 N M F) M s1 (nI k) nn sm (nI i) = _
      unfold B_X10_isScanAgain_7 B_X10_isScanAgain_142
      rw [p1, f.gi (by decide), em, if_neg (by rw [ni_le (by omega) (by omega)]; omega), rd_1333 q', rx_1333 q' (show k < 514 by omega), rd_1352 q', rx_1352 q' (show i < 514 by omega), rd_1352 q', rx_1352 q' (show i < 514 by omega), rd_1352 q', rx_1352 q' (show i < 514 by omega), rd_1331 q', rx_1331 q' (show k < 514 by omega), rd_1332 q', rx_1332 q' (show k < 514 by omega), ni_clp (show i < _ by omega), ni_clp (show k < _ by omega), e27', e35, e25, e26, ni_inc]
      by_cases z : mo ≤ d
      · rw [if_pos z, if_pos ((ni_le (by omega) (by omega)).mpr z)]
      · rw [if_neg z, if_neg (by rw [ni_le (by omega) (by omega)]; exact z)]
        by_cases z1 : h.bi (M + 35) i < h.bi (M + 25) k
        · rw [if_pos z1, if_pos z1]
        · rw [if_neg z1, if_neg z1]
          by_cases z2 : h.bi (M + 26) k < h.bi (M + 35) i
          · rw [if_pos z2, if_pos z2]
          · rw [if_neg z2, if_neg z2]
            exact bnd d1
    have cs : cntQ (sgP h M L mp k) (i + 1) = cntQ (sgP h M L mp k) i + @ite Nat (sgP h M L mp k i) (Classical.propDecidable _) 1 0 := rfl
    by_cases full : mo ≤ d
    · right
      obtain ⟨h2, y, e1, e2⟩ := fin s1 i d sm f (by omega) ed (Or.inr (by omega)) p2 p3 p4
      exact ⟨h2, y, t7 (by rw [if_pos full]; exact e1), e2⟩
    · left
      show ∃ s' : Hp × Int32 × Int32, (RfO [] [1351] M h s'.1 ∧ s'.2.1 = nI (cntQ (sgP h M L mp k) (i + 1)) ∧ (∀ j, j < i + 1 → cntQ (sgP h M L mp k) j < mo) ∧ cntQ (sgP h M L mp k) (i + 1) ≤ mo ∧ B01 s'.2.2 (sgS h M L mp k an rr (i + 1))) ∧ L_X10_isScanAgain_7 N M (F + 1) s1 (nI k) nn sm (nI i) = L_X10_isScanAgain_7 N M F s'.1 (nI k) s'.2.1 s'.2.2 (nI (i + 1))
      have p2' : ∀ j, j < i + 1 → cntQ (sgP h M L mp k) j < mo := by
        intro j hj
        by_cases e : j = i
        · rw [e]; omega
        · exact p2 j (by omega)
      have skip : ∀ s2, RfO [] [1351] M h s2 → ¬ sgP h M L mp k i → RfO [] [1351] M h s2 ∧ nI d = nI (cntQ (sgP h M L mp k) (i + 1)) ∧ (∀ j, j < i + 1 → cntQ (sgP h M L mp k) j < mo) ∧ cntQ (sgP h M L mp k) (i + 1) ≤ mo ∧ B01 sm (sgS h M L mp k an rr (i + 1)) := by
        intro s2 g z
        rw [if_neg z] at cs
        refine ⟨g, by rw [cs, ← ed, Nat.add_zero], p2', by omega, p4.con ⟨fun t j hj pj => ?_, fun t j hj pj => t j (by omega) pj⟩⟩
        by_cases e : j = i
        · rw [e] at pj; exact absurd pj z
        · exact t j (by omega) pj
      by_cases z1 : h.bi (M + 35) i < h.bi (M + 25) k
      · exact ⟨(s1, nI d, sm), skip s1 f (fun t => t.1 z1), t7 (by rw [if_neg full, if_pos z1])⟩
      · by_cases z2 : h.bi (M + 26) k < h.bi (M + 35) i
        · exact ⟨(s1, nI d, sm), skip s1 f (fun t => t.2.1 z2), t7 (by rw [if_neg full, if_neg z1, if_pos z2])⟩
        · have t7' : ∀ {o : Option (Hp × Int32)}, B_X10_isScanAgain_69 N (L_X10_isScanAgain_7 N M F) M h' (nI k) (nI d) sm (nI i) x = o → L_X10_isScanAgain_7 N M (F + 1) s1 (nI k) nn sm (nI i) = o := fun ho => t7 (by rw [if_neg full, if_neg z1, if_neg z2]; exact ho)
          rcases d3 with ⟨n1, n2⟩ | ⟨n1, n2⟩
          · refine ⟨(h', nI d, sm), skip h' f2 (fun t => t.2.2 n1), t7' ?_⟩
            unfold B_X10_isScanAgain_69 B_X10_isScanAgain_142
            rw [if_pos n2, ni_inc]
          · have pi : sgP h M L mp k i := ⟨z1, z2, by rw [n2]; exact fun t => by cases t⟩
            rw [if_pos pi] at cs
            have go : ∀ (y : Int32), B01 y (sgS h M L mp k an rr (i + 1)) → B_X10_isScanAgain_69 N (L_X10_isScanAgain_7 N M F) M h' (nI k) (nI d) sm (nI i) x = L_X10_isScanAgain_7 N M F h' (nI k) (nI (d + 1)) y (nI (i + 1)) → ∃ s' : Hp × Int32 × Int32, (RfO [] [1351] M h s'.1 ∧ s'.2.1 = nI (cntQ (sgP h M L mp k) (i + 1)) ∧ (∀ j, j < i + 1 → cntQ (sgP h M L mp k) j < mo) ∧ cntQ (sgP h M L mp k) (i + 1) ≤ mo ∧ B01 s'.2.2 (sgS h M L mp k an rr (i + 1))) ∧ L_X10_isScanAgain_7 N M (F + 1) s1 (nI k) nn sm (nI i) = L_X10_isScanAgain_7 N M F s'.1 (nI k) s'.2.1 s'.2.2 (nI (i + 1)) := fun y y1 y2 => ⟨(h', nI (d + 1), y), ⟨f2, by rw [cs, ← ed], p2', by omega, y1⟩, t7' y2⟩
            have t69 : B_X10_isScanAgain_69 N (L_X10_isScanAgain_7 N M F) M h' (nI k) (nI d) sm (nI i) x = if sm = 0 then L_X10_isScanAgain_7 N M F h' (nI k) (nI (d + 1)) 0 (nI (i + 1)) else if an ≤ d then L_X10_isScanAgain_7 N M F h' (nI k) (nI (d + 1)) 0 (nI (i + 1)) else if h.bi (M + 33) (rr + d) = h.bi (M + 35) i then (if h.bw (M + 34) (rr + d) = h'.gl 1351 M then L_X10_isScanAgain_7 N M F h' (nI k) (nI (d + 1)) 1 (nI (i + 1)) else L_X10_isScanAgain_7 N M F h' (nI k) (nI (d + 1)) 0 (nI (i + 1))) else L_X10_isScanAgain_7 N M F h' (nI k) (nI (d + 1)) 0 (nI (i + 1)) := by
              unfold B_X10_isScanAgain_69 B_X10_isScanAgain_137 B_X10_isScanAgain_138 B_X10_isScanAgain_142
              rw [if_neg (by rw [n1]; decide)]
              by_cases w1 : sm = 0
              · rw [if_pos w1, if_pos w1, ni_inc, ni_inc]
              · rw [if_neg w1, if_neg w1, rd_1335 q2, rx_1335 q2 (show k < 514 by omega), ni_clp (show k < _ by omega), f2.bi (by decide), e29, ni_inc, ni_inc]
                by_cases w2 : an ≤ d
                · rw [if_pos w2, if_pos ((ni_le (by omega) (by omega)).mpr w2)]
                · rw [if_neg w2, if_neg (by rw [ni_le (by omega) (by omega)]; exact w2), rd_1338 q2, ry_1338 q2 (show k < 514 by omega), f2.bi (by decide), e32, show nI rr + nI d = nI (rr + d) from nI_add _ _, rd_1340 q2, rx_1340 q2 (show rr + d < 42000 by omega), rd_1352 q2, rx_1352 q2 (show i < 514 by omega), ni_clp (show rr + d < _ by omega), ni_clp (show i < _ by omega), f2.bi (by decide), f2.bi (by decide)]
                  by_cases w3 : h.bi (M + 33) (rr + d) = h.bi (M + 35) i
                  · rw [if_pos w3, if_pos w3, rd_1338 q2, ry_1338 q2 (show k < 514 by omega), f2.bi (by decide), e32, show nI rr + nI d = nI (rr + d) from nI_add _ _, rd_1341 q2, rx_1341 q2 (show rr + d < 42000 by omega), ni_clp (show rr + d < _ by omega), f2.bw (by decide)]
                    by_cases w4 : h.bw (M + 34) (rr + d) = h'.gl 1351 M
                    · rw [if_pos w4, if_pos (lg_cmp_ez.mpr w4)]
                    · rw [if_neg w4, if_neg (fun u => w4 (lg_cmp_ez.mp u))]
                  · rw [if_neg w3, if_neg w3]
            have bad : ¬ (d < an ∧ h.bi (M + 33) (rr + d) = h.bi (M + 35) i ∧ h.bw (M + 34) (rr + d) = h'.gl 1351 M) → B01 0 (sgS h M L mp k an rr (i + 1)) := by
              intro nz
              refine Or.inr ⟨rfl, fun t => nz ?_⟩
              obtain ⟨u1, u2, u3⟩ := t i (by omega) pi
              rw [← ed] at u1 u2 u3
              rw [n2] at u3
              exact ⟨u1, u2, (Option.some.inj u3).symm⟩
            rcases p4 with ⟨v1, v2⟩ | ⟨v1, v2⟩
            · have w1 : ¬ sm = 0 := by rw [v1]; decide
              rw [if_neg w1] at t69
              by_cases w2 : an ≤ d
              · rw [if_pos w2] at t69
                exact go 0 (bad (fun t => by omega)) t69
              · rw [if_neg w2] at t69
                by_cases w3 : h.bi (M + 33) (rr + d) = h.bi (M + 35) i
                · rw [if_pos w3] at t69
                  by_cases w4 : h.bw (M + 34) (rr + d) = h'.gl 1351 M
                  · rw [if_pos w4] at t69
                    refine go 1 (Or.inl ⟨rfl, fun j hj pj => ?_⟩) t69
                    by_cases e : j = i
                    · rw [e, ← ed, n2, w4]
                      exact ⟨by omega, w3, rfl⟩
                    · exact v2 j (by omega) pj
                  · rw [if_neg w4] at t69
                    exact go 0 (bad (fun t => w4 t.2.2)) t69
                · rw [if_neg w3] at t69
                  exact go 0 (bad (fun t => w3 t.2.1)) t69
            · rw [if_pos v1] at t69
              exact go 0 (Or.inr ⟨rfl, fun t => v2 (fun j hj pj => t j (by omega) pj)⟩) t69
end RF34
