/-! looks -/
section RF9
variable {h : Hp} {M b c w l v k r : Nat}
theorem vMo.con {A G : List Nat} {h' : Hp} (f : RfO A G M h h') (h4 : 4 ∉ A) (h20 : 20 ∉ A) (i : Nat) : vMo h' M i = vMo h M i := by
  unfold vMo
  rw [f.bi h4, f.bi h20]
theorem VtOk.con {A G : List Nat} {h' : Hp} (f : RfO A G M h h') (h20 : 20 ∉ A) (g : VtOk h M b v) : VtOk h' M b v := by
  unfold VtOk
  rw [f.bi h20]
  exact g
/-- version i is new to t and among a .. z -/
def LkC (h : Hp) (M t : Nat) (a z : Int32) (i : Nat) : Prop := ¬ h.bi (M + 19) i < a ∧ ¬ z < h.bi (M + 19) i ∧ h.bi (M + 3) t < vMo h M i
def PreR (h : Hp) (M t : Nat) (a z : Int32) (n : Nat) (h' : Hp) : Prop := RfO [8] [] M h h' ∧ ∀ u, u < 514 → ((h.bi (M + 7) t ≠ 1 ∧ ∃ i, i < n ∧ LkC h M t a z i ∧ h.bi (M + 20) i = nI u) → h'.bi (M + 8) u = 1) ∧ (¬ (h.bi (M + 7) t ≠ 1 ∧ ∃ i, i < n ∧ LkC h M t a z i ∧ h.bi (M + 20) i = nI u) → h'.bi (M + 8) u = h.bi (M + 8) u)
theorem rf_lk2 (q : Rk h M) (n : Rn h M b c w l v k r) (N : Nat) (hN : 1000 < N) (g : VtOk h M b v) {t : Nat} (ht : t < 514) (a z : Int32) : ∃ h', L_X10_looks_136 N M N h (nI t) a z (nI 0) = some (h', 1) ∧ PreR h M t a z v h' := by
  have hb := n.2.2.2.2.2.2.2.1
  have hv := n.2.2.2.2.2.2.2.2.2.2.2.1
  refine lp_inv (G := fun F i (s : Hp) => L_X10_looks_136 N M F s (nI t) a z (nI i)) (hi := v) (Inv := fun i s => PreR h M t a z i s) (Q := fun o => ∃ h', o = some (h', 1) ∧ PreR h M t a z v h') ?_ ?_ v 0 N h (by omega) (by omega) (by omega) ⟨RfO.rf _ _ _ _, fun u _ => ⟨fun ⟨_, i, hi, _⟩ => by omega, fun _ => rfl⟩⟩
  · intro F s hs
    refine ⟨s, ?_, hs⟩
    have n' := hs.1.rn n (fun _ _ z => by cases z)
    show B_X10_looks_136 N _ M s (nI t) a z (nI v) = _
    unfold B_X10_looks_136
    rw [n'.2.2.2.2.1]
    refine (if_pos (by exact (ni_le (by omega) (by omega)).mpr (by omega))).trans ?_
    rfl
  · intro F i s hi hs
    obtain ⟨f, p⟩ := hs
    left
    have q' := f.rk q
    have n' := f.rn n (fun _ _ z => by cases z)
    have g' := g.con f (by decide)
    obtain ⟨u0, u1, u2, u3⟩ := g i hi
    have e3 : s.bi (M + 3) = h.bi (M + 3) := f.bi (by decide)
    have e7 : s.bi (M + 7) = h.bi (M + 7) := f.bi (by decide)
    have e19 : s.bi (M + 19) = h.bi (M + 19) := f.bi (by decide)
    have e20 : s.bi (M + 20) = h.bi (M + 20) := f.bi (by decide)
    have tail : ∀ y : Int32, B_X10_looks_187 N (L_X10_looks_136 N M F) M s (nI t) a z (nI i) y = if y = 0 then L_X10_looks_136 N M F s (nI t) a z (nI (i + 1)) else if h.bi (M + 7) t = 1 then L_X10_looks_136 N M F s (nI t) a z (nI (i + 1)) else L_X10_looks_136 N M F (s.sbi (M + 8) u0 1) (nI t) a z (nI (i + 1)) := by
      intro y
      unfold B_X10_looks_187 B_X10_looks_217
      rw [rd_1307 q', rx_1307 q' ht, rd_1325 q', rx_1325 q' (by omega), ni_clp (by omega), ni_clp (by omega), e7, e20, u3, rd_1308 q', rx_1308 q' (by omega), ni_clp (by omega), ni_inc]
    have body : L_X10_looks_136 N M (F + 1) s (nI t) a z (nI i) = if h.bi (M + 19) i < a then L_X10_looks_136 N M F s (nI t) a z (nI (i + 1)) else if z < h.bi (M + 19) i then L_X10_looks_136 N M F s (nI t) a z (nI (i + 1)) else if vMo h M i ≤ h.bi (M + 3) t then L_X10_looks_136 N M F s (nI t) a z (nI (i + 1)) else if h.bi (M + 7) t = 1 then L_X10_looks_136 N M F s (nI t) a z (nI (i + 1)) else L_X10_looks_136 N M F (s.sbi (M + 8) u0 1) (nI t) a z (nI (i + 1)) := by
      show B_X10_looks_136 N (L_X10_looks_136 N M F) M s (nI t) a z (nI i) = _
      unfold B_X10_looks_136 B_X10_looks_186
      rw [n'.2.2.2.2.1]
      refine (if_neg (by exact fun z => by rw [ni_le (by omega) (by omega)] at z; omega)).trans ?_
      rw [rd_1324 q', rx_1324 q' (by omega), rd_1324 q', rx_1324 q' (by omega), ni_clp (by omega), e19, tail 0, if_pos (rfl : (0 : Int32) = 0)]
      by_cases z1 : h.bi (M + 19) i < a
      · rw [if_pos z1, if_pos z1]
      · rw [if_neg z1, if_neg z1]
        by_cases z2 : z < h.bi (M + 19) i
        · rw [if_pos z2, if_pos z2]
        · rw [if_neg z2, if_neg z2]
          refine (bnd (by exact rf_momentOf q' n' N g' hi)).trans ?_
          show B_X10_looks_173 N (L_X10_looks_136 N M F) M s (nI t) a z (nI i) (vMo s M i) = _
          unfold B_X10_looks_173 B_X10_looks_186
          rw [rd_1303 q', rx_1303 q' ht, ni_clp (by omega), e3, vMo.con f (by decide) (by decide), tail 0, tail 1, if_pos (rfl : (0 : Int32) = 0), if_neg (show ¬ (1 : Int32) = 0 by decide)]
    have skip : ¬ (h.bi (M + 7) t ≠ 1 ∧ LkC h M t a z i) → PreR h M t a z (i + 1) s := by
      intro y
      refine ⟨f, fun u hu => ⟨fun ⟨y1, j, y2, y3, y4⟩ => (p u hu).1 ⟨y1, j, ?_, y3, y4⟩, fun y1 => (p u hu).2 (fun ⟨y2, j, y3, y4⟩ => y1 ⟨y2, j, by omega, y4⟩)⟩⟩
      by_cases e : j = i
      · rw [e] at y3; exact absurd ⟨y1, y3⟩ y
      · omega
    show ∃ s' : Hp, PreR h M t a z (i + 1) s' ∧ L_X10_looks_136 N M (F + 1) s (nI t) a z (nI i) = L_X10_looks_136 N M F s' (nI t) a z (nI (i + 1))
    rw [body]
    by_cases z1 : h.bi (M + 19) i < a
    · rw [if_pos z1]
      exact ⟨s, skip (fun y => y.2.1 z1), rfl⟩
    · rw [if_neg z1]
      by_cases z2 : z < h.bi (M + 19) i
      · rw [if_pos z2]
        exact ⟨s, skip (fun y => y.2.2.1 z2), rfl⟩
      · rw [if_neg z2]
        by_cases z3 : vMo h M i ≤ h.bi (M + 3) t
        · rw [if_pos z3]
          refine ⟨s, skip (fun y => ?_), rfl⟩
          have := y.2.2.2
          rw [Int32.le_iff_toInt_le] at z3
          rw [Int32.lt_iff_toInt_lt] at this
          omega
        · rw [if_neg z3]
          by_cases z4 : h.bi (M + 7) t = 1
          · rw [if_pos z4]
            exact ⟨s, skip (fun y => y.1 z4), rfl⟩
          · rw [if_neg z4]
            have lk : LkC h M t a z i := ⟨z1, z2, by rw [Int32.le_iff_toInt_le] at z3; rw [Int32.lt_iff_toInt_lt]; omega⟩
            refine ⟨_, ⟨f.tr (RfO.sbi (k := 8) (by decide) _ _), fun u hu => ?_⟩, rfl⟩
            rw [bi_at]
            by_cases e : u = u0
            · rw [if_pos e]
              exact ⟨fun _ => rfl, fun y => absurd ⟨z4, i, by omega, lk, by rw [u3, e]⟩ y⟩
            · rw [if_neg e]
              refine ⟨fun ⟨y1, j, y2, y3, y4⟩ => (p u hu).1 ⟨y1, j, ?_, y3, y4⟩, fun y1 => (p u hu).2 (fun ⟨y2, j, y3, y4⟩ => y1 ⟨y2, j, by omega, y4⟩)⟩
              by_cases e2 : j = i
              · rw [e2, u3, ni_inj (by omega) (by omega)] at y4
                exact absurd y4.symm e
              · omega
/-- version i forbids t to look at it -/
def LkB (h : Hp) (M b l v t : Nat) (a z : Int32) (i u : Nat) : Prop := LkC h M t a z i ∧ 1 ≤ u ∧ u ≤ b ∧ h.bi (M + 20) i = nI u ∧ mayN h M b l v t u
/-- a look's row -/
def lokH (h : Hp) (M l : Nat) (t a z : Int32) : Hp := (((h.sbi (M + 16) l t).sbi (M + 17) l a).sbi (M + 18) l z).sgi 1323 M (nI (l + 1))
theorem lokH.ro {t a z : Int32} : RfO [16, 17, 18] [1323] M h (lokH h M l t a z) := (((RfO.sbi (k := 16) (by decide) _ _).tr (RfO.sbi (k := 17) (by decide) _ _)).tr (RfO.sbi (k := 18) (by decide) _ _)).tr (RfO.sgi (by decide) _)
theorem lokH.rn (n : Rn h M b c w l v k r) (hl : l < 512) {t a z : Int32} : Rn (lokH h M l t a z) M b c w (l + 1) v k r := by
  obtain ⟨n1, n2, n3, n4, n5, n6, n7, n8, n9, n10, n11, n12, n13, n14⟩ := n
  have f := lokH.ro (h := h) (M := M) (l := l) (t := t) (a := a) (z := z)
  exact ⟨(f.gi (by decide)).trans n1, (f.gi (by decide)).trans n2, (f.gi (by decide)).trans n3, gi_same, (f.gi (by decide)).trans n5, (f.gi (by decide)).trans n6, (f.gi (by decide)).trans n7, n8, n9, n10, by omega, n12, n13, n14⟩
/-- what looks answers and leaves -/
def LooR (h : Hp) (M b l v t : Nat) (a z : Int32) (h' : Hp) (x : Int32) : Prop := (x = 0 ∧ ∃ i u h1, i < v ∧ LkB h M b l v t a z i u ∧ (∀ j u', j < i → ¬ LkB h M b l v t a z j u') ∧ DgR h M b l v t u h1 ∧ JdR ((h1.sbi (M + 1) t 5).sbi (M + 6) t (h.gi 1313 M)) M b l v (b + 1) h') ∨ (x = 1 ∧ (∀ j u', j < v → ¬ LkB h M b l v t a z j u') ∧ PreR (lokH h M l (nI t) a z) M t a z v h')
theorem rf_looks (q : Rk h M) (n : Rn h M b c w l v k r) (N : Nat) (hN : 1000 < N) (g : VtOk h M b v) (hl : l < 512) (pos : ∀ u, 1 ≤ u → u ≤ b → h.bi (M + 1) u = 2 → 0 < h.bi (M + 4) u) {t : Nat} (h1 : 1 ≤ t) (ht : t ≤ b) (ac : h.bi (M + 1) t = 1) (a z : Int32) : ∃ h' x, J_X10_looks N M h (nI t) a z = some (h', x) ∧ LooR h M b l v t a z h' x := by
  have hb := n.2.2.2.2.2.2.2.1
  have hv := n.2.2.2.2.2.2.2.2.2.2.2.1
  refine lp_inv (G := fun F i (_ : Unit) => L_X10_looks_3 N M F h (nI t) a z (nI i)) (hi := v) (Inv := fun i _ => ∀ j u', j < i → ¬ LkB h M b l v t a z j u') (Q := fun o => ∃ h' x, o = some (h', x) ∧ LooR h M b l v t a z h' x) ?_ ?_ v 0 N () (by omega) (by omega) (by omega) (fun j u' hj => by omega)
  · intro F s hs
    have f := lokH.ro (h := h) (M := M) (l := l) (t := nI t) (a := a) (z := z)
    obtain ⟨h', e1, e2⟩ := rf_lk2 (f.rk q) (lokH.rn n hl) N hN (g.con f (by decide)) (show t < 514 by omega) a z
    refine ⟨h', 1, ?_, Or.inr ⟨rfl, hs, e2⟩⟩
    show B_X10_looks_3 N _ M h (nI t) a z (nI v) = _
    unfold B_X10_looks_3 B_X10_looks_133
    rw [n.2.2.2.2.1]
    refine (if_pos (by exact (ni_le (by omega) (by omega)).mpr (by omega))).trans ?_
    rw [n.2.2.2.1]
    rw [rd_1320 q, rx_1320 q (by omega)]
    rw [ni_clp (by omega)]
    rw [pj_sbi_gr, dr_sbi, rd_1321 q, pj_sbi_al, pj_sbi_gi, n.2.2.2.1, rx_1321 q (by omega), ni_clp (by omega), pj_sbi_gr, dr_sbi, pj_sbi_gr, dr_sbi, rd_1322 q, pj_sbi_al, pj_sbi_al, pj_sbi_gi, pj_sbi_gi, n.2.2.2.1, rx_1322 q (by omega), ni_clp (by omega), pj_sbi_gi, pj_sbi_gi, pj_sbi_gi, n.2.2.2.1, ni_inc]
    exact e1
  · intro F i s hi hs
    obtain ⟨u, u1, u2, u3⟩ := g i hi
    obtain ⟨x, e1, e2⟩ := rf_mayNot q n N hN pos (a := t) (t := u) (by omega) (by omega)
    have body : L_X10_looks_3 N M (F + 1) h (nI t) a z (nI i) = if h.bi (M + 19) i < a then L_X10_looks_3 N M F h (nI t) a z (nI (i + 1)) else if z < h.bi (M + 19) i then L_X10_looks_3 N M F h (nI t) a z (nI (i + 1)) else if h.bi (M + 3) t < vMo h M i then (if x = 0 then L_X10_looks_3 N M F h (nI t) a z (nI (i + 1)) else (J_X10_danger N M h (nI t) (nI u)).bind (fun z => B_X10_looks_79 N M z.1 (nI t))) else L_X10_looks_3 N M F h (nI t) a z (nI (i + 1)) := by
      show B_X10_looks_3 N (L_X10_looks_3 N M F) M h (nI t) a z (nI i) = _
      unfold B_X10_looks_3 B_X10_looks_87
      rw [n.2.2.2.2.1]
      refine (if_neg (by exact fun z => by rw [ni_le (by omega) (by omega)] at z; omega)).trans ?_
      rw [rd_1324 q, rx_1324 q (by omega), rd_1324 q, rx_1324 q (by omega)]
      rw [ni_clp (by omega), ni_inc]
      by_cases z1 : h.bi (M + 19) i < a
      · rw [if_pos z1, if_pos z1]
      · rw [if_neg z1, if_neg z1]
        by_cases z2 : z < h.bi (M + 19) i
        · rw [if_pos z2, if_pos z2]
        · rw [if_neg z2, if_neg z2]
          refine (bnd (by exact rf_momentOf q n N g hi)).trans ?_
          show B_X10_looks_40 N (L_X10_looks_3 N M F) M h (nI t) a z (nI i) (vMo h M i) = _
          unfold B_X10_looks_40 B_X10_looks_87
          rw [rd_1303 q, rx_1303 q (show t < 514 by omega), rd_1325 q, rx_1325 q (show i < 514 by omega), ni_clp (show t < _ by omega), ni_clp (show i < _ by omega), u3, ni_inc]
          by_cases z3 : h.bi (M + 3) t < vMo h M i
          · rw [if_pos z3, if_pos z3]
            refine (bnd (by exact e1)).trans ?_
            show B_X10_looks_64 N (L_X10_looks_3 N M F) M h (nI t) a z (nI i) x = _
            unfold B_X10_looks_64 B_X10_looks_87
            rw [rd_1325 q, rx_1325 q (show i < 514 by omega), ni_clp (show i < _ by omega), u3, ni_inc]
          · rw [if_neg z3, if_neg z3]
    have skip : ¬ (LkC h M t a z i ∧ mayN h M b l v t u) → ∀ j u', j < i + 1 → ¬ LkB h M b l v t a z j u' := by
      intro y j u' hj y2
      by_cases e : j = i
      · rw [e] at y2
        obtain ⟨y3, y4, y5, y6, y7⟩ := y2
        rw [u3, ni_inj (by omega) (by omega)] at y6
        rw [← y6] at y7
        exact y ⟨y3, y7⟩
      · exact hs j u' (by omega) y2
    show (∃ s' : Unit, (∀ j u', j < i + 1 → ¬ LkB h M b l v t a z j u') ∧ L_X10_looks_3 N M (F + 1) h (nI t) a z (nI i) = L_X10_looks_3 N M F h (nI t) a z (nI (i + 1))) ∨ ∃ h' x, L_X10_looks_3 N M (F + 1) h (nI t) a z (nI i) = some (h', x) ∧ LooR h M b l v t a z h' x
    rw [body]
    by_cases z1 : h.bi (M + 19) i < a
    · rw [if_pos z1]
      exact Or.inl ⟨(), skip (fun y => y.1.1 z1), rfl⟩
    · rw [if_neg z1]
      by_cases z2 : z < h.bi (M + 19) i
      · rw [if_pos z2]
        exact Or.inl ⟨(), skip (fun y => y.1.2.1 z2), rfl⟩
      · rw [if_neg z2]
        by_cases z3 : h.bi (M + 3) t < vMo h M i
        · rw [if_pos z3]
          rcases e2 with ⟨y1, y2⟩ | ⟨y1, y2⟩
          · right
            rw [if_neg (by rw [y1]; decide)]
            obtain ⟨hd, d1, d2⟩ := rf_danger q n N hN pos t (show u < 514 by omega)
            have fd : RfO [] [1347, 1348, 1349, 1350] M h hd := by
              obtain ⟨o, x, _, _, e⟩ := d2
              rw [e]; exact rsnH.ro
            have e1' : hd.bi (M + 1) = h.bi (M + 1) := fd.bi (by decide)
            have e4' : hd.bi (M + 4) = h.bi (M + 4) := fd.bi (by decide)
            obtain ⟨h', j1, j2⟩ := rf_ends (fd.rk q) (fd.rn n (by decide)) N hN (t := t) (by omega) 5 (fun u' a1 a2 a3 a4 => by
              rw [e4']
              rcases a4 with a4 | a4
              · exact absurd (a3 a4) (by decide)
              · rw [e1'] at a4; exact pos u' a1 a2 a4)
            rw [fd.gi (by decide)] at j2
            refine ⟨h', 0, ?_, Or.inl ⟨rfl, i, u, hd, hi, ⟨⟨z1, z2, z3⟩, u1, u2, u3, y2⟩, hs, d2, j2⟩⟩
            refine (bnd (by exact d1)).trans ?_
            unfold B_X10_looks_79 B_X10_looks_85
            refine (bnd (by exact j1)).trans ?_
            rfl
          · rw [if_pos y1]
            exact Or.inl ⟨(), skip (fun y => y2 y.2), rfl⟩
        · rw [if_neg z3]
          exact Or.inl ⟨(), skip (fun y => z3 y.1.2.2), rfl⟩
end RF9
