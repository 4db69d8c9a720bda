/-! keptMany, versionMany, count -/
section RF28
variable {h : Hp} {M b c w l v k r : Nat}
theorem hznS.con {A G : List Nat} {h' : Hp} (f : RfO A G M h h') (hA : ∀ x ∈ [1, 3], x ∉ A) {n : Nat} {x : Int32} : hznS h' M c n x ↔ hznS h M c n x := by
  unfold hznS
  rw [f.bi (hA 1 (by decide)), f.bi (hA 3 (by decide))]
theorem keptT.con {A G : List Nat} {h' : Hp} (f : RfO A G M h h') (hA : ∀ x ∈ [1, 3, 4], x ∉ A) {t : Nat} : keptT h' M b c t ↔ keptT h M b c t := by
  unfold keptT hznS
  rw [f.bi (hA 1 (by decide)), f.bi (hA 3 (by decide)), f.bi (hA 4 (by decide))]
theorem rdK.con {A G : List Nat} {h' : Hp} (f : RfO A G M h h') (hA : ∀ x ∈ [7, 16, 17, 18], x ∉ A) {t : Nat} {key : Int32} : rdK h' M l t key ↔ rdK h M l t key := by
  unfold rdK
  rw [f.bi (hA 7 (by decide)), f.bi (hA 16 (by decide)), f.bi (hA 17 (by decide)), f.bi (hA 18 (by decide))]
theorem runS.con {A G : List Nat} {h' : Hp} (f : RfO A G M h h') (hA : ∀ x ∈ [7, 16, 17, 18], x ∉ A) {t : Nat} {x : Int32} : runS h' M l t x ↔ runS h M l t x := by
  unfold runS
  have e : ∀ key, rdK h' M l t key = rdK h M l t key := fun key => propext (rdK.con f hA)
  simp only [e]
theorem LkOk.con {A G : List Nat} {h' : Hp} (f : RfO A G M h h') (hA : ∀ x ∈ [17, 18], x ∉ A) (g : LkOk h M l) : LkOk h' M l := by
  unfold LkOk
  rw [f.bi (hA 17 (by decide)), f.bi (hA 18 (by decide))]
  exact g
def SumQ (R : Nat → Nat → Prop) : Nat → Nat → Prop
  | 0, x => x = 0
  | i + 1, x => ∃ a d, SumQ R i a ∧ R i d ∧ x = a + d
/-- what keptMany counts of t -/
def kmP (h : Hp) (M b c l : Nat) (runs : Int32) (t d : Nat) : Prop := (t = 0 ∧ d = 0) ∨ (1 ≤ t ∧ ((runs = 0 ∧ ((keptT h M b c t ∧ d = 1) ∨ (¬ keptT h M b c t ∧ d = 0))) ∨ (runs ≠ 0 ∧ (((keptT h M b c t ∨ h.bi (M + 1) t = 1) ∧ d ≤ l ∧ runS h M l t (nI d)) ∨ (¬ (keptT h M b c t ∨ h.bi (M + 1) t = 1) ∧ d = 0)))))
theorem rf_keptMany (q : Rk h M) (n : Rn h M b c w l v k r) (N : Nat) (hN : 1000 < N) (lo : LkOk h M l) (runs : Int32) : ∃ h' x, J_X10_keptMany N M h runs = some (h', nI x) ∧ RfO [36, 37] [] M h h' ∧ SumQ (kmP h M b c l runs) (b + 1) x := by
  have hb := n.2.2.2.2.2.2.2.1
  refine lp_inv (G := fun F i (s : Hp × Int32) => L_X10_keptMany_4 N M F s.1 runs s.2 (nI i)) (hi := b + 1) (Inv := fun i s => 1 ≤ i ∧ RfO [36, 37] [] M h s.1 ∧ ∃ x, s.2 = nI x ∧ SumQ (kmP h M b c l runs) i x) (Q := fun o => ∃ h' x, o = some (h', nI x) ∧ RfO [36, 37] [] M h h' ∧ SumQ (kmP h M b c l runs) (b + 1) x) ?_ ?_ b 1 N (h, 0) (by omega) (by omega) (by omega) ⟨Nat.le_refl _, RfO.rf _ _ _ _, 0, rfl, 0, 0, rfl, Or.inl ⟨rfl, rfl⟩, rfl⟩
  · intro F s hs
    obtain ⟨_, f, x, e, g⟩ := hs
    refine ⟨s.1, x, ?_, f, g⟩
    show B_X10_keptMany_4 N _ M s.1 runs s.2 (nI (b + 1)) = _
    unfold B_X10_keptMany_4
    rw [(f.rn n (fun _ _ z => by cases z)).1, if_pos ((ni_lt (by omega) (by omega)).mpr (by omega)), e]
  · intro F i s hi hs
    obtain ⟨s, y⟩ := s
    obtain ⟨i1, f, a, e, g⟩ := hs
    have f : RfO [36, 37] [] M h s := f
    have e : y = nI a := e
    left
    have q' := f.rk q
    have n' := f.rn n (fun _ _ z => by cases z)
    have kc := keptT.con (b := b) (c := c) f (by decide) (t := i)
    obtain ⟨kx, k1, k2⟩ := rf_isKept q' n' N hN (show i < 514 by omega)
    have k2 : B01 kx (keptT h M b c i) := k2.con kc
    obtain ⟨h', x, r1, r2, r3⟩ := rf_runsOf q' n' N hN (lo.con f (by decide)) (show i < 514 by omega)
    have r3 := (runS.con f (by decide)).mp r3
    have body : L_X10_keptMany_4 N M (F + 1) s runs y (nI i) = if runs = 0 then (if kx = 0 then L_X10_keptMany_4 N M F s runs (y + 0) (nI (i + 1)) else L_X10_keptMany_4 N M F s runs (y + 1) (nI (i + 1))) else if kx = 0 ∧ h.bi (M + 1) i ≠ 1 then L_X10_keptMany_4 N M F s runs (y + 0) (nI (i + 1)) else L_X10_keptMany_4 N M F h' runs (y + x + 0) (nI (i + 1)) := by
      show B_X10_keptMany_4 N (L_X10_keptMany_4 N M F) M s runs y (nI i) = _
      unfold B_X10_keptMany_4
      rw [n'.1, if_neg (by rw [ni_lt (by omega) (by omega)]; omega)]
      refine (bnd (by exact k1)).trans ?_
      show B_X10_keptMany_17 N (L_X10_keptMany_4 N M F) M s runs y (nI i) kx = _
      have t46 : ∀ (s : Hp) (y : Int32), runs ≠ 0 → B_X10_keptMany_46 N (L_X10_keptMany_4 N M F) M s runs y (nI i) kx = L_X10_keptMany_4 N M F s runs (y + 0) (nI (i + 1)) := by
        intro s y hr
        unfold B_X10_keptMany_46 B_X10_keptMany_60 B_X10_keptMany_61
        rw [if_neg hr, ni_inc]
      have t38 : runs ≠ 0 → B_X10_keptMany_38 N (L_X10_keptMany_4 N M F) M s runs y (nI i) kx = L_X10_keptMany_4 N M F h' runs (y + x + 0) (nI (i + 1)) := by
        intro hr
        unfold B_X10_keptMany_38
        refine (bnd (by exact r1)).trans ?_
        unfold B_X10_keptMany_44
        exact t46 h' (y + x) hr
      unfold B_X10_keptMany_17
      by_cases z : runs = 0
      · rw [if_pos z, if_pos z]
        unfold B_X10_keptMany_46 B_X10_keptMany_60 B_X10_keptMany_61
        rw [if_pos z, ni_inc]
      · rw [if_neg z, if_neg z, rd_1301 q', rx_1301 q' (show i < 514 by omega), ni_clp (show i < _ by omega), f.bi (by decide), t38 z, t46 s y z]
        by_cases z2 : kx = 0
        · rw [if_pos z2]
          by_cases z3 : h.bi (M + 1) i = 1
          · rw [if_pos z3, if_neg (fun u => u.2 z3)]
          · rw [if_neg z3, if_pos ⟨z2, z3⟩]
        · rw [if_neg z2, if_neg (fun u => z2 u.1)]
    show ∃ s' : Hp × Int32, (1 ≤ i + 1 ∧ RfO [36, 37] [] M h s'.1 ∧ ∃ x, s'.2 = nI x ∧ SumQ (kmP h M b c l runs) (i + 1) x) ∧ L_X10_keptMany_4 N M (F + 1) s runs y (nI i) = L_X10_keptMany_4 N M F s'.1 runs s'.2 (nI (i + 1))
    rw [body]
    have y0 : y + 0 = nI (a + 0) := by rw [e]; exact nI_add a 0
    have y1 : y + 1 = nI (a + 1) := by rw [e]; exact nI_add a 1
    have ke : kx = 0 ↔ ¬ keptT h M b c i := by
      rcases k2 with ⟨p1, p2⟩ | ⟨p1, p2⟩
      · exact ⟨fun u => absurd (p1.symm.trans u) (by decide), fun u => absurd p2 u⟩
      · exact ⟨fun _ => p2, fun _ => p1⟩
    by_cases z : runs = 0
    · rw [if_pos z]
      by_cases z2 : kx = 0
      · rw [if_pos z2]
        exact ⟨(s, _), ⟨by omega, f, a + 0, y0, a, 0, g, Or.inr ⟨i1, Or.inl ⟨z, Or.inr ⟨ke.mp z2, rfl⟩⟩⟩, rfl⟩, rfl⟩
      · rw [if_neg z2]
        exact ⟨(s, _), ⟨by omega, f, a + 1, y1, a, 1, g, Or.inr ⟨i1, Or.inl ⟨z, Or.inl ⟨Classical.not_not.mp (fun u => z2 (ke.mpr u)), rfl⟩⟩⟩, rfl⟩, rfl⟩
    · rw [if_neg z]
      by_cases z2 : kx = 0 ∧ h.bi (M + 1) i ≠ 1
      · rw [if_pos z2]
        exact ⟨(s, _), ⟨by omega, f, a + 0, y0, a, 0, g, Or.inr ⟨i1, Or.inr ⟨z, Or.inr ⟨fun u => u.elim (ke.mp z2.1) z2.2, rfl⟩⟩⟩, rfl⟩, rfl⟩
      · rw [if_neg z2]
        obtain ⟨S, S1, S2, S3, S4⟩ := r3
        refine ⟨(h', _), ⟨by omega, f.tr r2, a + S.length, ?_, a, S.length, g, Or.inr ⟨i1, Or.inr ⟨z, Or.inl ⟨?_, S3, S, S1, rfl, S3, S4⟩⟩⟩, rfl⟩, rfl⟩
        · show y + x + 0 = _
          rw [e, S2, show nI a + nI S.length = nI (a + S.length) from nI_add _ _]
          exact nI_add _ 0
        · by_cases z3 : kx = 0
          · exact Or.inr (Classical.not_not.mp (fun u => z2 ⟨z3, u⟩))
          · exact Or.inl (Classical.not_not.mp (fun u => z3 (ke.mpr u)))
theorem nthS.uniq {P : Nat → Prop} {v n : Nat} {x y : Int32} (p : nthS P v n x) (q : nthS P v n y) : x = y := by
  rcases p with ⟨p1, p2⟩ | ⟨i, p1, p2, p3, p4⟩ <;> rcases q with ⟨q1, q2⟩ | ⟨j, q1, q2, q3, q4⟩
  · rw [p1, q1]
  · have := cntQ_lt (show j < j + 1 by omega) q3
    omega
  · have := cntQ_lt (show i < i + 1 by omega) p3
    omega
  · have : i = j := by
      rcases Nat.lt_trichotomy i j with z | z | z
      · have a1 := cntQ_lt (show j < j + 1 by omega) q3
        have a2 : cntQ P (i + 1) ≤ cntQ P j := cntQ_mono (by omega)
        omega
      · exact z
      · have a1 := cntQ_lt (show i < i + 1 by omega) p3
        have a2 : cntQ P (j + 1) ≤ cntQ P i := cntQ_mono (by omega)
        omega
    rw [p2, q2, this]
/-- what versionMany counts -/
def vmP (h : Hp) (M v : Nat) (ofKeys m : Int32) (i : Nat) : Prop := keptV h M v m i ∧ (ofKeys = 0 ∨ nthS (kvP h M v (h.bi (M + 19) i) m) v 0 (nI i))
theorem rf_versionMany (q : Rk h M) (n : Rn h M b c w l v k r) (N : Nat) (hN : 1000 < N) (g : VtOk h M b v) (ofKeys : Int32) : ∃ m, J_X10_versionMany N M h ofKeys = some (h, nI (cntQ (vmP h M v ofKeys m) v)) ∧ hznS h M c (b + 1) m := by
  have hv := n.2.2.2.2.2.2.2.2.2.2.2.1
  obtain ⟨m, e1, e2⟩ := rf_horizon q n N hN
  refine ⟨m, ?_, e2⟩
  have key := lp_inv (G := fun F i (s : Int32) => L_X10_versionMany_10 N M F h ofKeys s m (nI i)) (hi := v) (Inv := fun i s => s = nI (cntQ (vmP h M v ofKeys m) i)) (Q := fun o => o = some (h, nI (cntQ (vmP h M v ofKeys m) v))) ?_ ?_ v 0 N 0 (by omega) (by omega) (by omega) rfl
  · unfold J_X10_versionMany B_X10_versionMany_0
    refine (bnd (by exact e1)).trans ?_
    exact key
  · intro F s hs
    show B_X10_versionMany_10 N _ M h ofKeys s m (nI v) = _
    unfold B_X10_versionMany_10
    rw [n.2.2.2.2.1, if_pos ((ni_le (by omega) (by omega)).mpr (Nat.le_refl _)), hs]
  · intro F i s hi hs
    left
    obtain ⟨kx, k1, k2⟩ := rf_isKeptVersion q n N hN g hi m
    obtain ⟨y, y1, y2⟩ := rf_versionOf q n N hN g (h.bi (M + 19) i) 0
    have y3 : nthS (kvP h M v (h.bi (M + 19) i) m) v 0 y := by
      rcases y2 with ⟨a, _⟩ | ⟨j, m', a1, a2, a3, a4⟩
      · exact absurd a (by decide)
      · have j0 : j = 0 := (ni_inj (b := 0) a2 (by omega)).mp a1.symm
        rw [j0, a3.uniq e2] at a4
        exact a4
    have body : L_X10_versionMany_10 N M (F + 1) h ofKeys s m (nI i) = if kx = 0 then L_X10_versionMany_10 N M F h ofKeys s m (nI (i + 1)) else if ofKeys = 0 ∨ y = nI i then L_X10_versionMany_10 N M F h ofKeys (s + 1) m (nI (i + 1)) else L_X10_versionMany_10 N M F h ofKeys (s + 0) m (nI (i + 1)) := by
      show B_X10_versionMany_10 N (L_X10_versionMany_10 N M F) M h ofKeys s m (nI i) = _
      unfold B_X10_versionMany_10
      rw [n.2.2.2.2.1, if_neg (by rw [ni_le (by omega) (by omega)]; omega)]
      refine (bnd (by exact k1)).trans ?_
      show B_X10_versionMany_26 N (L_X10_versionMany_10 N M F) M h ofKeys s m (nI i) kx = _
      unfold B_X10_versionMany_26 B_X10_versionMany_70
      rw [rd_1324 q, rx_1324 q (show i < 514 by omega), ni_clp (show i < _ by omega), ni_inc]
      by_cases z : kx = 0
      · rw [if_pos z, if_pos z]
      · rw [if_neg z, if_neg z]
        refine (bnd (by exact y1)).trans ?_
        show B_X10_versionMany_41 N (L_X10_versionMany_10 N M F) M h ofKeys s m (nI i) y = _
        unfold B_X10_versionMany_41 B_X10_versionMany_51 B_X10_versionMany_63 B_X10_versionMany_68 B_X10_versionMany_70
        rw [ni_inc]
        by_cases z1 : y = nI i
        · rw [if_pos z1, if_pos (Or.inr z1)]
          by_cases z2 : ofKeys = 0
          · rw [if_pos z2]
          · rw [if_neg z2, if_neg (show ¬ (1 : Int32) = 0 by decide)]
        · rw [if_neg z1]
          by_cases z2 : ofKeys = 0
          · rw [if_pos z2, if_pos (Or.inl z2)]
          · rw [if_neg z2, if_pos rfl, if_neg (fun u => u.elim z2 z1)]
    have cs : cntQ (vmP h M v ofKeys m) (i + 1) = cntQ (vmP h M v ofKeys m) i + @ite Nat (vmP h M v ofKeys m i) (Classical.propDecidable _) 1 0 := rfl
    show ∃ s' : Int32, s' = nI (cntQ (vmP h M v ofKeys m) (i + 1)) ∧ L_X10_versionMany_10 N M (F + 1) h ofKeys s m (nI i) = L_X10_versionMany_10 N M F h ofKeys s' m (nI (i + 1))
    rw [body]
    rcases k2 with ⟨p1, p2⟩ | ⟨p1, p2⟩
    · rw [if_neg (show ¬ kx = 0 by rw [p1]; decide)]
      by_cases z : ofKeys = 0 ∨ y = nI i
      · rw [if_pos (show vmP h M v ofKeys m i from ⟨p2, z.imp id (fun u => by rw [← u]; exact y3)⟩)] at cs
        rw [if_pos z]
        exact ⟨_, by rw [cs, hs, ni_inc], rfl⟩
      · rw [if_neg (show ¬ vmP h M v ofKeys m i from fun u => z (u.2.imp id (fun u => y3.uniq u)))] at cs
        rw [if_neg z]
        exact ⟨_, by rw [cs, hs]; exact nI_add _ 0, rfl⟩
    · rw [if_neg (show ¬ vmP h M v ofKeys m i from fun u => p2 u.1)] at cs
      rw [if_pos p1]
      exact ⟨_, by rw [cs]; exact hs, rfl⟩
/-- what count answers -/
def CouR (h : Hp) (M b c l v : Nat) (what y : Int32) : Prop := if what = 0 then y = nI b else if what = 1 ∨ what = 2 ∨ what = 3 ∨ what = 4 ∨ what = 5 then y = nI (cntQ (fun u => 1 ≤ u ∧ h.bi (M + 1) u = what) (b + 1)) else if what = 6 then ∃ x, y = nI x ∧ SumQ (kmP h M b c l 0) (b + 1) x else if what = 7 then ∃ x, y = nI x ∧ SumQ (kmP h M b c l 1) (b + 1) x else if what = 8 then ∃ m, hznS h M c (b + 1) m ∧ y = nI (cntQ (vmP h M v 0 m) v) else if what = 9 then ∃ m, hznS h M c (b + 1) m ∧ y = nI (cntQ (vmP h M v 1 m) v) else if what = 10 then hznS h M c (b + 1) y else if what = 11 then y = nI c else y = -1
theorem rf_count (q : Rk h M) (n : Rn h M b c w l v k r) (N : Nat) (hN : 1000 < N) (g : VtOk h M b v) (lo : LkOk h M l) (what : Int32) : ∃ h' y, J_X10_count N M h what = some (h', y) ∧ RfO [36, 37] [1300] M h h' ∧ h'.gi 1300 M = 0 ∧ CouR h M b c l v what y := by
  have f : RfO [36, 37] [1300] M h (h.sgi 1300 M 0) := RfO.sgi (by decide) _
  have q' := f.rk q
  have n' := f.rn n (by decide)
  have g0 : (h.sgi 1300 M 0).gi 1300 M = 0 := gi_same
  have many : B_X10_count_73 N M (h.sgi 1300 M 0) what = some (h.sgi 1300 M 0, nI (cntQ (fun u => 1 ≤ u ∧ h.bi (M + 1) u = what) (b + 1))) := by
    unfold B_X10_count_73
    refine (bnd (by exact rf_manyThat q' n' N hN what)).trans ?_
    rfl
  have kept : ∀ x : Int32, ∃ h' y, J_X10_keptMany N M (h.sgi 1300 M 0) x = some (h', nI y) ∧ RfO [36, 37] [1300] M h h' ∧ h'.gi 1300 M = 0 ∧ SumQ (kmP h M b c l x) (b + 1) y := by
    intro x
    obtain ⟨h', y, e1, e2, e3⟩ := rf_keptMany q' n' N hN lo x
    exact ⟨h', y, e1, f.tr (e2.mono (fun _ z => z) (fun _ z => by cases z)), (e2.gi (fun z => by cases z)).trans g0, e3⟩
  unfold J_X10_count B_X10_count_0 CouR
  rw [n'.1, n'.2.1]
  by_cases z0 : what = 0
  · rw [if_pos z0]
    refine ⟨_, _, rfl, f, g0, ?_⟩
    rw [if_pos z0]
  rw [if_neg z0]
  by_cases za : what = 1 ∨ what = 2 ∨ what = 3 ∨ what = 4 ∨ what = 5
  · refine ⟨h.sgi 1300 M 0, nI (cntQ (fun u => 1 ≤ u ∧ h.bi (M + 1) u = what) (b + 1)), ?_, f, g0, ?_⟩
    rotate_left
    · rw [if_neg z0, if_pos za]
    · rw [many]
      rcases za with y | y | y | y | y <;> rw [y] <;> rfl
  have c1 : what ≠ 1 := fun y => za (Or.inl y)
  have c2 : what ≠ 2 := fun y => za (Or.inr (Or.inl y))
  have c3 : what ≠ 3 := fun y => za (Or.inr (Or.inr (Or.inl y)))
  have c4 : what ≠ 4 := fun y => za (Or.inr (Or.inr (Or.inr (Or.inl y))))
  have c5 : what ≠ 5 := fun y => za (Or.inr (Or.inr (Or.inr (Or.inr y))))
  rw [if_neg c1, if_neg c2, if_neg c3, if_neg c4, if_neg c5]
  by_cases z6 : what = 6
  · rw [if_pos z6]
    obtain ⟨h', y, e1, e2, e3, e4⟩ := kept 0
    refine ⟨h', nI y, ?_, e2, e3, ?_⟩
    · refine (bnd (by exact e1)).trans ?_
      rfl
    · rw [if_neg z0, if_neg za, if_pos z6]
      exact ⟨y, rfl, e4⟩
  rw [if_neg z6]
  by_cases z7 : what = 7
  · rw [if_pos z7]
    obtain ⟨h', y, e1, e2, e3, e4⟩ := kept 1
    refine ⟨h', nI y, ?_, e2, e3, ?_⟩
    · refine (bnd (by exact e1)).trans ?_
      rfl
    · rw [if_neg z0, if_neg za, if_neg z6, if_pos z7]
      exact ⟨y, rfl, e4⟩
  rw [if_neg z7]
  by_cases z8 : what = 8
  · rw [if_pos z8]
    obtain ⟨m, e1, e2⟩ := rf_versionMany q' n' N hN (g.con f (by decide)) 0
    refine ⟨h.sgi 1300 M 0, nI (cntQ (vmP h M v 0 m) v), ?_, f, g0, ?_⟩
    rotate_left
    · rw [if_neg z0, if_neg za, if_neg z6, if_neg z7, if_pos z8]
      exact ⟨m, e2, rfl⟩
    · refine (bnd (by exact e1)).trans ?_
      rfl
  rw [if_neg z8]
  by_cases z9 : what = 9
  · rw [if_pos z9]
    obtain ⟨m, e1, e2⟩ := rf_versionMany q' n' N hN (g.con f (by decide)) 1
    refine ⟨h.sgi 1300 M 0, nI (cntQ (vmP h M v 1 m) v), ?_, f, g0, ?_⟩
    rotate_left
    · rw [if_neg z0, if_neg za, if_neg z6, if_neg z7, if_neg z8, if_pos z9]
      exact ⟨m, e2, rfl⟩
    · refine (bnd (by exact e1)).trans ?_
      rfl
  rw [if_neg z9]
  by_cases z10 : what = 10
  · rw [if_pos z10]
    obtain ⟨m, e1, e2⟩ := rf_horizon q' n' N hN
    refine ⟨_, m, ?_, f, g0, ?_⟩
    · refine (bnd (by exact e1)).trans ?_
      rfl
    · rw [if_neg z0, if_neg za, if_neg z6, if_neg z7, if_neg z8, if_neg z9, if_pos z10]
      exact e2
  rw [if_neg z10]
  by_cases z11 : what = 11
  · rw [if_pos z11]
    refine ⟨_, _, rfl, f, g0, ?_⟩
    rw [if_neg z0, if_neg za, if_neg z6, if_neg z7, if_neg z8, if_neg z9, if_neg z10, if_pos z11]
  · rw [if_neg z11]
    refine ⟨_, _, rfl, f, g0, ?_⟩
    rw [if_neg z0, if_neg za, if_neg z6, if_neg z7, if_neg z8, if_neg z9, if_neg z10, if_neg z11]
end RF28
