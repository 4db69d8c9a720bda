/-! save, undo -/
section RF16
variable {h : Hp} {M b c w l v k r : Nat}
/-- the heap that a save leaves -/
def savH (h : Hp) (M w k t p : Nat) : Hp := logH ((h.sbi (M + 10) (10 * t + p) (nI w)).sbi (M + 9) t (nI (p + 1))) M k 7 (nI t) 0
theorem savH.ro {t p : Nat} : RfO [9, 10, 23, 24, 25] [1339] M h (savH h M w k t p) := ((RfO.sbi (k := 10) (by decide) _ _).tr (RfO.sbi (k := 9) (by decide) _ _)).tr (logH.ro.mono (by decide) (by decide))
theorem rf_save1 (q : Rk h M) (n : Rn h M b c w l v k r) (N : Nat) {t p : Nat} (ht : t ≤ b) (ep : h.bi (M + 9) t = nI p) (hp : p < 10) : B_X10_save_15 N M h (nI t) 0 = some (savH h M w k t p, nI (p + 1)) := by
  have hb := n.2.2.2.2.2.2.2.1
  have f1 : RfO [9, 10] [] M h ((h.sbi (M + 10) (10 * t + p) (nI w)).sbi (M + 9) t (nI (p + 1))) := (RfO.sbi (k := 10) (by decide) _ _).tr (RfO.sbi (k := 9) (by decide) _ _)
  have q1 := f1.rk q
  have n1 := f1.rn n (fun _ _ z => by cases z)
  have lg := rf_log q1 n1 N 7 (nI t) 0
  have q2 : Rk (savH h M w k t p) M := savH.ro.rk q
  have ix : (10 : Int32) * nI t + nI p = nI (10 * t + p) := by
    rw [show (10 : Int32) = nI 10 from rfl, nI_mul]
    exact nI_add _ _
  unfold B_X10_save_15
  refine (if_pos (by rfl)).trans ?_
  rw [rd_1309 q, rx_1309 q (show t < 514 by omega), rd_1309 q, rx_1309 q (show t < 514 by omega), ni_clp (show t < _ by omega), ep]
  refine (if_neg (by exact fun z => by have := (ni_inj (b := 10) (by omega) (by omega)).mp z; omega)).trans ?_
  rw [ix, n.2.2.1, rd_1310 q, rx_1310 q (by omega), ni_clp (by omega), pj_sbi_gr, dr_sbi, rd_1309 q, pj_sbi_al, ry_1309 q (show t < 514 by omega), ry_1309 q (show t < 514 by omega), bi_oth (by omega), ep, ni_inc]
  refine (bnd (by exact lg)).trans ?_
  show B_X10_save_71 N M (savH h M w k t p) (nI t) (nI k) = _
  unfold B_X10_save_71
  rw [rd_1309 q2, rx_1309 q2 (show t < 514 by omega), ni_clp (show t < _ by omega)]
  unfold savH
  rw [logH.ro.bi (by decide), bi_at, if_pos rfl]
theorem rf_saveN (q : Rk h M) (n : Rn h M b c w l v k r) (N : Nat) {t : Nat} (ht : t ≤ b) (ep : h.bi (M + 9) t = 10) : B_X10_save_15 N M h (nI t) 0 = some (h, -1) := by
  have hb := n.2.2.2.2.2.2.2.1
  unfold B_X10_save_15
  refine (if_pos (by rfl)).trans ?_
  rw [rd_1309 q, rx_1309 q (show t < 514 by omega), ni_clp (show t < _ by omega)]
  exact if_pos ep
theorem rf_saveX (q : Rk h M) (n : Rn h M b c w l v k r) (N : Nat) {x : Int32} (no : ¬ actT h M b x) : J_X10_save N M h x = some (tk h M 1, 0) := by
  rcases rf_enter q n N x with ⟨y, _⟩ | ⟨_, e⟩
  · exact absurd y no
  · unfold J_X10_save B_X10_save_0
    refine (bnd (by exact e)).trans ?_
    unfold B_X10_save_15
    exact if_neg (by show ¬ (1 : Int32) = 0; decide)
theorem rf_saveT (q : Rk h M) (n : Rn h M b c w l v k r) (N : Nat) {t : Nat} (h1 : 1 ≤ t) (ht : t ≤ b) (ac : h.bi (M + 1) t = 1) : J_X10_save N M h (nI t) = B_X10_save_15 N M (tk h M 0) (nI t) 0 := by
  rcases rf_enter q n N (nI t) with ⟨_, e⟩ | ⟨y, _⟩
  · unfold J_X10_save B_X10_save_0
    exact bnd e
  · exact absurd ⟨t, rfl, h1, ht, ac⟩ y
/-- the writes a .. n - 1 of t are gone -/
def UndR (h : Hp) (M t a n : Nat) (s : Hp) : Prop := RfO [15] [] M h s ∧ ∀ j, (a ≤ j ∧ j < n ∧ h.bi (M + 11) j = nI t → s.bi (M + 15) j = 1) ∧ (¬ (a ≤ j ∧ j < n ∧ h.bi (M + 11) j = nI t) → s.bi (M + 15) j = h.bi (M + 15) j)
/-- the heap that an undo leaves, once the writes are gone -/
def undH (s : Hp) (M k t m : Nat) : Hp := logH (s.sbi (M + 9) t (nI m)) M k 8 (nI t) (nI m)
theorem undH.ro {t m : Nat} : RfO [9, 23, 24, 25] [1339] M h (undH h M k t m) := (RfO.sbi (k := 9) (by decide) _ _).tr (logH.ro.mono (by decide) (by decide))
theorem undH.rn (n : Rn h M b c w l v k r) (hk : k < 512) {t m : Nat} : Rn (undH h M k t m) M b c w l v (k + 1) r := by
  have f : RfO [9] [] M h (h.sbi (M + 9) t (nI m)) := RfO.sbi (k := 9) (by decide) _ _
  exact logH.rn (f.rn n (fun _ _ z => by cases z)) hk
theorem rf_un56 (q : Rk h M) (n : Rn h M b c w l v k r) (N : Nat) (hN : 1000 < N) (hk : k < 512) {t a m : Nat} (ht : t ≤ b) (ha : a ≤ w) (g15 : ∀ i, i < w → h.bi (M + 15) i = 0 ∨ h.bi (M + 15) i = 1) : ∃ s, UndR h M t a w s ∧ L_X10_undo_56 N M N h (nI t) (nI m) (nI a) = some (undH s M k t m, nI (cntQ (lstW (undH s M k t m) M w t) w)) := by
  have hb := n.2.2.2.2.2.2.2.1
  have hw := n.2.2.2.2.2.2.2.2.2.1
  refine lp_inv (G := fun F i (s : Hp) => L_X10_undo_56 N M F s (nI t) (nI m) (nI i)) (hi := w) (Inv := fun i s => a ≤ i ∧ UndR h M t a i s) (Q := fun o => ∃ s, UndR h M t a w s ∧ o = some (undH s M k t m, nI (cntQ (lstW (undH s M k t m) M w t) w))) ?_ ?_ (w - a) a N h rfl ha (by omega) ⟨Nat.le_refl _, RfO.rf _ _ _ _, fun j => ⟨fun z => by omega, fun _ => rfl⟩⟩
  · intro F s hs
    obtain ⟨_, f, p⟩ := hs
    refine ⟨s, ⟨f, p⟩, ?_⟩
    have q' := f.rk q
    have n' := f.rn n (fun _ _ z => by cases z)
    have f1 : RfO [9] [] M s (s.sbi (M + 9) t (nI m)) := RfO.sbi (k := 9) (by decide) _ _
    have lg := rf_log (f1.rk q') (f1.rn n' (fun _ _ z => by cases z)) N 8 (nI t) (nI m)
    have wm := rf_wroteMany (undH.ro.rk q') (undH.rn n' hk) N hN t (h := undH s M k t m)
    show B_X10_undo_56 N _ M s (nI t) (nI m) (nI w) = _
    unfold B_X10_undo_56
    rw [n'.2.2.1]
    refine (if_pos (by exact (ni_le (by omega) (by omega)).mpr (by omega))).trans ?_
    rw [rd_1309 q', rx_1309 q' (show t < 514 by omega), ni_clp (show t < _ by omega)]
    refine (bnd (by exact lg)).trans ?_
    unfold B_X10_undo_115 B_X10_undo_121
    exact bnd wm
  · intro F i s hi hs
    obtain ⟨ai, f, p⟩ := hs
    left
    have q' := f.rk q
    have n' := f.rn n (fun _ _ z => by cases z)
    have e11 : s.bi (M + 11) = h.bi (M + 11) := f.bi (by decide)
    have e15 : s.bi (M + 15) i = h.bi (M + 15) i := (p i).2 (fun z => by omega)
    have put : ∀ y : Int32, y = 0 ∨ y = 1 → B_X10_undo_93 N (L_X10_undo_56 N M F) M s (nI t) (nI m) (nI i) (some (M + 15)) (nI i) y = L_X10_undo_56 N M F (s.sbi (M + 15) i y) (nI t) (nI m) (nI (i + 1)) := by
      intro y hy
      unfold B_X10_undo_93
      refine (dr_e (by exact rfl) (by exact (q'.2 _ rt_1318).2.1)).trans ?_
      rw [rx_1318 q' (show i < 514 by omega), ni_clp (show i < _ by omega), ni_inc]
      exact ck_eq hy
    have body : L_X10_undo_56 N M (F + 1) s (nI t) (nI m) (nI i) = L_X10_undo_56 N M F (s.sbi (M + 15) i (if h.bi (M + 15) i = 0 then (if h.bi (M + 11) i = nI t then 1 else 0) else 1)) (nI t) (nI m) (nI (i + 1)) := by
      show B_X10_undo_56 N (L_X10_undo_56 N M F) M s (nI t) (nI m) (nI i) = _
      unfold B_X10_undo_56 B_X10_undo_88
      rw [n'.2.2.1]
      refine (if_neg (by exact fun z => by rw [ni_le (by omega) (by omega)] at z; omega)).trans ?_
      rw [rd_1318 q', rx_1318 q' (show i < 514 by omega), rd_1314 q', rx_1314 q' (show i < 514 by omega), ni_clp (show i < _ by omega), e11, e15]
      by_cases z : h.bi (M + 15) i = 0
      · rw [if_pos z, if_pos z]
        by_cases z2 : h.bi (M + 11) i = nI t
        · rw [if_pos z2, if_pos z2]
          exact put 1 (Or.inr rfl)
        · rw [if_neg z2, if_neg z2]
          exact put 0 (Or.inl rfl)
      · rw [if_neg z, if_neg z]
        exact put 1 (Or.inr rfl)
    show ∃ s' : Hp, (a ≤ i + 1 ∧ UndR h M t a (i + 1) s') ∧ L_X10_undo_56 N M (F + 1) s (nI t) (nI m) (nI i) = L_X10_undo_56 N M F s' (nI t) (nI m) (nI (i + 1))
    refine ⟨_, ⟨by omega, f.tr (RfO.sbi (k := 15) (by decide) _ _), fun j => ?_⟩, body⟩
    rw [bi_at]
    by_cases e : j = i
    · rw [if_pos e, e]
      constructor
      · intro y
        by_cases z : h.bi (M + 15) i = 0
        · rw [if_pos z, if_pos y.2.2]
        · rw [if_neg z]
      · intro y
        by_cases z : h.bi (M + 15) i = 0
        · rw [if_pos z, if_neg (fun u => y ⟨ai, by omega, u⟩), z]
        · rw [if_neg z, (g15 i hi).resolve_left z]
    · rw [if_neg e]
      exact ⟨fun y => (p j).1 ⟨y.1, by omega, y.2.2⟩, fun y => (p j).2 (fun u => y ⟨u.1, by omega, u.2.2⟩)⟩
theorem rf_undo1 (q : Rk h M) (n : Rn h M b c w l v k r) (N : Nat) (hN : 1000 < N) (hk : k < 512) {t a m p : Nat} (ht : t ≤ b) (ep : h.bi (M + 9) t = nI p) (hp : p ≤ 10) (m1 : 1 ≤ m) (hm : m ≤ p) (ea : h.bi (M + 10) (10 * t + m - 1) = nI a) (ha : a ≤ w) (g15 : ∀ i, i < w → h.bi (M + 15) i = 0 ∨ h.bi (M + 15) i = 1) : ∃ s, UndR h M t a w s ∧ B_X10_undo_15 N M h (nI t) (nI m) 0 = some (undH s M k t m, nI (cntQ (lstW (undH s M k t m) M w t) w)) := by
  have hb := n.2.2.2.2.2.2.2.1
  obtain ⟨s, s1, s2⟩ := rf_un56 q n N hN hk (t := t) (a := a) (m := m) ht ha g15
  refine ⟨s, s1, ?_⟩
  have ix : (10 : Int32) * nI t + nI m - 1 = nI (10 * t + m - 1) := by
    rw [show (10 : Int32) = nI 10 from rfl, nI_mul, show nI (10 * t) + nI m = nI (10 * t + m - 1 + 1) from (nI_add _ _).trans (by congr 1; omega), ni_pred]
  unfold B_X10_undo_15
  refine (if_pos (by rfl)).trans ?_
  refine (if_neg (by exact fun z => by rw [ni_lt1 (by omega)] at z; omega)).trans ?_
  rw [rd_1309 q, rx_1309 q (show t < 514 by omega), ni_clp (show t < _ by omega), ep]
  refine (if_pos (by exact (ni_le (by omega) (by omega)).mpr hm)).trans ?_
  rw [ix, rd_1310 q, rx_1310 q (by omega), ni_clp (by omega), ea]
  exact s2
theorem rf_undoR (q : Rk h M) (n : Rn h M b c w l v k r) (N : Nat) {t p : Nat} (ht : t ≤ b) (ep : h.bi (M + 9) t = nI p) {x : Int32} (no : x < 1 ∨ nI p < x) : B_X10_undo_15 N M h (nI t) x 0 = some (h.sgi 1300 M 2, 0) := by
  have hb := n.2.2.2.2.2.2.2.1
  unfold B_X10_undo_15 B_X10_undo_35
  refine (if_pos (by rfl)).trans ?_
  by_cases z : x < 1
  · exact if_pos z
  · rw [if_neg z, rd_1309 q, rx_1309 q (show t < 514 by omega), ni_clp (show t < _ by omega), ep]
    refine if_neg (fun y => ?_)
    have := no.resolve_left z
    rw [Int32.le_iff_toInt_le] at y
    rw [Int32.lt_iff_toInt_lt] at this
    omega
theorem rf_undoX (q : Rk h M) (n : Rn h M b c w l v k r) (N : Nat) {x : Int32} (y : Int32) (no : ¬ actT h M b x) : J_X10_undo N M h x y = some (tk h M 1, 0) := by
  rcases rf_enter q n N x with ⟨y, _⟩ | ⟨_, e⟩
  · exact absurd y no
  · unfold J_X10_undo B_X10_undo_0
    refine (bnd (by exact e)).trans ?_
    unfold B_X10_undo_15
    exact if_neg (by show ¬ (1 : Int32) = 0; decide)
theorem rf_undoT (q : Rk h M) (n : Rn h M b c w l v k r) (N : Nat) (y : Int32) {t : Nat} (h1 : 1 ≤ t) (ht : t ≤ b) (ac : h.bi (M + 1) t = 1) : J_X10_undo N M h (nI t) y = B_X10_undo_15 N M (tk h M 0) (nI t) y 0 := by
  rcases rf_enter q n N (nI t) with ⟨_, e⟩ | ⟨y, _⟩
  · unfold J_X10_undo B_X10_undo_0
    exact bnd e
  · exact absurd ⟨t, rfl, h1, ht, ac⟩ y
end RF16
