/-! conflicts, danger, log, found -/
section RF8
variable {h : Hp} {M b c w l v k r : Nat}
/-- version i is in conflict with t -/
def cfC (h : Hp) (M w t i : Nat) : Prop := h.bi (M + 3) t < vMo h M i ∧ ∃ j, j < w ∧ ownC h M t (h.bi (M + 19) i) j
def CfS (h : Hp) (M w v t i : Nat) (s : Int32 × Int32 × Int32) : Prop := (s.1 = 0 ∧ ∀ j, i ≤ j → j < v → ¬ cfC h M w t j) ∨ (s.1 = 1 ∧ ∃ j, i ≤ j ∧ j < v ∧ cfC h M w t j ∧ s.2.1 = h.bi (M + 19) j ∧ s.2.2 = h.bi (M + 20) j ∧ ∀ j', i ≤ j' → j' < v → cfC h M w t j' → s.2.1 ≤ h.bi (M + 19) j' ∧ (h.bi (M + 19) j' = s.2.1 → j ≤ j'))
theorem lastS.no {P : Nat → Prop} {w : Nat} (hw : w < 2147483648) {x : Int32} (p : lastS P w x) : x = -1 ↔ ¬ ∃ j, j < w ∧ P j := by
  rcases p with ⟨p1, p2⟩ | ⟨i, p1, p2, p3, p4⟩
  · exact ⟨fun _ ⟨j, h1, h2⟩ => p2 j h1 h2, fun _ => p1⟩
  · exact ⟨fun z => absurd (p2.symm.trans z) (ni_m1 (by omega)), fun z => absurd ⟨i, p1, p3⟩ z⟩
/-- the reason, as the reference keeps it -/
def rsnH (h : Hp) (M : Nat) (a b c d : Int32) : Hp := (((h.sgi 1347 M a).sgi 1348 M b).sgi 1349 M c).sgi 1350 M d
theorem rsnH.ro {a b c d : Int32} : RfO [] [1347, 1348, 1349, 1350] M h (rsnH h M a b c d) := (((RfO.sgi (by decide) _).tr (RfO.sgi (by decide) _)).tr (RfO.sgi (by decide) _)).tr (RfO.sgi (by decide) _)
theorem rf_conflicts (q : Rk h M) (n : Rn h M b c w l v k r) (N : Nat) (hN : 1000 < N) (g : VtOk h M b v) {t : Nat} (ht : t < 514) : ∃ s : Int32 × Int32 × Int32, CfS h M w v t 0 s ∧ J_X10_conflicts N M h (nI t) = some (if s.1 = 0 then h else rsnH h M 1 (nI t) s.2.2 s.2.1, s.1) := by
  have hw := n.2.2.2.2.2.2.2.2.2.1
  have hv := n.2.2.2.2.2.2.2.2.2.2.2.1
  have key := lp_dn (G := fun F i (s : Int32 × Int32 × Int32) => L_X10_conflicts_15 N M F h (nI t) s.1 s.2.1 s.2.2 (nI i - 1)) (Inv := fun i s => i ≤ v ∧ CfS h M w v t i s) (Q := fun o => ∃ s : Int32 × Int32 × Int32, CfS h M w v t 0 s ∧ o = some (if s.1 = 0 then h else rsnH h M 1 (nI t) s.2.2 s.2.1, s.1)) ?_ ?_ v N (0, 0, 0) (by omega) ⟨Nat.le_refl _, Or.inl ⟨rfl, fun j h1 h2 => by omega⟩⟩
  · unfold J_X10_conflicts B_X10_conflicts_0
    rw [n.2.2.2.2.1]
    exact key
  · intro F s hs
    refine ⟨s, hs.2, ?_⟩
    show B_X10_conflicts_15 N _ M h (nI t) s.1 s.2.1 s.2.2 (nI 0 - 1) = _
    unfold B_X10_conflicts_15 B_X10_conflicts_119
    refine (if_pos (by decide)).trans ?_
    by_cases z : s.1 = 0
    · rw [if_pos z, if_pos z]
      exact ck_eq (Or.inl z)
    · rw [if_neg z, if_neg z]
      exact ck_eq (hs.2.elim (fun y => Or.inl y.1) (fun y => Or.inr y.1))
  · intro F i s hs
    obtain ⟨iv, hs⟩ := hs
    left
    obtain ⟨x, e1, e2⟩ := rf_ownOf q n N hN t (h.bi (M + 19) i)
    have body : L_X10_conflicts_15 N M (F + 1) h (nI t) s.1 s.2.1 s.2.2 (nI (i + 1) - 1) = if vMo h M i ≤ h.bi (M + 3) t then L_X10_conflicts_15 N M F h (nI t) s.1 s.2.1 s.2.2 (nI i - 1) else if x = -1 then L_X10_conflicts_15 N M F h (nI t) s.1 s.2.1 s.2.2 (nI i - 1) else if s.1 = 0 then L_X10_conflicts_15 N M F h (nI t) 1 (h.bi (M + 19) i) (h.bi (M + 20) i) (nI i - 1) else if s.2.1 < h.bi (M + 19) i then L_X10_conflicts_15 N M F h (nI t) 1 s.2.1 s.2.2 (nI i - 1) else L_X10_conflicts_15 N M F h (nI t) 1 (h.bi (M + 19) i) (h.bi (M + 20) i) (nI i - 1) := by
      show B_X10_conflicts_15 N (L_X10_conflicts_15 N M F) M h (nI t) s.1 s.2.1 s.2.2 (nI (i + 1) - 1) = _
      rw [ni_pred]
      unfold B_X10_conflicts_15
      refine (if_neg (by exact ni_nn (by omega))).trans ?_
      refine (bnd (by exact rf_momentOf q n N g (show i < v by omega))).trans ?_
      show B_X10_conflicts_26 N (L_X10_conflicts_15 N M F) M h (nI t) s.1 s.2.1 s.2.2 (nI i) (vMo h M i) = _
      unfold B_X10_conflicts_26
      rw [rd_1303 q, rx_1303 q ht, rd_1324 q, rx_1324 q (by omega)]
      rw [ni_clp (by omega), ni_clp (by omega)]
      by_cases z1 : vMo h M i ≤ h.bi (M + 3) t
      · rw [if_pos z1, if_pos z1]
        unfold B_X10_conflicts_88
        rw [ni_m]
      · rw [if_neg z1, if_neg z1]
        refine (bnd (by exact e1)).trans ?_
        show B_X10_conflicts_47 N (L_X10_conflicts_15 N M F) M h (nI t) s.1 s.2.1 s.2.2 (nI i) x = _
        unfold B_X10_conflicts_47 B_X10_conflicts_69 B_X10_conflicts_86 B_X10_conflicts_88
        rw [rd_1324 q, rx_1324 q (by omega), rd_1325 q, rx_1325 q (by omega), rd_1324 q, rx_1324 q (by omega)]
        rw [ni_clp (by omega), ni_m]
    have skip : ¬ cfC h M w t i → CfS h M w v t i s := by
      intro z
      rcases hs with ⟨p1, p2⟩ | ⟨p1, j, p2, p3, p4, p5, p6, p7⟩
      · refine Or.inl ⟨p1, fun j h1 h2 => ?_⟩
        by_cases e : j = i
        · rw [e]; exact z
        · exact p2 j (by omega) h2
      · refine Or.inr ⟨p1, j, by omega, p3, p4, p5, p6, fun j' h1 h2 h3 => ?_⟩
        by_cases e : j' = i
        · rw [e] at h3; exact absurd h3 z
        · exact p7 j' (by omega) h2 h3
    show ∃ s' : Int32 × Int32 × Int32, (i ≤ v ∧ CfS h M w v t i s') ∧ L_X10_conflicts_15 N M (F + 1) h (nI t) s.1 s.2.1 s.2.2 (nI (i + 1) - 1) = L_X10_conflicts_15 N M F h (nI t) s'.1 s'.2.1 s'.2.2 (nI i - 1)
    rw [body]
    by_cases z1 : vMo h M i ≤ h.bi (M + 3) t
    · rw [if_pos z1]
      refine ⟨s, ⟨by omega, skip (fun y => ?_)⟩, rfl⟩
      have := y.1
      rw [Int32.le_iff_toInt_le] at z1
      rw [Int32.lt_iff_toInt_lt] at this
      omega
    · rw [if_neg z1]
      by_cases z2 : x = -1
      · rw [if_pos z2]
        exact ⟨s, ⟨by omega, skip (fun y => (e2.no (by omega)).mp z2 y.2)⟩, rfl⟩
      · rw [if_neg z2]
        have own : ∃ j, j < w ∧ ownC h M t (h.bi (M + 19) i) j := Classical.byContradiction fun y => z2 ((e2.no (by omega)).mpr y)
        have cf : cfC h M w t i := ⟨by rw [Int32.lt_iff_toInt_lt]; rw [Int32.le_iff_toInt_le] at z1; omega, own⟩
        rcases hs with ⟨p1, p2⟩ | ⟨p1, j, p2, p3, p4, p5, p6, p7⟩
        · rw [if_pos p1]
          refine ⟨(1, h.bi (M + 19) i, h.bi (M + 20) i), ⟨by omega, Or.inr ⟨rfl, i, by omega, by omega, cf, rfl, rfl, fun j' h1 h2 h3 => ?_⟩⟩, rfl⟩
          by_cases e : j' = i
          · rw [e]; exact ⟨by rw [Int32.le_iff_toInt_le]; exact Int.le_refl _, fun _ => Nat.le_refl _⟩
          · exact absurd h3 (p2 j' (by omega) h2)
        · rw [if_neg (by rw [p1]; decide)]
          by_cases z3 : s.2.1 < h.bi (M + 19) i
          · rw [if_pos z3]
            refine ⟨(1, s.2.1, s.2.2), ⟨by omega, Or.inr ⟨rfl, j, by omega, p3, p4, p5, p6, fun j' h1 h2 h3 => ?_⟩⟩, rfl⟩
            by_cases e : j' = i
            · rw [e]
              refine ⟨by rw [Int32.le_iff_toInt_le]; rw [Int32.lt_iff_toInt_lt] at z3; exact Int.le_of_lt z3, fun y => ?_⟩
              rw [y, Int32.lt_iff_toInt_lt] at z3
              exact absurd z3 (Int.lt_irrefl _)
            · exact p7 j' (by omega) h2 h3
          · rw [if_neg z3]
            refine ⟨(1, h.bi (M + 19) i, h.bi (M + 20) i), ⟨by omega, Or.inr ⟨rfl, i, by omega, by omega, cf, rfl, rfl, fun j' h1 h2 h3 => ?_⟩⟩, rfl⟩
            by_cases e : j' = i
            · rw [e]; exact ⟨by rw [Int32.le_iff_toInt_le]; exact Int.le_refl _, fun _ => Nat.le_refl _⟩
            · have := (p7 j' (by omega) h2 h3).1
              refine ⟨?_, fun _ => h1⟩
              rw [Int32.lt_iff_toInt_lt] at z3
              rw [Int32.le_iff_toInt_le] at this ⊢
              show (h.bi (M + 19) i).toInt ≤ _
              omega
/-- the one of moment m, or 0 -/
def atM (h : Hp) (M b : Nat) (m : Int32) (x : Nat) : Prop := (x = 0 ∧ ∀ u, 1 ≤ u → u ≤ b → ¬ (h.bi (M + 1) u = 2 ∧ h.bi (M + 4) u = m)) ∨ (1 ≤ x ∧ x ≤ b ∧ h.bi (M + 1) x = 2 ∧ h.bi (M + 4) x = m)
/-- what danger leaves -/
def DgR (h : Hp) (M b l v a t : Nat) (h' : Hp) : Prop := ∃ o x, outS h M l v t (b + 1) o ∧ atM h M b o x ∧ h' = rsnH h M 2 (nI a) (nI t) (nI x)
theorem rf_danger (q : Rk h M) (n : Rn h M b c w l v k r) (N : Nat) (hN : 1000 < N) (pos : ∀ u, 1 ≤ u → u ≤ b → h.bi (M + 1) u = 2 → 0 < h.bi (M + 4) u) (a : Nat) {t : Nat} (ht : t < 514) : ∃ h', J_X10_danger N M h (nI a) (nI t) = some (h', ()) ∧ DgR h M b l v a t h' := by
  have f : RfO [] [1347, 1348, 1349, 1350] M h (((h.sgi 1347 M 2).sgi 1348 M (nI a)).sgi 1349 M (nI t)) := ((RfO.sgi (by decide) _).tr (RfO.sgi (by decide) _)).tr (RfO.sgi (by decide) _)
  have q' := f.rk q
  have n' := f.rn n (by decide)
  obtain ⟨o, e1, e2⟩ := rf_outOf q' n' N hN pos ht
  obtain ⟨x, f1, f2⟩ := rf_atMoment q' n' N hN o
  refine ⟨_, ?_, o, x, (outS.con f (fun _ _ z => by cases z) rfl).mp e2, f2, rfl⟩
  unfold J_X10_danger B_X10_danger_0
  refine (bnd (by exact e1)).trans ?_
  unfold B_X10_danger_22
  refine (dr_e (by exact rfl) (by exact q'.1)).trans ?_
  refine (bnd (by exact f1)).trans ?_
  unfold B_X10_danger_25
  refine (dr_e (by exact rfl) (by exact q'.1)).trans ?_
  rfl
/-- a call's row -/
def logH (h : Hp) (M k : Nat) (kind : Int32) (t : Int32) (key : Int32) : Hp := (((h.sbi (M + 23) k kind).sbi (M + 24) k t).sbi (M + 25) k key).sgi 1339 M (nI (k + 1))
theorem logH.ro {kind t key : Int32} : RfO [23, 24, 25] [1339] M h (logH h M k kind t key) := (((RfO.sbi (k := 23) (by decide) _ _).tr (RfO.sbi (k := 24) (by decide) _ _)).tr (RfO.sbi (k := 25) (by decide) _ _)).tr (RfO.sgi (by decide) _)
theorem rf_log (q : Rk h M) (n : Rn h M b c w l v k r) (N : Nat) (kind t key : Int32) : J_X10_log N M h kind t key = some (logH h M k kind t key, nI k) := by
  have hk := n.2.2.2.2.2.2.2.2.2.2.2.2.1
  unfold J_X10_log B_X10_log_0 B_X10_log_40 logH
  rw [n.2.2.2.2.2.1]
  rw [rd_1329 q, rx_1329 q (by omega)]
  rw [pj_sbi_gr, dr_sbi, rd_1330 q, pj_sbi_al, rx_1330 q (by omega), pj_sbi_gr, dr_sbi, pj_sbi_gr, dr_sbi, rd_1331 q, pj_sbi_al, pj_sbi_al, rx_1331 q (by omega), pj_sbi_gi, pj_sbi_gi, pj_sbi_gi, n.2.2.2.2.2.1, ni_clp (by omega), ni_inc]
/-- an answer's row -/
def fndH (h : Hp) (M k : Nat) (key : Int32) (x : Int64) : Hp := ((((h.sgi 1344 M key).sgl 1343 M x).sbi (M + 29) k 1).sbi (M + 30) k key).sbw (M + 31) k x
theorem fndH.ro {key : Int32} {x : Int64} : RfO [29, 30, 31] [1343, 1344] M h (fndH h M k key x) := ((((RfO.sgi (by decide) _).tr (RfO.sgl (by decide) _)).tr (RfO.sbi (k := 29) (by decide) _ _)).tr (RfO.sbi (k := 30) (by decide) _ _)).tr (RfO.sbw (k := 31) (by decide) _ _)
theorem rf_found (q : Rk h M) (N : Nat) {k : Nat} (hk : k < 514) (key : Int32) (x : Int64) : J_X10_found N M h (nI k) key x = some (fndH h M k key x, ()) := by
  have f1 : RfO [] [1343, 1344] M h ((h.sgi 1344 M key).sgl 1343 M x) := (RfO.sgi (by decide) _).tr (RfO.sgl (by decide) _)
  have q1 := f1.rk q
  unfold J_X10_found B_X10_found_0 B_X10_found_24 fndH
  generalize (h.sgi 1344 M key).sgl 1343 M x = h1 at q1 ⊢
  rw [rd_1335 q1, rx_1335 q1 hk, pj_sbi_gr, dr_sbi, rd_1336 q1, pj_sbi_al, rx_1336 q1 hk, pj_sbi_gr, dr_sbi, pj_sbi_gr, dr_sbi, rd_1337 q1, pj_sbi_al, pj_sbi_al, rx_1337 q1 hk, ni_clp (by omega)]
end RF8
