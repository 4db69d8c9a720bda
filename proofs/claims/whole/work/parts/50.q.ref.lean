/-! nearest -/
section RF17
variable {h : Hp} {M b c w l v k r : Nat}
/-- t sees a value under key -/
def seeB (h : Hp) (M w v t : Nat) (key : Int32) : Prop := (∃ i, i < w ∧ lastS (ownC h M t key) w (nI i) ∧ h.bi (M + 14) i ≠ 0) ∨ (lastS (ownC h M t key) w (-1) ∧ ∃ i, i < v ∧ lastS (vatC h M key (h.bi (M + 3) t)) v (nI i) ∧ h.bi (M + 22) i ≠ 0)
theorem vatC.con {A G : List Nat} {h' : Hp} (f : RfO A G M h h') (hA : ∀ x ∈ [4, 19, 20], x ∉ A) (key m : Int32) : vatC h' M key m = vatC h M key m := by
  funext i
  unfold vatC
  rw [f.bi (hA 19 (by decide)), vMo.con f (hA 4 (by decide)) (hA 20 (by decide))]
theorem seeB.con {A G : List Nat} {h' : Hp} (f : RfO A G M h h') (hA : ∀ x ∈ [3, 4, 11, 12, 14, 15, 19, 20, 22], x ∉ A) {t : Nat} {key : Int32} : seeB h' M w v t key ↔ seeB h M w v t key := by
  unfold seeB
  rw [ownC.con f (fun x hx => hA x (by simp at hx ⊢; omega)), vatC.con f (fun x hx => hA x (by simp at hx ⊢; omega)), f.bi (hA 3 (by decide)), f.bi (hA 14 (by decide)), f.bi (hA 22 (by decide))]
theorem SeeR.see {t : Nat} {key x : Int32} {h' : Hp} (hw : w ≤ 512) (hv : v ≤ 512) (s : SeeR h M w v t key h' x) : x ≠ 0 ↔ seeB h M w v t key := by
  rcases s with ⟨i, i1, i2, _, e⟩ | ⟨o, ⟨n, _, e⟩ | ⟨i, i1, i2, _, e⟩⟩
  · rw [e]
    constructor
    · exact fun z => Or.inl ⟨i, i1, i2, z⟩
    · rintro (⟨j, j1, j2, j3⟩ | ⟨j1, _⟩)
      · have := i2.uniq j2
        rw [ni_inj (by omega) (by omega)] at this
        rw [this]; exact j3
      · exact absurd (i2.uniq j1) (ni_m1 (by omega))
  · rw [e]
    constructor
    · exact fun z => absurd rfl z
    · rintro (⟨j, j1, j2, j3⟩ | ⟨_, j, j1, j2, j3⟩)
      · exact absurd (j2.uniq o) (ni_m1 (by omega))
      · exact absurd (j2.uniq n) (ni_m1 (by omega))
  · rw [e]
    constructor
    · exact fun z => Or.inr ⟨o, i, i1, i2, z⟩
    · rintro (⟨j, j1, j2, j3⟩ | ⟨_, j, j1, j2, j3⟩)
      · exact absurd (j2.uniq o) (ni_m1 (by omega))
      · have := i2.uniq j2
        rw [ni_inj (by omega) (by omega)] at this
        rw [this]; exact j3
/-- the first i < n with P, or -1 -/
def firstS (P : Nat → Prop) (n : Nat) (x : Int32) : Prop := (x = -1 ∧ ∀ i, i < n → ¬ P i) ∨ ∃ i, i < n ∧ x = nI i ∧ P i ∧ ∀ j, j < i → ¬ P j
theorem firstS.skip {P : Nat → Prop} {n : Nat} {x : Int32} (f : firstS P n x) (z : x = -1 → ¬ P n) : firstS P (n + 1) x := by
  rcases f with ⟨a1, a2⟩ | ⟨i, a1, a2⟩
  · refine Or.inl ⟨a1, fun i hi => ?_⟩
    by_cases e : i = n
    · rw [e]; exact z a1
    · exact a2 i (by omega)
  · exact Or.inr ⟨i, by omega, a2⟩
theorem lastS.skip {P : Nat → Prop} {n : Nat} {x : Int32} (f : lastS P n x) (z : ¬ P n) : lastS P (n + 1) x := by
  rcases f with ⟨a1, a2⟩ | ⟨i, a1, a2, a3, a4⟩
  · refine Or.inl ⟨a1, fun i hi => ?_⟩
    by_cases e : i = n
    · rw [e]; exact z
    · exact a2 i (by omega)
  · refine Or.inr ⟨i, by omega, a2, a3, fun j h1 h2 => ?_⟩
    by_cases e : j = n
    · rw [e]; exact z
    · exact a4 j h1 (by omega)
/-- where the nearest key lies among the first n -/
def NeaS (h : Hp) (M w v t : Nat) (A : Nat → Int32) (key up : Int32) (n : Nat) (x : Int32) : Prop := (up = 0 → lastS (fun i => ¬ key < A i ∧ seeB h M w v t (A i)) n x) ∧ (up ≠ 0 → firstS (fun i => ¬ A i < key ∧ seeB h M w v t (A i)) n x)
theorem rf_nea (q : Rk h M) (n : Rn h M b c w l v k r) (N : Nat) (hN : 1000 < N) (g : VtOk h M b v) (B : WvB h M w v) {t m : Nat} (ht : t < 514) (em : h.gi 1353 M = nI m) (hm : m ≤ 512) (key up : Int32) : ∃ h' x, L_X10_nearest_10 N M N h (nI t) key up (-1) (nI 0) = some (h', x) ∧ RfO [] [1351] M h h' ∧ NeaS h M w v t (h.bi (M + 35)) key up m x := by
  have hw := n.2.2.2.2.2.2.2.2.2.1
  have hv := n.2.2.2.2.2.2.2.2.2.2.2.1
  refine lp_inv (G := fun F i (s : Hp × Int32) => L_X10_nearest_10 N M F s.1 (nI t) key up s.2 (nI i)) (hi := m) (Inv := fun i s => RfO [] [1351] M h s.1 ∧ NeaS h M w v t (h.bi (M + 35)) key up i s.2) (Q := fun o => ∃ h' x, o = some (h', x) ∧ RfO [] [1351] M h h' ∧ NeaS h M w v t (h.bi (M + 35)) key up m x) ?_ ?_ m 0 N (h, -1) (by omega) (by omega) (by omega) ⟨RfO.rf _ _ _ _, fun _ => Or.inl ⟨rfl, fun i hi => by omega⟩, fun _ => Or.inl ⟨rfl, fun i hi => by omega⟩⟩
  · intro F s hs
    refine ⟨s.1, s.2, ?_, hs⟩
    show B_X10_nearest_10 N _ M s.1 (nI t) key up s.2 (nI m) = _
    unfold B_X10_nearest_10
    rw [hs.1.gi (by decide), em]
    exact if_pos ((ni_le (by omega) (by omega)).mpr (by omega))
  · intro F i s hi hs
    obtain ⟨f, p⟩ := hs
    obtain ⟨s, at0⟩ := s
    left
    have f : RfO [] [1351] M h s := f
    have p : NeaS h M w v t (h.bi (M + 35)) key up i at0 := p
    have q' := f.rk q
    have n' := f.rn n (by decide)
    have e35 : s.bi (M + 35) = h.bi (M + 35) := f.bi (by decide)
    obtain ⟨h', x, e1, e2⟩ := rf_sees q' n' N hN (g.con f (by decide)) (B.con f (by decide) (by decide)) ht (h.bi (M + 35) i)
    have f2 : RfO [] [1351] M h h' := f.tr e2.ro
    have sx := (e2.see hw hv).trans (seeB.con f (by decide))
    have t64 : ∀ y : Int32, B_X10_nearest_64 N (L_X10_nearest_10 N M F) M s (nI t) key up at0 (nI i) y = if y = 0 then L_X10_nearest_10 N M F s (nI t) key up at0 (nI (i + 1)) else if x = 0 then L_X10_nearest_10 N M F h' (nI t) key up at0 (nI (i + 1)) else L_X10_nearest_10 N M F h' (nI t) key up (nI i) (nI (i + 1)) := by
      intro y
      unfold B_X10_nearest_64 B_X10_nearest_90
      rw [rd_1352 q', rx_1352 q' (show i < 514 by omega), ni_clp (show i < _ by omega), ni_inc, e35]
      by_cases z : y = 0
      · rw [if_pos z, if_pos z]
      · rw [if_neg z, if_neg z]
        refine (bnd (by exact e1)).trans ?_
        show B_X10_nearest_83 N (L_X10_nearest_10 N M F) M h' (nI t) key up at0 (nI i) x = _
        unfold B_X10_nearest_83 B_X10_nearest_90
        rw [ni_inc]
    have body : L_X10_nearest_10 N M (F + 1) s (nI t) key up at0 (nI i) = if up = 0 then (if key < h.bi (M + 35) i then L_X10_nearest_10 N M F s (nI t) key up at0 (nI (i + 1)) else if x = 0 then L_X10_nearest_10 N M F h' (nI t) key up at0 (nI (i + 1)) else L_X10_nearest_10 N M F h' (nI t) key up (nI i) (nI (i + 1))) else if h.bi (M + 35) i < key then L_X10_nearest_10 N M F s (nI t) key up at0 (nI (i + 1)) else if at0 = -1 then (if x = 0 then L_X10_nearest_10 N M F h' (nI t) key up at0 (nI (i + 1)) else L_X10_nearest_10 N M F h' (nI t) key up (nI i) (nI (i + 1))) else L_X10_nearest_10 N M F s (nI t) key up at0 (nI (i + 1)) := by
      show B_X10_nearest_10 N (L_X10_nearest_10 N M F) M s (nI t) key up at0 (nI i) = _
      unfold B_X10_nearest_10 B_X10_nearest_44
      rw [f.gi (by decide), em]
      refine (if_neg (by exact fun z => by rw [ni_le (by omega) (by omega)] at z; omega)).trans ?_
      rw [rd_1352 q', rx_1352 q' (show i < 514 by omega), rd_1352 q', rx_1352 q' (show i < 514 by omega), ni_clp (show i < _ by omega), e35, t64 0, t64 1, if_pos (rfl : (0 : Int32) = 0), if_neg (show ¬ (1 : Int32) = 0 by decide)]
    show ∃ s' : Hp × Int32, (RfO [] [1351] M h s'.1 ∧ NeaS h M w v t (h.bi (M + 35)) key up (i + 1) s'.2) ∧ L_X10_nearest_10 N M (F + 1) s (nI t) key up at0 (nI i) = L_X10_nearest_10 N M F s'.1 (nI t) key up s'.2 (nI (i + 1))
    rw [body]
    by_cases u0 : up = 0
    · rw [if_pos u0]
      have skip : ¬ (¬ key < h.bi (M + 35) i ∧ seeB h M w v t (h.bi (M + 35) i)) → NeaS h M w v t (h.bi (M + 35)) key up (i + 1) at0 := fun z => ⟨fun y => (p.1 y).skip z, fun y => absurd u0 y⟩
      by_cases z1 : key < h.bi (M + 35) i
      · rw [if_pos z1]
        exact ⟨(s, at0), ⟨f, skip (fun y => y.1 z1)⟩, rfl⟩
      · rw [if_neg z1]
        by_cases z2 : x = 0
        · rw [if_pos z2]
          exact ⟨(h', at0), ⟨f2, skip (fun y => sx.mpr y.2 z2)⟩, rfl⟩
        · rw [if_neg z2]
          exact ⟨(h', nI i), ⟨f2, fun _ => Or.inr ⟨i, by omega, rfl, ⟨z1, sx.mp z2⟩, fun j h1 h2 => by omega⟩, fun y => absurd u0 y⟩, rfl⟩
    · rw [if_neg u0]
      have skip : (at0 = -1 → ¬ (¬ h.bi (M + 35) i < key ∧ seeB h M w v t (h.bi (M + 35) i))) → NeaS h M w v t (h.bi (M + 35)) key up (i + 1) at0 := fun z => ⟨fun y => absurd y u0, fun y => (p.2 y).skip z⟩
      by_cases z1 : h.bi (M + 35) i < key
      · rw [if_pos z1]
        exact ⟨(s, at0), ⟨f, skip (fun _ y => y.1 z1)⟩, rfl⟩
      · rw [if_neg z1]
        by_cases z3 : at0 = -1
        · rw [if_pos z3]
          by_cases z2 : x = 0
          · rw [if_pos z2]
            exact ⟨(h', at0), ⟨f2, skip (fun _ y => sx.mpr y.2 z2)⟩, rfl⟩
          · rw [if_neg z2]
            refine ⟨(h', nI i), ⟨f2, fun y => absurd y u0, fun _ => Or.inr ⟨i, by omega, rfl, ⟨z1, sx.mp z2⟩, ?_⟩⟩, rfl⟩
            rcases p.2 u0 with ⟨_, a2⟩ | ⟨j, a1, a2, _⟩
            · exact a2
            · exact absurd (a2.symm.trans z3) (ni_m1 (by omega))
        · rw [if_neg z3]
          exact ⟨(s, at0), ⟨f, skip (fun y => absurd y z3)⟩, rfl⟩
theorem rf_nearest (q : Rk h M) (n : Rn h M b c w l v k r) (N : Nat) (hN : 1000 < N) (g : VtOk h M b v) (B : WvB h M w v) {t : Nat} (ht : t < 514) (key up : Int32) : ∃ h1 m h' x, J_X10_nearest N M h (nI t) key up = some (h', x) ∧ GkR h M w m h1 ∧ RfO [] [1351] M h1 h' ∧ NeaS h M w v t (h1.bi (M + 35)) key up m x := by
  have hw := n.2.2.2.2.2.2.2.2.2.1
  obtain ⟨h1, m, g1, g2⟩ := rf_gatherKeys q n N hN
  have f := g2.1
  obtain ⟨h', x, e1, e2, e3⟩ := rf_nea (f.rk q) (f.rn n (by decide)) N hN (g.con f (by decide)) (B.con f (by decide) (by decide)) ht g2.2.1 (show m ≤ 512 by have := g2.2.2.1; omega) key up
  refine ⟨h1, m, h', x, ?_, g2, e2, ?_⟩
  · unfold J_X10_nearest B_X10_nearest_0
    refine (bnd (by exact g1)).trans ?_
    exact e1
  · have sc : ∀ key, seeB h1 M w v t key ↔ seeB h M w v t key := fun key => seeB.con f (by decide)
    unfold NeaS at e3 ⊢
    have fe1 : (fun i => ¬ key < h1.bi (M + 35) i ∧ seeB h1 M w v t (h1.bi (M + 35) i)) = (fun i => ¬ key < h1.bi (M + 35) i ∧ seeB h M w v t (h1.bi (M + 35) i)) := funext fun i => propext ⟨fun y => ⟨y.1, (sc _).mp y.2⟩, fun y => ⟨y.1, (sc _).mpr y.2⟩⟩
    have fe2 : (fun i => ¬ h1.bi (M + 35) i < key ∧ seeB h1 M w v t (h1.bi (M + 35) i)) = (fun i => ¬ h1.bi (M + 35) i < key ∧ seeB h M w v t (h1.bi (M + 35) i)) := funext fun i => propext ⟨fun y => ⟨y.1, (sc _).mp y.2⟩, fun y => ⟨y.1, (sc _).mpr y.2⟩⟩
    rw [fe1, fe2] at e3
    exact e3
end RF17
