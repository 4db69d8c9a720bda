section RF5
variable {h : Hp} {M b c w l v k r : Nat}
theorem outS.con {A G : List Nat} {h' : Hp} (f : RfO A G M h h') (hA : ∀ x ∈ [1, 3, 4, 16, 17, 18, 19, 20], x ∉ A) {a : Nat} (e : h'.bi (M + 7) a = h.bi (M + 7) a) {n : Nat} {x : Int32} : outS h' M l v a n x ↔ outS h M l v a n x := by
  unfold outS outC prec rdK endT inT
  rw [f.bi (hA 1 (by decide)), f.bi (hA 3 (by decide)), f.bi (hA 4 (by decide)), f.bi (hA 16 (by decide)), f.bi (hA 17 (by decide)), f.bi (hA 18 (by decide)), f.bi (hA 19 (by decide)), f.bi (hA 20 (by decide)), e]
theorem jdV.con {A G : List Nat} {h' : Hp} (f : RfO A G M h h') (hA : ∀ x ∈ [1, 2, 3, 4, 5, 6, 16, 17, 18, 19, 20], x ∉ A) (e : ∀ a, h.bi (M + 2) a = 0 → h'.bi (M + 7) a = h.bi (M + 7) a) {t : Nat} {x : Int32} : jdV h' M b l v t x ↔ jdV h M b l v t x := by
  have hA' : ∀ x ∈ [1, 3, 4, 16, 17, 18, 19, 20], x ∉ A := fun x hx => hA x (by simp at hx ⊢; omega)
  have e1 : wtS h' M t ↔ wtS h M t := by
    unfold wtS
    rw [f.bi (hA 1 (by decide)), f.bi (hA 2 (by decide))]
  have e2 : ∀ u, bdC h' M b l v t u ↔ bdC h M b l v t u := by
    intro u
    unfold bdC
    rw [f.bi (hA 1 (by decide)), f.bi (hA 2 (by decide)), f.bi (hA 3 (by decide)), f.bi (hA 5 (by decide)), f.bi (hA 6 (by decide))]
    constructor
    · rintro ⟨a1, a2, a3, x, a4, a5⟩
      exact ⟨a1, a2, a3, x, (outS.con f hA' (e u a1)).mp a4, a5⟩
    · rintro ⟨a1, a2, a3, x, a4, a5⟩
      exact ⟨a1, a2, a3, x, (outS.con f hA' (e u a1)).mpr a4, a5⟩
  have e3 : bdS h' M b l v t t ↔ bdS h M b l v t t := by
    unfold bdS
    exact ⟨fun ⟨u, u1, u2, u3⟩ => ⟨u, u1, u2, (e2 u).mp u3⟩, fun ⟨u, u1, u2, u3⟩ => ⟨u, u1, u2, (e2 u).mpr u3⟩⟩
  unfold jdV
  rw [e1, e3]
/-- those that judge() judges -/
def jdA (h : Hp) (M t : Nat) : Prop := h.bi (M + 1) t = 1 ∧ h.bi (M + 2) t ≠ 0 ∧ h.bi (M + 7) t = 0
/-- what judge() leaves -/
def JdR (h : Hp) (M b l v n : Nat) (h' : Hp) : Prop := RfO [7] [] M h h' ∧ ∀ j, (1 ≤ j ∧ j < n ∧ jdA h M j → jdV h M b l v j (h'.bi (M + 7) j)) ∧ (¬ (1 ≤ j ∧ j < n ∧ jdA h M j) → h'.bi (M + 7) j = h.bi (M + 7) j)
theorem rf_judge (q : Rk h M) (n : Rn h M b c w l v k r) (N : Nat) (hN : 1000 < N) (pos : ∀ u, 1 ≤ u → u ≤ b → h.bi (M + 1) u = 2 → 0 < h.bi (M + 4) u) : ∃ h', J_X10_judge N M h = some (h', ()) ∧ JdR h M b l v (b + 1) h' := by
  have hb := n.2.2.2.2.2.2.2.1
  have key := lp_inv (G := fun F i (s : Hp) => L_X10_judge_2 N M F s (nI i)) (hi := b + 1) (Inv := fun i s => 1 ≤ i ∧ JdR h M b l v i s) (Q := fun o => ∃ h', o = some (h', ()) ∧ JdR h M b l v (b + 1) h') ?_ ?_ b 1 N h (by omega) (by omega) (by omega) ⟨Nat.le_refl _, RfO.rf _ _ _ _, fun j => ⟨fun z => by omega, fun _ => rfl⟩⟩
  · exact key
  · intro F s hs
    refine ⟨s, ?_, hs.2⟩
    have n' := hs.2.1.rn n (fun _ _ z => by cases z)
    show B_X10_judge_2 N _ M s (nI (b + 1)) = _
    unfold B_X10_judge_2
    rw [n'.1]
    refine (if_pos (by exact (ni_lt (by omega) (by omega)).mpr (by omega))).trans ?_
    rfl
  · intro F i s hi hs
    obtain ⟨i1, f, g⟩ := hs
    left
    have q' := f.rk q
    have n' := f.rn n (fun _ _ z => by cases z)
    have e1 : s.bi (M + 1) = h.bi (M + 1) := f.bi (by decide)
    have e2 : s.bi (M + 2) = h.bi (M + 2) := f.bi (by decide)
    have e7 : s.bi (M + 7) i = h.bi (M + 7) i := (g i).2 (fun z => by omega)
    have pos' : ∀ u, 1 ≤ u → u ≤ b → s.bi (M + 1) u = 2 → 0 < s.bi (M + 4) u := by
      rw [e1, f.bi (k := 4) (by decide)]; exact pos
    show ∃ s' : Hp, (1 ≤ i + 1 ∧ JdR h M b l v (i + 1) s') ∧ L_X10_judge_2 N M (F + 1) s (nI i) = L_X10_judge_2 N M F s' (nI (i + 1))
    have body : L_X10_judge_2 N M (F + 1) s (nI i) = if h.bi (M + 1) i = 1 then (if h.bi (M + 2) i = 0 then L_X10_judge_2 N M F s (nI (i + 1)) else if h.bi (M + 7) i = 0 then ((J_X10_judgeOne N M s (nI i)).bind (fun z => B_X10_judge_43 N (L_X10_judge_2 N M F) M z.1 (nI i))) else L_X10_judge_2 N M F s (nI (i + 1))) else L_X10_judge_2 N M F s (nI (i + 1)) := by
      show B_X10_judge_2 N (L_X10_judge_2 N M F) M s (nI i) = _
      unfold B_X10_judge_2
      rw [n'.1]
      refine (if_neg (by exact fun z => by rw [ni_lt (by omega) (by omega)] at z; omega)).trans ?_
      rw [rd_1301 q', rx_1301 q' (by omega), rd_1302 q', rx_1302 q' (by omega), rd_1307 q', rx_1307 q' (by omega), ni_clp (by omega), e1, e2, e7]
      unfold B_X10_judge_43
      rw [ni_inc]
    have skip : ¬ jdA h M i → JdR h M b l v (i + 1) s := by
      intro z
      refine ⟨f, fun j => ⟨fun y => (g j).1 ⟨y.1, ?_, y.2.2⟩, fun y => (g j).2 (fun u => y ⟨u.1, by omega, u.2.2⟩)⟩⟩
      by_cases e : j = i
      · rw [e] at y; exact absurd y.2.2 z
      · omega
    rw [body]
    by_cases z1 : h.bi (M + 1) i = 1
    · rw [if_pos z1]
      by_cases z2 : h.bi (M + 2) i = 0
      · rw [if_pos z2]
        exact ⟨s, ⟨by omega, skip (fun y => y.2.1 z2)⟩, rfl⟩
      · rw [if_neg z2]
        by_cases z3 : h.bi (M + 7) i = 0
        · rw [if_pos z3]
          obtain ⟨x, y1, y2⟩ := rf_judgeOne q' n' N hN pos' i1 (show i ≤ b by omega)
          refine ⟨s.sbi (M + 7) i x, ⟨by omega, f.tr (RfO.sbi (k := 7) (by decide) i x), fun j => ?_⟩, ?_⟩
          · rw [bi_at]
            have y2 := (jdV.con f (by decide) (fun a ha => (g a).2 (fun u => u.2.2.2.1 ha))).mp y2
            by_cases e : j = i
            · rw [if_pos e, e]
              exact ⟨fun _ => y2, fun u => absurd ⟨i1, by omega, z1, z2, z3⟩ u⟩
            · rw [if_neg e]
              exact ⟨fun u => (g j).1 ⟨u.1, by omega, u.2.2⟩, fun u => (g j).2 (fun u2 => u ⟨u2.1, by omega, u2.2.2⟩)⟩
          · refine (bnd (by exact y1)).trans ?_
            unfold B_X10_judge_43
            rw [ni_inc]
        · rw [if_neg z3]
          exact ⟨s, ⟨by omega, skip (fun y => z3 y.2.2)⟩, rfl⟩
    · rw [if_neg z1]
      exact ⟨s, ⟨by omega, skip (fun y => z1 y.1)⟩, rfl⟩
/-- how one ends -/
theorem rf_ends (q : Rk h M) (n : Rn h M b c w l v k r) (N : Nat) (hN : 1000 < N) {t : Nat} (ht : t < 514) (as : Int32) (pos : ∀ u, 1 ≤ u → u ≤ b → (u = t → as = 2) → (u = t ∨ h.bi (M + 1) u = 2) → 0 < h.bi (M + 4) u) : ∃ h', J_X10_ends N M h (nI t) as = some (h', ()) ∧ JdR ((h.sbi (M + 1) t as).sbi (M + 6) t (h.gi 1313 M)) M b l v (b + 1) h' := by
  have f : RfO [1, 6] [] M h ((h.sbi (M + 1) t as).sbi (M + 6) t (h.gi 1313 M)) := (RfO.sbi (k := 1) (by decide) t as).tr (RfO.sbi (k := 6) (by decide) t _)
  obtain ⟨h', e1, e2⟩ := rf_judge (f.rk q) (f.rn n (fun _ _ z => by cases z)) N hN (fun u u1 u2 u3 => by
    rw [bi_oth (by omega), bi_at] at u3
    rw [bi_oth (by omega), bi_oth (by omega)]
    by_cases e : u = t
    · rw [if_pos e] at u3
      exact pos u u1 u2 (fun _ => u3) (Or.inl e)
    · rw [if_neg e] at u3
      exact pos u u1 u2 (fun z => absurd z e) (Or.inr u3))
  refine ⟨h', ?_, e2⟩
  unfold J_X10_ends B_X10_ends_0 B_X10_ends_21
  rw [rd_1301 q, rx_1301 q ht]
  rw [ni_clp (by omega)]
  rw [pj_sbi_gr, dr_sbi, rd_1306 q, pj_sbi_al, ry_1306 q ht]
  refine (bnd (by exact e1)).trans ?_
  rfl
end RF5
