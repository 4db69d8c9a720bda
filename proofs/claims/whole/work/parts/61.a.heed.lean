/-! one ends: what those READ-ONLY make of it, on both sides -/
section HEED
variable {h h1 h2 : Hp} {M b c w l v k r : Nat}
/-- how many READ-WRITE ones at work are ahead of n -/
noncomputable def rwN (h : Hp) (M n : Nat) : Nat := cntQ (fun u => 1 ≤ u ∧ h.bi (M + 2) u = 0 ∧ h.bi (M + 1) u = 1) n
theorem cntQ_pos {P : Nat → Prop} {n : Nat} : cntQ P n ≠ 0 ↔ ∃ u, u < n ∧ P u := by
  induction n with
  | zero => exact ⟨fun z => absurd rfl z, fun ⟨u, hu, _⟩ => by omega⟩
  | succ n ih =>
    have cs : cntQ P (n + 1) = cntQ P n + @ite Nat (P n) (Classical.propDecidable _) 1 0 := rfl
    by_cases z : P n
    · rw [if_pos z] at cs
      exact ⟨fun _ => ⟨n, by omega, z⟩, fun _ => by omega⟩
    · rw [if_neg z] at cs
      rw [cs, Nat.add_zero, ih]
      exact ⟨fun ⟨u, u1, u2⟩ => ⟨u, by omega, u2⟩, fun ⟨u, u1, u2⟩ => ⟨u, by
        by_cases e : u = n
        · rw [e] at u2; exact absurd u2 z
        · omega, u2⟩⟩
theorem wtS_n {n : Nat} : wtS h M n ↔ rwN h M n ≠ 0 := by
  unfold rwN
  rw [cntQ_pos]
  exact ⟨fun ⟨u, u1, u2, u3⟩ => ⟨u, u2, u1, u3⟩, fun ⟨u, u2, u1, u3⟩ => ⟨u, u1, u2, u3⟩⟩
/-- one falls out of the count -/
theorem cntQ_out {P Q : Nat → Prop} {t : Nat} (pt : P t) (qt : ¬ Q t) (e : ∀ u, u ≠ t → (Q u ↔ P u)) : ∀ n, cntQ P n = cntQ Q n + (if t < n then 1 else 0) := by
  intro n
  induction n with
  | zero => rfl
  | succ n ih =>
    have cp : cntQ P (n + 1) = cntQ P n + @ite Nat (P n) (Classical.propDecidable _) 1 0 := rfl
    have cq : cntQ Q (n + 1) = cntQ Q n + @ite Nat (Q n) (Classical.propDecidable _) 1 0 := rfl
    rw [cp, cq, ih]
    by_cases z : n = t
    · rw [z, if_pos pt, if_neg qt, if_neg (by omega), if_pos (by omega)]
    · by_cases y : P n
      · rw [if_pos y, if_pos ((e n z).mpr y)]
        by_cases x : t < n
        · rw [if_pos x, if_pos (by omega)]
        · rw [if_neg x, if_neg (by omega)]
      · rw [if_neg y, if_neg (fun q => y ((e n z).mp q))]
        by_cases x : t < n
        · rw [if_pos x, if_pos (by omega)]
        · rw [if_neg x, if_neg (by omega)]
theorem cntQ_same {P Q : Nat → Prop} {n : Nat} (e : ∀ u, u < n → (Q u ↔ P u)) : cntQ P n = cntQ Q n := by
  induction n with
  | zero => rfl
  | succ n ih =>
    have cp : cntQ P (n + 1) = cntQ P n + @ite Nat (P n) (Classical.propDecidable _) 1 0 := rfl
    have cq : cntQ Q (n + 1) = cntQ Q n + @ite Nat (Q n) (Classical.propDecidable _) 1 0 := rfl
    rw [cp, cq, ih (fun u hu => e u (by omega))]
    by_cases y : P n
    · rw [if_pos y, if_pos ((e n (by omega)).mpr y)]
    · rw [if_neg y, if_neg (fun q => y ((e n (by omega)).mp q))]
theorem jdV.uniq {t : Nat} {x y : Int32} (p : jdV h M b l v t x) (q : jdV h M b l v t y) : x = y := by
  rcases p with ⟨p1, p2⟩ | ⟨p1, p2, p3⟩ | ⟨p1, p2, p3⟩ <;> rcases q with ⟨q1, q2⟩ | ⟨q1, q2, q3⟩ | ⟨q1, q2, q3⟩
  · rw [p1, q1]
  · exact absurd p2 q2
  · exact absurd p2 q2
  · exact absurd q2 p2
  · rw [p1, q1]
  · exact absurd p3 q3
  · exact absurd q2 p2
  · exact absurd q3 p3
  · rw [p1, q1]
/-- fields of one READ-ONLY that heeds an end -/
theorem heed_ok {F E : Nat → Int32} {t u na : Nat} (hu : u ≤ b) (u1 : 1 ≤ u) (ht : t ≤ b) (hb : b ≤ 512) (tu : t ≠ u) (a1 : h1.bi (M + 1) u = 1) (a2 : h1.bi (M + 2) u ≠ 0) (f0 : F 1000 = nI u) (e0 : E 1000 = nI t) (f5 : F 1005 = h1.bi (M + 7) u + 1) (s7 : h1.bi (M + 7) u = 0 ∨ h1.bi (M + 7) u = 1 ∨ h1.bi (M + 7) u = 2) (rw0 : Prop) (cnt : rw0 ∧ t < u ∧ F 1010 = nI (na + 1) ∨ ¬ (rw0 ∧ t < u) ∧ F 1010 = nI na) (hna : na < 100000) (s1 : h1.bi (M + 7) u = 1 → ¬ (rw0 ∧ t < u) ∧ na = 0) (bd : h1.bi (M + 7) u = 0 → (bdS h1 M b l v u u ↔ (rw0 ∧ t < u ∧ E 1006 = 2 ∧ ¬ E 1008 = 0 ∧ ¬ F 1001 < E 1008))) (wt : wtS h1 M u ↔ na ≠ 0) (w0 : h1.bi (M + 7) u = 0 → ¬ (rw0 ∧ t < u) → na ≠ 0) (jd : JdR h1 M b l v (b + 1) h2) : ∃ F', ((rw0 ∧ F' = heedF F E) ∨ (¬ rw0 ∧ F' = F)) ∧ F' 1005 = h2.bi (M + 7) u + 1 ∧ (h2.bi (M + 7) u = 0 ∨ h2.bi (M + 7) u = 1 ∨ h2.bi (M + 7) u = 2) ∧ F' 1010 = nI na ∧ (h2.bi (M + 7) u = 0 → jdV h1 M b l v u 0) ∧ (h2.bi (M + 7) u = 1 → na = 0) ∧ (h2.bi (M + 7) u = h1.bi (M + 7) u → F' 1008 = F 1008) ∧ (h2.bi (M + 7) u ≠ h1.bi (M + 7) u → h1.bi (M + 7) u = 0 ∧ (h2.bi (M + 7) u = 1 → F' 1008 = 0) ∧ (h2.bi (M + 7) u ≠ 1 → F' 1008 = F 1008)) ∧ ∀ f, f ≠ 1005 → f ≠ 1008 → f ≠ 1010 → F' f = F f := by
  have F05 : ¬ F 1005 = 0 := by
    rw [f5]
    rcases s7 with z | z | z <;> rw [z] <;> decide
  have F15 : F 1005 = 1 ↔ h1.bi (M + 7) u = 0 := by
    rw [f5]
    rcases s7 with z | z | z <;> rw [z] <;> decide
  have le : E 1000 ≤ F 1000 ↔ t < u := by
    rw [e0, f0, ni_le (by omega) (by omega)]
    omega
  by_cases act : rw0 ∧ t < u
  · have F10 : F 1010 = nI (na + 1) := by
      rcases cnt with z | z
      · exact z.2.2
      · exact absurd act z.1
    have dec : F 1010 - 1 = nI na := by rw [F10]; exact ni_pred na
    have hF : heedF F E = safeF (heed1 (va_up F 1010 (nI na)) E) := by
      unfold heedF
      rw [if_neg F05, if_pos (le.mpr act.2), dec]
    have n1 : h1.bi (M + 7) u ≠ 1 := fun z => (s1 z).1 act
    by_cases z0 : h1.bi (M + 7) u = 0
    · have ja : 1 ≤ u ∧ u < b + 1 ∧ jdA h1 M u := ⟨u1, by omega, a1, a2, z0⟩
      have jv := (jd.2 u).1 ja
      have k1 : F 1005 = 1 := F15.mpr z0
      by_cases bad : E 1006 = 2 ∧ ¬ E 1008 = 0 ∧ ¬ F 1001 < E 1008
      · have bds := (bd z0).mpr ⟨act.1, act.2, bad⟩
        have x2 : h2.bi (M + 7) u = 2 := by
          rcases jv with z | z | z
          · exact z.1
          · exact absurd bds z.2.1
          · exact absurd bds z.2.1
        have e1 : heed1 (va_up F 1010 (nI na)) E = va_up (va_up F 1010 (nI na)) 1005 3 := by
          unfold heed1
          exact if_pos ⟨k1, bad⟩
        have e2 : heedF F E = va_up (va_up F 1010 (nI na)) 1005 3 := by
          rw [hF, e1]
          unfold safeF
          exact if_neg (fun y => absurd y.1 (show ¬ (3 : Int32) = 1 by decide))
        refine ⟨_, Or.inl ⟨act.1, e2.symm⟩, ?_, Or.inr (Or.inr x2), rfl, fun y => absurd (x2.symm.trans y) (by decide), fun y => absurd (x2.symm.trans y) (by decide), fun _ => rfl, fun _ => ⟨z0, fun y => absurd (x2.symm.trans y) (by decide), fun _ => rfl⟩, fun f h5 h8 h10 => ?_⟩
        · rw [x2]; rfl
        · rw [va_up_ne _ _ h5, va_up_ne _ _ h10]
      · have nbds : ¬ bdS h1 M b l v u u := fun y => bad ((bd z0).mp y).2.2
        have e1 : heed1 (va_up F 1010 (nI na)) E = va_up F 1010 (nI na) := by
          unfold heed1
          exact if_neg (fun y => bad y.2)
        by_cases nz : na = 0
        · have x1 : h2.bi (M + 7) u = 1 := by
            rcases jv with z | z | z
            · exact absurd z.2 nbds
            · exact absurd nz (wt.mp z.2.2)
            · exact z.1
          have e2 : heedF F E = va_up (va_up (va_up F 1010 (nI na)) 1005 2) 1008 0 := by
            rw [hF, e1]
            unfold safeF
            exact if_pos ⟨k1, by rw [va_up_self, nz]; rfl⟩
          refine ⟨_, Or.inl ⟨act.1, e2.symm⟩, ?_, Or.inr (Or.inl x1), rfl, fun y => absurd (x1.symm.trans y) (by decide), fun _ => nz, fun y => absurd ((x1.symm.trans y).trans z0) (by decide), fun _ => ⟨z0, fun _ => rfl, fun y => absurd x1 y⟩, fun f h5 h8 h10 => ?_⟩
          · rw [x1]; rfl
          · rw [va_up_ne _ _ h8, va_up_ne _ _ h5, va_up_ne _ _ h10]
        · have x0 : h2.bi (M + 7) u = 0 := by
            rcases jv with z | z | z
            · exact absurd z.2 nbds
            · exact z.1
            · exact absurd (wt.mpr nz) z.2.2
          have e2 : heedF F E = va_up F 1010 (nI na) := by
            rw [hF, e1]
            unfold safeF
            exact if_neg (fun y => nz ((ni_inj (b := 0) (by omega) (by omega)).mp (by have := y.2; rw [va_up_self] at this; exact this)))
          refine ⟨_, Or.inl ⟨act.1, e2.symm⟩, ?_, Or.inl x0, rfl, fun _ => by rw [x0] at jv; exact jv, fun y => absurd (x0.symm.trans y) (by decide), fun _ => rfl, fun y => absurd (x0.trans z0.symm) y, fun f h5 h8 h10 => va_up_ne _ _ h10⟩
          rw [x0, ← z0]; exact f5
    · have nj : ¬ (1 ≤ u ∧ u < b + 1 ∧ jdA h1 M u) := fun y => z0 y.2.2.2.2
      have same := (jd.2 u).2 nj
      have k1 : ¬ F 1005 = 1 := fun y => z0 (F15.mp y)
      have e2 : heedF F E = va_up F 1010 (nI na) := by
        rw [hF]
        unfold heed1
        rw [if_neg (show ¬ (va_up F 1010 (nI na) 1005 = 1 ∧ _) from fun y => k1 y.1)]
        unfold safeF
        exact if_neg (show ¬ (va_up F 1010 (nI na) 1005 = 1 ∧ _) from fun y => k1 y.1)
      refine ⟨_, Or.inl ⟨act.1, e2.symm⟩, by rw [same]; exact f5, by rw [same]; exact s7, rfl, fun y => absurd (same.symm.trans y) z0, fun y => absurd (same.symm.trans y) n1, fun _ => rfl, fun y => absurd same y, fun f h5 h8 h10 => va_up_ne _ _ h10⟩
  · have F10 : F 1010 = nI na := by
      rcases cnt with z | z
      · exact absurd ⟨z.1, z.2.1⟩ act
      · exact z.2
    have hF : heedF F E = F ∨ ¬ rw0 := by
      by_cases r0 : rw0
      · left
        unfold heedF
        rw [if_neg F05]
        exact if_neg (fun y => act ⟨r0, le.mp y⟩)
      · exact Or.inr r0
    have same : h2.bi (M + 7) u = h1.bi (M + 7) u := by
      by_cases z0 : h1.bi (M + 7) u = 0
      · have jv := (jd.2 u).1 ⟨u1, by omega, a1, a2, z0⟩
        have nbds : ¬ bdS h1 M b l v u u := fun y => act ⟨((bd z0).mp y).1, ((bd z0).mp y).2.1⟩
        rcases jv with z | z | z
        · exact absurd z.2 nbds
        · rw [z.1, z0]
        · exact absurd (wt.mpr (w0 z0 act)) z.2.2
      · exact (jd.2 u).2 (fun y => z0 y.2.2.2.2)
    refine ⟨F, ?_, by rw [same]; exact f5, by rw [same]; exact s7, F10, fun y => ?_, fun y => (s1 (same.symm.trans y)).2, fun _ => rfl, fun y => absurd same y, fun _ _ _ _ => rfl⟩
    · by_cases r0 : rw0
      · rcases hF with z | z
        · exact Or.inl ⟨r0, z.symm⟩
        · exact absurd r0 z
      · exact Or.inr ⟨r0, rfl⟩
    · have z0 := same.symm.trans y
      have jv := (jd.2 u).1 ⟨u1, by omega, a1, a2, z0⟩
      rw [y] at jv
      exact jv
end HEED
