/-! astray -/
section RF38
variable {h : Hp} {M b c w l v k r m : Nat}
/-- what is under a key now -/
def VnR (h : Hp) (M c v : Nat) (key : Int32) (o : Option Int64) : Prop := (lastS (vatC h M key (nI c)) v (-1) ∧ o = none) ∨ ∃ i, i < v ∧ lastS (vatC h M key (nI c)) v (nI i) ∧ o = if h.bi (M + 22) i = 0 then none else some (h.bw (M + 21) i)
theorem VnR.uniq {key : Int32} {o o' : Option Int64} (hv : v ≤ 512) (p : VnR h M c v key o) (q : VnR h M c v key o') : o = o' := by
  rcases p with ⟨p1, p2⟩ | ⟨i, p1, p2, p3⟩ <;> rcases q with ⟨q1, q2⟩ | ⟨j, q1, q2, q3⟩
  · rw [p2, q2]
  · exact absurd (q2.uniq p1) (ni_m1 (by omega))
  · exact absurd (p2.uniq q1) (ni_m1 (by omega))
  · rw [p3, q3, (ni_inj (by omega) (by omega)).mp (p2.uniq q2)]
theorem rf_as187 (q : Rk h M) (n : Rn h M b c w l v k r) (N : Nat) (hN : 1000 < N) (g : VtOk h M b v) {mp : Int32 → Option Int64} (km : KmS h M m mp) (x : Nat) : L_X10_astray_187 N M N h (nI x) (nI 0) = some (h, nI (x + cntQ (fun j => ¬ VnR h M c v (h.bi (M + 35) j) (mp (h.bi (M + 35) j))) m)) := by
  have hv := n.2.2.2.2.2.2.2.2.2.2.2.1
  obtain ⟨em, hm, so, mr⟩ := km
  refine lp_inv (G := fun F i (s : Int32) => L_X10_astray_187 N M F h s (nI i)) (hi := m) (Inv := fun i s => s = nI (x + cntQ (fun j => ¬ VnR h M c v (h.bi (M + 35) j) (mp (h.bi (M + 35) j))) i)) (Q := fun o => o = some (h, nI (x + cntQ (fun j => ¬ VnR h M c v (h.bi (M + 35) j) (mp (h.bi (M + 35) j))) m))) ?_ ?_ m 0 N (nI x) (by omega) (by omega) (by omega) rfl
  · intro F s hs
    show B_X10_astray_187 N _ M h s (nI m) = _
    unfold B_X10_astray_187
    rw [em, if_pos ((ni_le (by omega) (by omega)).mpr (Nat.le_refl _)), hs]
  · intro F i s hi hs
    left
    obtain ⟨y, e1, e2⟩ := rf_versionAt q n N hN g (h.bi (M + 35) i) (nI c)
    have go : ∀ (p : Prop), (p ↔ VnR h M c v (h.bi (M + 35) i) (mp (h.bi (M + 35) i))) → ∀ {o : Option (Hp × Int32)}, ((p ∧ o = L_X10_astray_187 N M F h (s + 0) (nI (i + 1))) ∨ (¬ p ∧ o = L_X10_astray_187 N M F h (s + 1) (nI (i + 1)))) → ∃ s' : Int32, s' = nI (x + cntQ (fun j => ¬ VnR h M c v (h.bi (M + 35) j) (mp (h.bi (M + 35) j))) (i + 1)) ∧ o = L_X10_astray_187 N M F h s' (nI (i + 1)) := by
      intro p pe o ho
      have cs : cntQ (fun j => ¬ VnR h M c v (h.bi (M + 35) j) (mp (h.bi (M + 35) j))) (i + 1) = cntQ (fun j => ¬ VnR h M c v (h.bi (M + 35) j) (mp (h.bi (M + 35) j))) i + @ite Nat (¬ VnR h M c v (h.bi (M + 35) i) (mp (h.bi (M + 35) i))) (Classical.propDecidable _) 1 0 := rfl
      rcases ho with ⟨t1, t2⟩ | ⟨t1, t2⟩
      · rw [if_neg (fun u => u (pe.mp t1))] at cs
        exact ⟨s + 0, by rw [cs, hs]; exact nI_add _ 0, t2⟩
      · rw [if_pos (fun u => t1 (pe.mpr u))] at cs
        exact ⟨s + 1, by rw [cs, hs]; exact nI_add _ 1, t2⟩
    have start : L_X10_astray_187 N M (F + 1) h s (nI i) = B_X10_astray_209 N (L_X10_astray_187 N M F) M h s (nI i) y := by
      show B_X10_astray_187 N (L_X10_astray_187 N M F) M h s (nI i) = _
      unfold B_X10_astray_187
      rw [em, if_neg (by rw [ni_le (by omega) (by omega)]; omega), rd_1352 q, rx_1352 q (show i < 514 by omega), ni_clp (show i < _ by omega), n.2.1]
      exact bnd e1
    have t232 : ∀ (z y : Int32), B_X10_astray_232 N (L_X10_astray_187 N M F) M h s (nI i) y z = if z = h.bi (M + 40) i then (if z = 0 then L_X10_astray_187 N M F h (s + 0) (nI (i + 1)) else (ck (¬ (y < 0 ∨ h.al (M + 21) ≤ y.toNatClampNeg)) (if (lg_cmp (h.bw (M + 21) y.toNatClampNeg) (h.bw (M + 41) i)) = 0 then L_X10_astray_187 N M F h (s + 0) (nI (i + 1)) else L_X10_astray_187 N M F h (s + 1) (nI (i + 1))))) else L_X10_astray_187 N M F h (s + 1) (nI (i + 1)) := by
      intro z y
      unfold B_X10_astray_232 B_X10_astray_267 B_X10_astray_271 B_X10_astray_272 B_X10_astray_285
      rw [rd_1358 q, rx_1358 q (show i < 514 by omega), rd_1326 q, rd_1359 q, rx_1359 q (show i < 514 by omega), ni_clp (show i < _ by omega), ni_inc, if_neg (show ¬ (1 : Int32) = 0 by decide), if_pos (rfl : (0 : Int32) = 0)]
    show ∃ s' : Int32, s' = nI (x + cntQ (fun j => ¬ VnR h M c v (h.bi (M + 35) j) (mp (h.bi (M + 35) j))) (i + 1)) ∧ L_X10_astray_187 N M (F + 1) h s (nI i) = L_X10_astray_187 N M F h s' (nI (i + 1))
    rw [start]
    have mi := mr.1 i hi
    have zero : VnR h M c v (h.bi (M + 35) i) none → ∀ y, B_X10_astray_209 N (L_X10_astray_187 N M F) M h s (nI i) y = B_X10_astray_232 N (L_X10_astray_187 N M F) M h s (nI i) y 0 → ∃ s' : Int32, s' = nI (x + cntQ (fun j => ¬ VnR h M c v (h.bi (M + 35) j) (mp (h.bi (M + 35) j))) (i + 1)) ∧ B_X10_astray_209 N (L_X10_astray_187 N M F) M h s (nI i) y = L_X10_astray_187 N M F h s' (nI (i + 1)) := by
      intro vn y ey
      rw [ey, t232]
      rcases mi with ⟨m1, m2⟩ | ⟨u, m1, m2, m3⟩
      · rw [if_pos m2.symm, if_pos rfl]
        exact go True ⟨fun _ => by rw [m1]; exact vn, fun _ => trivial⟩ (Or.inl ⟨trivial, rfl⟩)
      · rw [if_neg (by rw [m2]; decide)]
        refine go False ⟨fun t => t.elim, fun t => ?_⟩ (Or.inr ⟨id, rfl⟩)
        rw [m1] at t
        cases VnR.uniq hv vn t
    rcases e2 with ⟨p1, p2⟩ | ⟨j, p1, p2, p3, p4⟩
    · refine zero (Or.inl ⟨Or.inl ⟨rfl, p2⟩, rfl⟩) y ?_
      unfold B_X10_astray_209 B_X10_astray_231
      exact if_pos p1
    · have ls : lastS (vatC h M (h.bi (M + 35) i) (nI c)) v (nI j) := Or.inr ⟨j, p1, rfl, p3, p4⟩
      have t209 : B_X10_astray_209 N (L_X10_astray_187 N M F) M h s (nI i) y = if h.bi (M + 22) j = 0 then B_X10_astray_232 N (L_X10_astray_187 N M F) M h s (nI i) y 0 else B_X10_astray_232 N (L_X10_astray_187 N M F) M h s (nI i) y 1 := by
        unfold B_X10_astray_209 B_X10_astray_231
        rw [p2, if_neg (ni_m1 (by omega)), rd_1327 q, rx_1327 q (show j < 514 by omega), ni_clp (show j < _ by omega)]
      by_cases z : h.bi (M + 22) j = 0
      · refine zero (Or.inr ⟨j, p1, ls, by rw [if_pos z]⟩) y ?_
        rw [t209, if_pos z]
      · rw [t209, if_neg z, t232, p2, rx_1326 q (show j < 514 by omega), ni_clp (show j < _ by omega), if_neg (show ¬ (1 : Int32) = 0 by decide)]
        have vn : VnR h M c v (h.bi (M + 35) i) (some (h.bw (M + 21) j)) := Or.inr ⟨j, p1, ls, by rw [if_neg z]⟩
        rcases mi with ⟨m1, m2⟩ | ⟨u, m1, m2, m3⟩
        · rw [if_neg (by rw [m2]; decide)]
          refine go False ⟨fun t => t.elim, fun t => ?_⟩ (Or.inr ⟨id, rfl⟩)
          rw [m1] at t
          cases VnR.uniq hv vn t
        · rw [if_pos m2.symm, m3]
          by_cases z2 : lg_cmp (h.bw (M + 21) j) u = 0
          · rw [if_pos z2]
            exact go True ⟨fun _ => by rw [m1, ← lg_cmp_ez.mp z2]; exact vn, fun _ => trivial⟩ (Or.inl ⟨trivial, rfl⟩)
          · rw [if_neg z2]
            refine go False ⟨fun t => t.elim, fun t => ?_⟩ (Or.inr ⟨id, rfl⟩)
            rw [m1] at t
            exact z2 (lg_cmp_ez.mpr (Option.some.inj (VnR.uniq hv vn t)))
/-- a row that can be done, its key among the writes -/
def okX (h : Hp) (M w k : Nat) (Pl : List Nat) : Prop := h.bi (M + 23) k = 1 ∨ h.bi (M + 23) k = 2 ∨ h.bi (M + 23) k = 3 ∨ (h.bi (M + 23) k = 4 ∧ ∃ mo an rr, h.bi (M + 27) k = nI mo ∧ h.bi (M + 29) k = nI an ∧ h.bi (M + 32) k = nI rr ∧ 1 ≤ mo ∧ mo ≤ 100 ∧ an ≤ 100 ∧ rr + an ≤ 42000) ∨ ((h.bi (M + 23) k = 5 ∨ h.bi (M + 23) k = 6) ∧ ∃ j, j < w ∧ h.bi (M + 12) j = h.bi (M + 25) k) ∨ (h.bi (M + 23) k = 7 ∧ Pl.length < 10) ∨ (h.bi (M + 23) k = 8 ∧ ∃ n, h.bi (M + 25) k = nI n ∧ 1 ≤ n ∧ n ≤ Pl.length)
theorem okX.to {h' : Hp} {A G : List Nat} {i : Nat} {Pl : List Nat} (f : RfO A G M h h') (hA : ∀ x ∈ [23, 25, 27, 29, 32], x ∉ A) (g : GkS (h.bi (M + 12)) w m (h'.bi (M + 35))) (o : okX h M w i Pl) : okR h' M m i Pl := by
  unfold okX at o
  unfold okR
  rw [f.bi (hA 23 (by decide)), f.bi (hA 25 (by decide)), f.bi (hA 27 (by decide)), f.bi (hA 29 (by decide)), f.bi (hA 32 (by decide))]
  refine o.imp id (Or.imp id (Or.imp id (Or.imp id (Or.imp (fun y => ⟨y.1, ?_⟩) id))))
  exact (g.2 _).mpr y.2
/-- what astray answers -/
def AstM (h : Hp) (M b c w l v k : Nat) (y : Int32) : Prop := (0 < cntQ (fun x => 1 ≤ x ∧ Pth (eD h M l v v) (b + 1) x x) (b + 1) ∧ y = nI (cntQ (fun x => 1 ≤ x ∧ Pth (eD h M l v v) (b + 1) x x) (b + 1))) ∨ (cntQ (fun x => 1 ≤ x ∧ Pth (eD h M l v v) (b + 1) x x) (b + 1) = 0 ∧ ∃ h1 m D mp n, RfO [35, 38, 39] [1300, 1353] M h h1 ∧ m ≤ w ∧ GkS (h.bi (M + 12)) w m (h1.bi (M + 35)) ∧ AsI h1 M b m k (eD h M l v v) c D mp n ∧ y = nI (n + cntQ (fun j => ¬ VnR h M c v (h1.bi (M + 35) j) (mp (h1.bi (M + 35) j))) m))
end RF38
