/-! astray: the whole call -/
section RF39
variable {h : Hp} {M b c w l v k r m : Nat}
theorem eD.row (g : VtOk h M b v) (gl : LtOk h M b l) (hb : b ≤ 512) {n x y : Nat} (hn : n ≤ v) (e : eD h M l v n x y) : 1 ≤ x ∧ x ≤ b := by
  obtain ⟨i, hi, e⟩ := e
  have vt : ∀ z, z < 514 → h.bi (M + 20) i = nI z → 1 ≤ z ∧ z ≤ b := by
    intro z hz ez
    obtain ⟨u, u1, u2, u3⟩ := g i (by omega)
    rw [(ni_inj (by omega) (by omega)).mp (ez.symm.trans u3)]
    exact ⟨u1, u2⟩
  rcases e with e | ⟨u, hu, e | e⟩
  · exact vt x e.1 e.2.2.2.1
  · exact vt x e.1 e.2.2.2.1
  · obtain ⟨u', u1, u2, u3⟩ := gl u hu
    have := e.2.2.2.2.1.1
    rw [(ni_inj (by have := e.1; omega) (by omega)).mp (this.symm.trans u3)]
    exact ⟨u1, u2⟩
theorem VnR.con {A G : List Nat} {h' : Hp} (f : RfO A G M h h') (hA : ∀ x ∈ [4, 19, 20, 21, 22], x ∉ A) (key : Int32) (o : Option Int64) : VnR h' M c v key o ↔ VnR h M c v key o := by
  unfold VnR
  rw [vatC.con f (fun x hx => hA x (by simp at hx ⊢; omega)), f.bi (hA 22 (by decide)), f.bw (hA 21 (by decide))]
theorem rf_as26 (q : Rk h M) (em : h.gi 1353 M = nI m) (hm : m ≤ 512) (N : Nat) (hN : 1000 < N) : ∃ h', L_X10_astray_26 N M N h (nI 0) = L_X10_astray_49 N M N h' (nI 1) ∧ RfO [40] [] M h h' ∧ MpR h' M m (fun _ => none) := by
  refine lp_inv (G := fun F i (s : Hp) => L_X10_astray_26 N M F s (nI i)) (hi := m) (Inv := fun i s => RfO [40] [] M h s ∧ ∀ j, j < i → s.bi (M + 40) j = 0) (Q := fun o => ∃ h', o = L_X10_astray_49 N M N h' (nI 1) ∧ RfO [40] [] M h h' ∧ MpR h' M m (fun _ => none)) ?_ ?_ m 0 N h (by omega) (by omega) (by omega) ⟨RfO.rf _ _ _ _, fun j hj => by omega⟩
  · intro F s hs
    refine ⟨s, ?_, hs.1, fun j hj => Or.inl ⟨rfl, hs.2 j hj⟩, fun key _ => rfl⟩
    show B_X10_astray_26 N _ M s (nI m) = _
    unfold B_X10_astray_26
    rw [hs.1.gi (fun z => by cases z), em]
    exact if_pos ((ni_le (by omega) (by omega)).mpr (Nat.le_refl _))
  · intro F i s hi hs
    left
    have q' := hs.1.rk q
    refine ⟨s.sbi (M + 40) i 0, ⟨hs.1.tr (RfO.sbi (k := 40) (by decide) _ _), fun j hj => ?_⟩, ?_⟩
    · rw [bi_at]
      by_cases e : j = i
      · rw [if_pos e]
      · rw [if_neg e]; exact hs.2 j (by omega)
    · show B_X10_astray_26 N (L_X10_astray_26 N M F) M s (nI i) = _
      unfold B_X10_astray_26
      rw [hs.1.gi (fun z => by cases z), em, if_neg (by rw [ni_le (by omega) (by omega)]; omega), rd_1358 q', rx_1358 q' (show i < 514 by omega), ni_clp (show i < _ by omega), ni_inc]
theorem rf_as49 (q : Rk h M) (n : Rn h M b c w l v k r) (N : Nat) (hN : 1000 < N) : ∃ h', L_X10_astray_49 N M N h (nI 1) = L_X10_astray_88 N M N h' (nI 0) (nI 0) ∧ RfO [46] [] M h h' ∧ DnS h h' M b [] := by
  have hb := n.2.2.2.2.2.2.2.1
  refine lp_inv (G := fun F i (s : Hp) => L_X10_astray_49 N M F s (nI i)) (hi := b + 1) (Inv := fun i s => 1 ≤ i ∧ RfO [46] [] M h s ∧ ∀ j, 1 ≤ j → j < i → (s.bi (M + 46) j = 0 ↔ h.bi (M + 1) j = 2)) (Q := fun o => ∃ h', o = L_X10_astray_88 N M N h' (nI 0) (nI 0) ∧ RfO [46] [] M h h' ∧ DnS h h' M b []) ?_ ?_ b 1 N h (by omega) (by omega) (by omega) ⟨Nat.le_refl _, RfO.rf _ _ _ _, fun j h1 h2 => by omega⟩
  · intro F s hs
    refine ⟨s, ?_, hs.2.1, fun x x1 x2 => (hs.2.2 x x1 (by omega)).trans ⟨fun u => ⟨u, fun y => by cases y⟩, fun u => u.1⟩⟩
    show B_X10_astray_49 N _ M s (nI (b + 1)) = _
    unfold B_X10_astray_49
    rw [(hs.2.1.rn n (fun _ _ z => by cases z)).1]
    exact if_pos ((ni_lt (by omega) (by omega)).mpr (by omega))
  · intro F i s hi hs
    left
    obtain ⟨i1, f, g⟩ := hs
    have q' := f.rk q
    have t77 : ∀ y : Int32, (y = 0 ∨ y = 1) → B_X10_astray_77 N (L_X10_astray_49 N M F) M s (nI i) (s.gr 1366 M) (nI i) y = L_X10_astray_49 N M F (s.sbi (M + 46) i y) (nI (i + 1)) := by
      intro y hy
      unfold B_X10_astray_77
      rw [rd_1366 q', rx_1366 q' (show i < 514 by omega), ck_eq hy, ni_clp (show i < _ by omega), ni_inc]
    have body : L_X10_astray_49 N M (F + 1) s (nI i) = L_X10_astray_49 N M F (s.sbi (M + 46) i (if h.bi (M + 1) i = 2 then 0 else 1)) (nI (i + 1)) := by
      show B_X10_astray_49 N (L_X10_astray_49 N M F) M s (nI i) = _
      unfold B_X10_astray_49
      rw [(f.rn n (fun _ _ z => by cases z)).1, if_neg (by rw [ni_lt (by omega) (by omega)]; omega), rd_1301 q', rx_1301 q' (show i < 514 by omega), ni_clp (show i < _ by omega), f.bi (by decide), t77 0 (Or.inl rfl), t77 1 (Or.inr rfl)]
      by_cases z : h.bi (M + 1) i = 2
      · rw [if_pos z, if_pos z]
      · rw [if_neg z, if_neg z]
    refine ⟨_, ⟨by omega, f.tr (RfO.sbi (k := 46) (by decide) _ _), fun j j1 j2 => ?_⟩, body⟩
    rw [bi_at]
    by_cases e : j = i
    · rw [if_pos e, e]
      by_cases z : h.bi (M + 1) i = 2
      · rw [if_pos z]; exact ⟨fun _ => z, fun _ => rfl⟩
      · rw [if_neg z]; exact ⟨fun u => absurd u (by decide), fun u => absurd u z⟩
    · rw [if_neg e]
      exact g j j1 (by omega)
theorem rf_astray (q : Rk h M) (n : Rn h M b c w l v k r) (N : Nat) (hN : 5000 < N) (g : VtOk h M b v) (gl : LtOk h M b l) (ok : ∀ t, t ≤ b → ∀ i, i < k → h.bi (M + 24) i = nI t → okX h M w i (rpO h M t i).2) : ∃ h' y, J_X10_astray N M h = some (h', y) ∧ RfO [35, 38, 39, 40, 41, 42, 43, 44, 45, 46] [1300, 1351, 1353, 1363, 1365] M h h' ∧ h'.gi 1300 M = 0 ∧ AstM h M b c w l v k y := by
  have hb := n.2.2.2.2.2.2.2.1
  have hw := n.2.2.2.2.2.2.2.2.2.1
  have hc := n.2.2.2.2.2.2.2.2.1
  have f0 : RfO [38, 39, 35] [1300, 1353] M h (h.sgi 1300 M 0) := RfO.sgi (by decide) _
  obtain ⟨h1, a1, a2, a3⟩ := rf_draw (f0.rk q) (f0.rn n (by decide)) N hN (g.con f0 (by decide)) gl
  have a3 : Rx h1 (M + 38) (eD h M l v v) := a3
  have f1 : RfO [38, 39, 35] [1300, 1353] M h h1 := f0.tr (a2.mono (by decide) (fun _ z => by cases z))
  obtain ⟨h2, b1, b2⟩ := rf_onRings (f1.rk q) (f1.rn n (by decide)) N hN (fun x y e => eD.row g gl hb (Nat.le_refl _) e) a3
  have f2 : RfO [38, 39, 35] [1300, 1353] M h h2 := f1.tr (b2.mono (by decide) (fun _ z => by cases z))
  have z2 : h2.gi 1300 M = 0 := (b2.gi (fun z => by cases z)).trans ((a2.gi (fun z => by cases z)).trans gi_same)
  have g2 : Rx h2 (M + 38) (eD h M l v v) := by
    unfold Rx
    rw [b2.bw (by decide)]
    exact a3
  unfold AstM
  generalize eD h M l v v = P at a3 b1 g2 ⊢
  have cl : cntQ (fun x => 1 ≤ x ∧ Pth P (b + 1) x x) (b + 1) ≤ b + 1 := cntQ_le _ _
  generalize cntQ (fun x => 1 ≤ x ∧ Pth P (b + 1) x x) (b + 1) = rings at b1 cl ⊢
  have st : ∀ {o : Option (Hp × Int32)}, B_X10_astray_13 N M h2 (nI rings) = o → J_X10_astray N M h = o := by
    intro o ho
    unfold J_X10_astray B_X10_astray_0
    refine (bnd (by exact a1)).trans ?_
    unfold B_X10_astray_9
    refine (bnd (by exact b1)).trans ?_
    exact ho
  by_cases z : rings = 0
  · obtain ⟨h3, m, c1, gk⟩ := rf_gatherKeys (f2.rk q) (f2.rn n (by decide)) N (by omega)
    have f3 : RfO [38, 39, 35] [1300, 1353] M h h3 := f2.tr (gk.1.mono (by decide) (by decide))
    have mw := gk.2.2.1
    have gs : GkS (h.bi (M + 12)) w m (h3.bi (M + 35)) := by
      have := gk.2.2.2
      rw [f2.bi (by decide)] at this
      exact this
    have q3 := f3.rk q
    have n3 := f3.rn n (by decide)
    have g3 : Rx h3 (M + 38) P := by
      unfold Rx
      rw [gk.1.bw (by decide)]
      exact g2
    obtain ⟨h4, d1, d2, d3⟩ := rf_as26 q3 gk.2.1 (show m ≤ 512 by omega) N (by omega)
    obtain ⟨h5, e1, e2, e3⟩ := rf_as49 (d2.rk q3) (d2.rn n3 (fun _ _ z => by cases z)) N (by omega)
    have f5 : RfO [40, 41, 42, 43, 44, 45, 46] [1351, 1363, 1365] M h3 h5 := (d2.mono (by decide) (fun _ z => by cases z)).tr (e2.mono (by decide) (fun _ z => by cases z))
    have km5 : KmS h5 M m (fun _ => none) := by
      refine KmS.con e2 (by decide) (fun z => by cases z) ⟨(d2.gi (fun z => by cases z)).trans gk.2.1, by omega, ?_, d3⟩
      rw [d2.bi (by decide)]
      exact gs.1
    have dn5 : DnS h3 h5 M b [] := by
      unfold DnS at e3 ⊢
      rw [d2.bi (show 1 ∉ _ by decide)] at e3
      exact e3
    have ok3 : ∀ t, t ≤ b → ∀ i, i < k → h3.bi (M + 24) i = nI t → okR h3 M m i (rpO h3 M t i).2 := by
      intro t ht i hi ei
      rw [rpO.con f3 (by decide)]
      rw [f3.bi (by decide)] at ei
      exact okX.to f3 (by decide) gs (ok t ht i hi ei)
    have key := lp_inv (G := fun F i (s : Hp × Nat) => L_X10_astray_88 N M F s.1 (nI s.2) (nI i)) (hi := c) (Inv := fun i s => RfO [40, 41, 42, 43, 44, 45, 46] [1351, 1363, 1365] M h3 s.1 ∧ ∃ D mp, KmS s.1 M m mp ∧ DnS h3 s.1 M b D ∧ AsI h3 M b m k P i D mp s.2) (Q := fun o => ∃ h' D mp x, o = some (h', nI (x + cntQ (fun j => ¬ VnR h M c v (h3.bi (M + 35) j) (mp (h3.bi (M + 35) j))) m)) ∧ RfO [40, 41, 42, 43, 44, 45, 46] [1351, 1363, 1365] M h3 h' ∧ AsI h3 M b m k P c D mp x) ?_ ?_ c 0 N (h5, 0) (by omega) (by omega) (by omega) ⟨f5, [], (fun _ => none), km5, dn5, rfl, rfl, rfl⟩
    · obtain ⟨h', D, mp, x, k1, k2, k3⟩ := key
      refine ⟨h', _, st ?_, (f3.mono (by decide) (by decide)).tr (k2.mono (by decide) (by decide)), ?_, Or.inr ⟨z, h3, m, D, mp, x, f3.mono (by decide) (fun _ z => z), mw, gs, k3, rfl⟩⟩
      · unfold B_X10_astray_13
        rw [if_pos (by rw [z]; decide)]
        refine (bnd (by exact c1)).trans ?_
        unfold B_X10_astray_24
        refine d1.trans (e1.trans ?_)
        exact k1
      · rw [k2.gi (by decide), gk.1.gi (by decide)]
        exact z2
    · intro F s hs
      obtain ⟨f, D, mp, km, dn, as⟩ := hs
      have fs : RfO [35, 38, 39, 40, 41, 42, 43, 44, 45, 46] [1300, 1351, 1353, 1363, 1365] M h s.1 := (f3.mono (by decide) (by decide)).tr (f.mono (by decide) (by decide))
      refine ⟨s.1, D, mp, s.2, ?_, f, as⟩
      show B_X10_astray_88 N _ M s.1 (nI s.2) (nI c) = _
      unfold B_X10_astray_88
      rw [(f.rn n3 (by decide)).2.1, if_pos ((ni_le (by omega) (by omega)).mpr (Nat.le_refl _))]
      refine (rf_as187 (f.rk q3) (f.rn n3 (by decide)) N (by omega) (g.con fs (by decide)) km s.2).trans ?_
      have ve : (fun j => ¬ VnR s.1 M c v (s.1.bi (M + 35) j) (mp (s.1.bi (M + 35) j))) = (fun j => ¬ VnR h M c v (h3.bi (M + 35) j) (mp (h3.bi (M + 35) j))) := by
        funext j
        rw [f.bi (show 35 ∉ _ by decide), propext (VnR.con fs (by decide) _ _)]
      rw [ve]
    · intro F i s hi hs
      obtain ⟨f, D, mp, km, dn, as⟩ := hs
      left
      obtain ⟨s', D', mp', x', k1, k2, k3, k4, k5⟩ := rf_as88 q3 n3 N (by omega) g3 ok3 F hi f km dn as
      exact ⟨(s', x'), ⟨k2, D', mp', k3, k4, k5⟩, k1⟩
  · refine ⟨h2, nI rings, st ?_, f2.mono (by decide) (by decide), z2, Or.inl ⟨by omega, rfl⟩⟩
    unfold B_X10_astray_13
    exact if_neg (by rw [ni_lz (by omega)]; exact z)
end RF39
