section STP
variable {se : Nat × Nat} {X M O : Nat} {g g1 p : Nat → Nat} {h h0 h1 h2 ht : Hp} {G : Nat → Int32} {fv : Int64} {lr : Option Nat} {B : Shf} {V : List Kv} {ts : List Nat} {D : Nat → TD} {ac cm ot : List Nat} {ct rs : Nat → Int32} {d0 : AnD} {R : List (Int32 × Int64)} {cO b c w l v k r clk nr j a a0 sc c1 s1 : Nat}
theorem step_reg {JX : Option (Hp × Int32)} {JM JR : Hp → Option (Hp × Int32)} {N i t jj : Nat} {d : Clq} {hn : Hp} (K : Kr g h p G fv lr B V ts D ac cm ot ct rs d0 R cO) (s : Sd se X M O g p h) (q : Cpl h M b c w l v k r clk G fv V ts D ac cm ct rs R) (x : Ex G B V ts D ac cm ot b c w l k r clk nr j a a0 sc) (rm : Rom (ac.map (fun i => tN (D i))).sum cO nr j a c1 s1) (hj1 : j + 1 ≤ 512) (hN : 1000000 < N) (hi : i < b) (hti : ts[i]? = some t) (hjj : ac[jj]? = some i) (ai : h.bi (M + 1) (i + 1) = 1) (nc : NewC g h hn d) (ok : ClOk (tP (D i)) d) (hsc : d.1 = 2 → d.2.1.toInt ≤ d.2.2.1.toInt) (JK : ∀ h' v, J_X9_carryOut N (p 11) hn (some t) (some h.nx) = some (h', v) → JX = some (h', v)) (mo : ∀ h1 v, JX = some (h1, v) → Mo h h1) (fo : ∀ h1 v, JX = some (h1, v) → Fc h h1) (fmm : ∀ hs h2 v, JM hs = some (h2, v) → Fm hs h2) (JMT : ∀ hs, Rk hs M → Rn hs M b c w l v k r → hs.bi (M + 1) (i + 1) = 1 → JM hs = JR (tk hs M 0))
    (ref : ∀ (ht : Hp) (g' : Nat → Nat) (hK : Hp) (A' : Shf) (L' : List Kv) (P' : List Nat) (n' : Nat) (e : AnD) (vv : Int32) (c' : Nat), Rk ht M → Cpl ht M b c w l v k r (clk + 1) G fv V ts D ac cm ct rs R → ht.bi (M + 1) (i + 1) = 1 → CallR (tL (D i)) V ((D i).1 1001) ((D i).1 1000) (tP (D i)) (tN (D i)) d L' P' n' e → CarR g' hK p (va_up G 1208 (nI (nr + 1))) fv lr B V ts (vwD D i A' L' P' n') ac cm ot ct rs R cO c' i jj h.nx d e vv → ∃ h2, JR ht = some (h2, vv) ∧ Out g' ht hK h2 p M b c w l v k r (clk + 1) nr G B V ts D ac cm c' i jj d) :
    ∃ (h1 h2 : Hp) (y : Int32), JX = some (h1, y) ∧ JM (h1.saw O 0 y.toInt64) = some (h2, y) ∧ h2.gi 1300 M = 0 ∧ Inv se X M O (j + 1) h2 (c1 + (h2.nx - h.nx)) (s1 + (h2.su - h.su)) := by
  have x3 := x.1.2.2.1
  obtain ⟨h1, g', A', L', P', n', e, vv, c', r1, r2, r3, r4, r5, r6⟩ := kr_call K s.1 (ex_ki q x) (by omega) N hN hti hjj nc ok hsc
  have jx := JK _ _ r1
  have m1 := mo _ _ jx
  have f1 := fo _ _ jx
  obtain ⟨s1', e1⟩ := sd_cls s m1 f1 r4
  have q0 := q.eqv (e1.tr (RfE.saw M h1 O 0 vv.toInt64))
  have q1 := cpl_tk q0 0
  have rk0 : Rk (h1.saw O 0 vv.toInt64) M := s1'.2.2.2.1.saw O 0 _
  have ai0 : (h1.saw O 0 vv.toInt64).bi (M + 1) (i + 1) = 1 := by
    rw [(e1.tr (RfE.saw M h1 O 0 vv.toInt64)).1 1 (by decide)]
    exact ai
  have ai1 : (tk (h1.saw O 0 vv.toInt64) M 0).bi (M + 1) (i + 1) = 1 := by
    rw [tk.ro.bi (by decide)]
    exact ai0
  obtain ⟨h2, y1, out⟩ := ref _ _ _ _ _ _ _ _ _ _ (tk.ro.rk rk0) q1 ai1 r2 r6
  have jm : JM (h1.saw O 0 vv.toInt64) = some (h2, vv) := (JMT _ rk0 q0.1 ai0).trans y1
  have sl := callR_step r2 (q.2.2.2.2.2.2.2.2.1 i hi).2.2
  obtain ⟨z1, z2⟩ := step_call s q x rm hj1 m1 f1 r4 r5 (fmm _ _ _ jm) hi ai out r3 sl
  exact ⟨h1, h2, vv, jx, jm, z1, z2⟩
theorem scan_room (hr : r ≤ sc * min w 100) (hw : w + sc + 1 ≤ 512) : r + min w 100 ≤ 41200 := by
  have key : ∀ w, w < 101 → (512 - w) * w ≤ 41200 := by decide
  by_cases z : w < 101
  · have e : min w 100 = w := by omega
    rw [e] at hr ⊢
    have k1 := key w z
    have k2 : (sc + 1) * w ≤ (512 - w) * w := Nat.mul_le_mul_right w (by omega)
    rw [Nat.add_mul] at k2
    omega
  · have e : min w 100 = 100 := by omega
    rw [e] at hr ⊢
    omega
theorem ro_eq (q : Cpl h M b c w l v k r clk G fv V ts D ac cm ct rs R) {i : Nat} (hi : i < b) : (D i).1 1005 = 0 ↔ h.bi (M + 2) (i + 1) = 0 := by
  have f := (q.2.2.2.1 i hi).2.2.1
  obtain ⟨_, z, _⟩ := q.2.2.2.2.1.2 (i + 1) (by omega) (by omega)
  rw [f]
  by_cases e : h.bi (M + 2) (i + 1) = 0
  · rw [if_pos e]
    exact ⟨fun _ => e, fun _ => rfl⟩
  · rw [if_neg e]
    refine ⟨fun y => ?_, fun y => absurd y e⟩
    rcases z with z | z | z <;> rw [z] at y <;> exact absurd y (by decide)
theorem cpl_1300 (q : Cpl h M b c w l v k r clk G fv V ts D ac cm ct rs R) (x : Int32) : Cpl (h.sgi 1300 M x) M b c w l v k r clk G fv V ts D ac cm ct rs R :=
  q.eqv (RfE.ro (A := []) (G := [1300]) (RfO.sgi (by decide) _) (fun _ z => nomatch z) (by decide))
theorem tk_0 (h : Hp) (M : Nat) (x : Int32) : (tk h M x).gi 1300 M = x := by
  unfold tk
  exact gi_same
theorem wr_eq (N : Nat) (x y : Int32) (z : Int64) : J_X10_write N M h x y z = J_X10_writes N M h x y z 1 := by
  unfold J_X10_write B_X10_write_0 B_X10_write_8
  cases J_X10_writes N M h x y z 1 with
  | none => rfl
  | some y => rfl
theorem rm_eq (N : Nat) (x y : Int32) : J_X10_remove N M h x y = J_X10_writes N M h x y 0 0 := by
  unfold J_X10_remove B_X10_remove_0 B_X10_remove_8
  cases J_X10_writes N M h x y 0 0 with
  | none => rfl
  | some y => rfl
end STP
section SOP
variable {se : Nat × Nat} {X M O N j c1 s1 : Nat} {h : Hp}
theorem s_read (I : Inv se X M O j h c1 s1) (hj1 : j + 1 ≤ 512) (hN : 1000000 < N) (p0 p1 : Int32) : S_read N X M O h p0 p1 (fun h9 c2 s2 => Inv se X M O (j + 1) h9 (c1 + c2) (s1 + s2)) := by
  unfold S_read
  obtain ⟨g, p, G, fv, lr, B, V, ts, D, ac, cm, ot, ct, rs, d0, R, cO, b, c, w, l, v, k, r, clk, nr, a, a0, sc, K, s, q, x, rm⟩ := I
  have eX := s.2.1
  by_cases na : NoAct ts D p0
  · refine Or.inr ⟨h, by rw [← eX]; exact (kr_X K N na p1 0 0 0).1, fun n1 hn => ?_⟩
    have jm := rf_readX (s.2.2.2.1.thr n1) (cpl_thr q n1).1 N p1 (no_act (cpl_thr q n1) na)
    exact ⟨_, _, jm, tk_0 _ _ _, step_thr K s hn tk.ro (fo_X10_read _ _ _ _ _ jm) (cpl_tk (cpl_thr q n1) 1) x rm hj1 (Nat.le_refl _)⟩
  · obtain ⟨i, t, jj, e0, hi, hti, hjj, st, ai⟩ := is_act q na
    obtain ⟨hn, nc, JK⟩ := kr_read K s.1 N e0 hti st p1
    have x1 := x.1
    refine Or.inl (step_reg (JX := J_X9_read N X h p0 p1) (JM := fun hs => J_X10_read N M hs p0 p1) (JR := fun ht => B_X10_read_15 N M ht (nI (i + 1)) p1 0) K s q x rm hj1 hN hi hti hjj ai nc (Or.inl rfl) (fun z => absurd z (by show ¬ ((0 : Int32) = _); decide)) (by rw [eX] at JK; rw [eX]; exact JK) (fun _ _ e => mo_X9_read _ _ _ _ _ e) (fun _ _ e => fo_X9_read _ _ _ _ _ e) (fun _ _ _ e => fo_X10_read _ _ _ _ _ e) (fun hs rk n z => by rw [e0]; exact rf_readT rk n N p1 (by omega) (by omega) z) ?_)
    intro ht g' hK A' L' P' n' e vv c' rk q1 ai1 cr car
    obtain ⟨h2, y, j1, j2⟩ := rf_read1 rk q1.1 N (by omega) (cpl_vt q1) q1.2.2.2.2.2.2.2.2.2.2.1.2.1 (by omega) (by omega) (cpl_pos q1) (t := i + 1) (by omega) (by omega) ai1 p1
    obtain ⟨e1, out⟩ := op_read q1 K.pu (by omega) (by omega) hi ai1 hjj (ex_nd x) x.2.1.2.2 cr car j2
    exact ⟨h2, by rw [e1]; exact j1, out⟩
theorem s_near (I : Inv se X M O j h c1 s1) (hj1 : j + 1 ≤ 512) (hN : 1000000 < N) (p0 p1 : Int32) {f : Int32} (hf : f = 0 ∨ f = 1) : S_near N X M O h p0 p1 f (fun h9 c2 s2 => Inv se X M O (j + 1) h9 (c1 + c2) (s1 + s2)) := by
  unfold S_near
  obtain ⟨g, p, G, fv, lr, B, V, ts, D, ac, cm, ot, ct, rs, d0, R, cO, b, c, w, l, v, k, r, clk, nr, a, a0, sc, K, s, q, x, rm⟩ := I
  have eX := s.2.1
  by_cases na : NoAct ts D p0
  · refine Or.inr ⟨h, by rw [← eX]; exact (kr_X K N na p1 f 0 0).2.1, fun n1 hn => ?_⟩
    have jm := rf_nearX (s.2.2.2.1.thr n1) (cpl_thr q n1).1 N p1 f (no_act (cpl_thr q n1) na)
    exact ⟨_, _, jm, tk_0 _ _ _, step_thr K s hn tk.ro (fo_X10_near _ _ _ _ _ _ jm) (cpl_tk (cpl_thr q n1) 1) x rm hj1 (Nat.le_refl _)⟩
  · obtain ⟨i, t, jj, e0, hi, hti, hjj, st, ai⟩ := is_act q na
    obtain ⟨hn, nc, JK⟩ := kr_near K s.1 N e0 hti st p1 f hf
    have x1 := x.1
    refine Or.inl (step_reg (JX := J_X9_near N X h p0 p1 f) (JM := fun hs => J_X10_near N M hs p0 p1 f) (JR := fun ht => B_X10_near_15 N M ht (nI (i + 1)) p1 f 0) K s q x rm hj1 hN hi hti hjj ai nc (Or.inr (Or.inl rfl)) (fun z => absurd z (by show ¬ ((1 : Int32) = _); decide)) (by rw [eX] at JK; rw [eX]; exact JK) (fun _ _ e => mo_X9_near _ _ _ _ _ _ e) (fun _ _ e => fo_X9_near _ _ _ _ _ _ e) (fun _ _ _ e => fo_X10_near _ _ _ _ _ _ e) (fun hs rk n z => by rw [e0]; exact rf_nearT rk n N p1 f (by omega) (by omega) z) ?_)
    intro ht g' hK A' L' P' n' e vv c' rk q1 ai1 cr car
    obtain ⟨h2, y, j1, j2⟩ := rf_near1 rk q1.1 N (by omega) (cpl_vt q1) q1.2.2.2.2.2.2.2.2.2.2.1.2.1 (by omega) (by omega) (cpl_pos q1) (t := i + 1) (by omega) (by omega) ai1 p1 f
    obtain ⟨e1, out⟩ := op_near hf q1 K.pu (by omega) (by omega) hi ai1 hjj (ex_nd x) cr car j2
    exact ⟨h2, by rw [e1]; exact j1, out⟩
theorem s_scan (I : Inv se X M O j h c1 s1) (hj1 : j + 1 ≤ 512) (hN : 1000000 < N) (p0 p1 p2 p3 : Int32) : S_scan N X M O h p0 p1 p2 p3 (fun h9 c2 s2 => Inv se X M O (j + 1) h9 (c1 + c2) (s1 + s2)) := by
  unfold S_scan
  obtain ⟨g, p, G, fv, lr, B, V, ts, D, ac, cm, ot, ct, rs, d0, R, cO, b, c, w, l, v, k, r, clk, nr, a, a0, sc, K, s, q, x, rm⟩ := I
  have eX := s.2.1
  by_cases na : NoAct ts D p0
  · refine Or.inr (Or.inl ⟨h, by rw [← eX]; exact (kr_X K N na p1 p2 p3 0).2.2.1, fun n1 hn => ?_⟩)
    have jm := rf_scanX (s.2.2.2.1.thr n1) (cpl_thr q n1).1 N p1 p2 p3 (no_act (cpl_thr q n1) na)
    exact ⟨_, _, jm, tk_0 _ _ _, step_thr K s hn tk.ro (fo_X10_scan _ _ _ _ _ _ _ jm) (cpl_tk (cpl_thr q n1) 1) x rm hj1 (Nat.le_refl _)⟩
  · obtain ⟨i, t, jj, e0, hi, hti, hjj, st, ai⟩ := is_act q na
    by_cases ok : p1 ≤ p2 ∧ ¬ p3 < 1 ∧ p3 ≤ 100
    · obtain ⟨o1, o2, o3⟩ := ok
      obtain ⟨hn, nc, JK⟩ := kr_scan K s.1 N e0 hti st p1 p2 p3 o1 o2 o3
      have x1 := x.1
      have l1 : 1 ≤ p3.toInt := by
        rw [Int32.lt_iff_toInt_lt] at o2
        have : (1 : Int32).toInt = 1 := by decide
        omega
      have l2 : p3.toInt ≤ 100 := by
        rw [Int32.le_iff_toInt_le] at o3
        have : (100 : Int32).toInt = 100 := by decide
        omega
      obtain ⟨most, em, m1, m2⟩ : ∃ most : Nat, p3 = nI most ∧ 1 ≤ most ∧ most ≤ 100 := ⟨p3.toInt.toNat, ni_of (by omega), by omega, by omega⟩
      rw [em] at nc JK ⊢
      refine Or.inl (step_reg (JX := J_X9_scan N X h p0 p1 p2 (nI most)) (JM := fun hs => J_X10_scan N M hs p0 p1 p2 (nI most)) (JR := fun ht => B_X10_scan_15 N M ht (nI (i + 1)) p1 p2 (nI most) 0) K s q x rm hj1 hN hi hti hjj ai nc (Or.inr (Or.inr (Or.inl ⟨rfl, most, rfl, m1, m2⟩))) (fun _ => Int32.le_iff_toInt_le.mp o1) (by rw [eX] at JK; rw [eX]; exact JK) (fun _ _ e => mo_X9_scan _ _ _ _ _ _ _ e) (fun _ _ e => fo_X9_scan _ _ _ _ _ _ _ e) (fun _ _ _ e => fo_X10_scan _ _ _ _ _ _ _ e) (fun hs rk n z => by rw [e0]; exact rf_scanT rk n N p1 p2 (nI most) (by omega) (by omega) z) ?_)
      intro ht g' hK A' L' P' n' e vv c' rk q1 ai1 cr car
      have nlt : ¬ p2 < p1 := by
        rw [Int32.lt_iff_toInt_lt]
        rw [Int32.le_iff_toInt_le] at o1
        omega
      obtain ⟨h2, y, j1, j2⟩ := rf_scan1 rk q1.1 N (by omega) (cpl_vt q1) q1.2.2.2.2.2.2.2.2.2.2.1.2.1 (by omega) (by omega) (cpl_pos q1) (t := i + 1) (by omega) (by omega) ai1 nlt m1 m2
      obtain ⟨e1, out⟩ := op_scan o1 m1 m2 (scan_room x1.2.2.2.2.2.2.2.1 (by omega)) q1 K.pu (by omega) (by omega) hi ai1 hjj (ex_nd x) cr car j2
      exact ⟨h2, by rw [e1]; exact j1, out⟩
    · refine Or.inr (Or.inr ⟨h, by rw [← eX]; exact kr_scanX K N e0 hti st p1 p2 p3 ok, fun n1 hn => ?_⟩)
      have ait : (h.thr n1).bi (M + 1) (i + 1) = 1 := ai
      have bad : p2 < p1 ∨ p3 < 1 ∨ ¬ p3 ≤ 100 := by
        by_cases z1 : p2 < p1
        · exact Or.inl z1
        · by_cases z2 : p3 < 1
          · exact Or.inr (Or.inl z2)
          · refine Or.inr (Or.inr (fun z3 => ok ⟨?_, z2, z3⟩))
            rw [Int32.lt_iff_toInt_lt] at z1
            rw [Int32.le_iff_toInt_le]
            omega
      have jm : J_X10_scan N M (h.thr n1) p0 p1 p2 p3 = some ((tk (h.thr n1) M 0).sgi 1300 M 2, 0) := by
        rw [e0, rf_scanT (s.2.2.2.1.thr n1) (cpl_thr q n1).1 N p1 p2 p3 (by omega) (by omega) ait]
        exact rf_scanR N (i + 1) bad
      exact ⟨_, _, jm, gi_same, step_thr K s hn (tk.ro.tr (RfO.sgi (by decide) _)) (fo_X10_scan _ _ _ _ _ _ _ jm) (cpl_1300 (cpl_tk (cpl_thr q n1) 0) 2) x rm hj1 (Nat.le_refl _)⟩
theorem s_write (I : Inv se X M O j h c1 s1) (hj1 : j + 1 ≤ 512) (hN : 1000000 < N) (p0 p1 : Int32) (p2 : Int64) : S_write N X M O h p0 p1 p2 (fun h9 c2 s2 => Inv se X M O (j + 1) h9 (c1 + c2) (s1 + s2)) := by
  unfold S_write
  obtain ⟨g, p, G, fv, lr, B, V, ts, D, ac, cm, ot, ct, rs, d0, R, cO, b, c, w, l, v, k, r, clk, nr, a, a0, sc, K, s, q, x, rm⟩ := I
  have eX := s.2.1
  by_cases na : NoAct ts D p0
  · refine Or.inr (Or.inl ⟨h, by rw [← eX]; exact (kr_X K N na p1 0 0 p2).2.2.2.1, fun n1 hn => ?_⟩)
    have jm : J_X10_write N M (h.thr n1) p0 p1 p2 = _ := (wr_eq N p0 p1 p2).trans (rf_writesX (s.2.2.2.1.thr n1) (cpl_thr q n1).1 N p1 p2 1 (no_act (cpl_thr q n1) na))
    exact ⟨_, _, jm, tk_0 _ _ _, step_thr K s hn tk.ro (fo_X10_write _ _ _ _ _ _ jm) (cpl_tk (cpl_thr q n1) 1) x rm hj1 (Nat.le_refl _)⟩
  · obtain ⟨i, t, jj, e0, hi, hti, hjj, st, ai⟩ := is_act q na
    by_cases ro : (D i).1 1005 = 0
    · obtain ⟨hn, nc, JK⟩ := kr_write K s.1 N e0 hti st ro p1 p2
      have x1 := x.1
      have tn := (x.2.2.2.1 i hi).2.1
      refine Or.inl (step_reg (JX := J_X9_write N X h p0 p1 p2) (JM := fun hs => J_X10_write N M hs p0 p1 p2) (JR := fun ht => B_X10_writes_15 N M ht (nI (i + 1)) p1 p2 1 0) K s q x rm hj1 hN hi hti hjj ai nc (Or.inr (Or.inr (Or.inr (Or.inl ⟨rfl, Or.inr rfl⟩)))) (fun z => absurd z (by show ¬ ((3 : Int32) = _); decide)) (by rw [eX] at JK; rw [eX]; exact JK) (fun _ _ e => mo_X9_write _ _ _ _ _ _ e) (fun _ _ e => fo_X9_write _ _ _ _ _ _ e) (fun _ _ _ e => fo_X10_write _ _ _ _ _ _ e) (fun hs rk n z => by rw [wr_eq, e0]; exact rf_writesT rk n N p1 p2 1 (by omega) (by omega) z) ?_)
      intro ht g' hK A' L' P' n' e vv c' rk q1 ai1 cr car
      have ro1 := (ro_eq q1 hi).mp ro
      have j1 := rf_writes1 rk q1.1 N (by omega) (by omega) (by omega) (t := i + 1) (by omega) p1 p2 (Or.inr rfl) ro1
      obtain ⟨e1, out⟩ := op_write (Or.inr rfl) q1 (by omega) (by omega) hi (by omega) x.2.1.2.2 cr car
      exact ⟨_, by rw [e1]; exact j1, out⟩
    · refine Or.inr (Or.inr ⟨h, by rw [← eX]; exact (kr_roX K N e0 hti st ro p1 p2).1, fun n1 hn => ?_⟩)
      have ait : (h.thr n1).bi (M + 1) (i + 1) = 1 := ai
      have qt := cpl_tk (cpl_thr q n1) 0
      have jm : J_X10_write N M (h.thr n1) p0 p1 p2 = some ((tk (h.thr n1) M 0).sgi 1300 M 2, 0) := by
        rw [wr_eq, e0, rf_writesT (s.2.2.2.1.thr n1) (cpl_thr q n1).1 N p1 p2 1 (by omega) (by omega) ait]
        exact rf_writesR (tk.ro.rk (s.2.2.2.1.thr n1)) qt.1 N (by omega) p1 p2 1 (fun z => ro ((ro_eq qt hi).mpr z))
      exact ⟨_, _, jm, gi_same, step_thr K s hn (tk.ro.tr (RfO.sgi (by decide) _)) (fo_X10_write _ _ _ _ _ _ jm) (cpl_1300 qt 2) x rm hj1 (Nat.le_refl _)⟩
theorem s_remove (I : Inv se X M O j h c1 s1) (hj1 : j + 1 ≤ 512) (hN : 1000000 < N) (p0 p1 : Int32) : S_remove N X M O h p0 p1 (fun h9 c2 s2 => Inv se X M O (j + 1) h9 (c1 + c2) (s1 + s2)) := by
  unfold S_remove
  obtain ⟨g, p, G, fv, lr, B, V, ts, D, ac, cm, ot, ct, rs, d0, R, cO, b, c, w, l, v, k, r, clk, nr, a, a0, sc, K, s, q, x, rm⟩ := I
  have eX := s.2.1
  by_cases na : NoAct ts D p0
  · refine Or.inr (Or.inl ⟨h, by rw [← eX]; exact (kr_X K N na p1 0 0 0).2.2.2.2.1, fun n1 hn => ?_⟩)
    have jm : J_X10_remove N M (h.thr n1) p0 p1 = _ := (rm_eq N p0 p1).trans (rf_writesX (s.2.2.2.1.thr n1) (cpl_thr q n1).1 N p1 0 0 (no_act (cpl_thr q n1) na))
    exact ⟨_, _, jm, tk_0 _ _ _, step_thr K s hn tk.ro (fo_X10_remove _ _ _ _ _ jm) (cpl_tk (cpl_thr q n1) 1) x rm hj1 (Nat.le_refl _)⟩
  · obtain ⟨i, t, jj, e0, hi, hti, hjj, st, ai⟩ := is_act q na
    by_cases ro : (D i).1 1005 = 0
    · obtain ⟨hn, nc, JK⟩ := kr_remove K s.1 N e0 hti st ro p1
      have x1 := x.1
      have tn := (x.2.2.2.1 i hi).2.1
      refine Or.inl (step_reg (JX := J_X9_remove N X h p0 p1) (JM := fun hs => J_X10_remove N M hs p0 p1) (JR := fun ht => B_X10_writes_15 N M ht (nI (i + 1)) p1 0 0 0) K s q x rm hj1 hN hi hti hjj ai nc (Or.inr (Or.inr (Or.inr (Or.inl ⟨rfl, Or.inl rfl⟩)))) (fun z => absurd z (by show ¬ ((3 : Int32) = _); decide)) (by rw [eX] at JK; rw [eX]; exact JK) (fun _ _ e => mo_X9_remove _ _ _ _ _ e) (fun _ _ e => fo_X9_remove _ _ _ _ _ e) (fun _ _ _ e => fo_X10_remove _ _ _ _ _ e) (fun hs rk n z => by rw [rm_eq, e0]; exact rf_writesT rk n N p1 0 0 (by omega) (by omega) z) ?_)
      intro ht g' hK A' L' P' n' e vv c' rk q1 ai1 cr car
      have ro1 := (ro_eq q1 hi).mp ro
      have j1 := rf_writes1 rk q1.1 N (by omega) (by omega) (by omega) (t := i + 1) (by omega) p1 0 (Or.inl rfl) ro1
      obtain ⟨e1, out⟩ := op_write (Or.inl rfl) q1 (by omega) (by omega) hi (by omega) x.2.1.2.2 cr car
      exact ⟨_, by rw [e1]; exact j1, out⟩
    · refine Or.inr (Or.inr ⟨h, by rw [← eX]; exact (kr_roX K N e0 hti st ro p1 0).2, fun n1 hn => ?_⟩)
      have ait : (h.thr n1).bi (M + 1) (i + 1) = 1 := ai
      have qt := cpl_tk (cpl_thr q n1) 0
      have jm : J_X10_remove N M (h.thr n1) p0 p1 = some ((tk (h.thr n1) M 0).sgi 1300 M 2, 0) := by
        rw [rm_eq, e0, rf_writesT (s.2.2.2.1.thr n1) (cpl_thr q n1).1 N p1 0 0 (by omega) (by omega) ait]
        exact rf_writesR (tk.ro.rk (s.2.2.2.1.thr n1)) qt.1 N (by omega) p1 0 0 (fun z => ro ((ro_eq qt hi).mpr z))
      exact ⟨_, _, jm, gi_same, step_thr K s hn (tk.ro.tr (RfO.sgi (by decide) _)) (fo_X10_remove _ _ _ _ _ jm) (cpl_1300 qt 2) x rm hj1 (Nat.le_refl _)⟩
theorem s_save (I : Inv se X M O j h c1 s1) (hj1 : j + 1 ≤ 512) (hN : 1000000 < N) (p0 : Int32) : S_save N X M O h p0 (fun h9 c2 s2 => Inv se X M O (j + 1) h9 (c1 + c2) (s1 + s2)) := by
  unfold S_save
  obtain ⟨g, p, G, fv, lr, B, V, ts, D, ac, cm, ot, ct, rs, d0, R, cO, b, c, w, l, v, k, r, clk, nr, a, a0, sc, K, s, q, x, rm⟩ := I
  have eX := s.2.1
  by_cases na : NoAct ts D p0
  · refine Or.inr ⟨h, by rw [← eX]; exact (kr_X K N na 0 0 0 0).2.2.2.2.2.1, fun n1 hn => ?_⟩
    have jm := rf_saveX (s.2.2.2.1.thr n1) (cpl_thr q n1).1 N (no_act (cpl_thr q n1) na)
    exact ⟨_, _, jm, tk_0 _ _ _, step_thr K s hn tk.ro (fo_X10_save _ _ _ _ jm) (cpl_tk (cpl_thr q n1) 1) x rm hj1 (Nat.le_refl _)⟩
  · obtain ⟨i, t, jj, e0, hi, hti, hjj, st, ai⟩ := is_act q na
    obtain ⟨hn, nc, JK⟩ := kr_save K s.1 N e0 hti st
    have x1 := x.1
    have tn := (x.2.2.2.1 i hi).2.1
    refine Or.inl (step_reg (JX := J_X9_save N X h p0) (JM := fun hs => J_X10_save N M hs p0) (JR := fun ht => B_X10_save_15 N M ht (nI (i + 1)) 0) K s q x rm hj1 hN hi hti hjj ai nc (Or.inr (Or.inr (Or.inr (Or.inr (Or.inl rfl))))) (fun z => absurd z (by show ¬ ((4 : Int32) = _); decide)) (by rw [eX] at JK; rw [eX]; exact JK) (fun _ _ e => mo_X9_save _ _ _ _ e) (fun _ _ e => fo_X9_save _ _ _ _ e) (fun _ _ _ e => fo_X10_save _ _ _ _ e) (fun hs rk n z => by rw [e0]; exact rf_saveT rk n N (by omega) (by omega) z) ?_)
    intro ht g' hK A' L' P' n' e vv c' rk q1 ai1 cr car
    have ep := (q1.2.2.2.1 i hi).2.2.2.2.2.2
    rcases op_save q1 (by omega) hi (by omega) (x.2.2.2.1 i hi).2.2.1 x.2.1.2.2 cr car with ⟨hp, e1, out⟩ | ⟨hp, e1, out⟩
    · exact ⟨_, by rw [e1]; exact rf_save1 rk q1.1 N (t := i + 1) (by omega) ep hp, out⟩
    · exact ⟨_, by rw [e1]; exact rf_saveN rk q1.1 N (t := i + 1) (by omega) (by rw [ep, hp]; rfl), out⟩
theorem s_undo (I : Inv se X M O j h c1 s1) (hj1 : j + 1 ≤ 512) (hN : 1000000 < N) (p0 p1 : Int32) : S_undo N X M O h p0 p1 (fun h9 c2 s2 => Inv se X M O (j + 1) h9 (c1 + c2) (s1 + s2)) := by
  unfold S_undo
  obtain ⟨g, p, G, fv, lr, B, V, ts, D, ac, cm, ot, ct, rs, d0, R, cO, b, c, w, l, v, k, r, clk, nr, a, a0, sc, K, s, q, x, rm⟩ := I
  have eX := s.2.1
  by_cases na : NoAct ts D p0
  · refine Or.inr (Or.inl ⟨h, by rw [← eX]; exact (kr_X K N na p1 0 0 0).2.2.2.2.2.2.1, fun n1 hn => ?_⟩)
    have jm := rf_undoX (s.2.2.2.1.thr n1) (cpl_thr q n1).1 N p1 (no_act (cpl_thr q n1) na)
    exact ⟨_, _, jm, tk_0 _ _ _, step_thr K s hn tk.ro (fo_X10_undo _ _ _ _ _ jm) (cpl_tk (cpl_thr q n1) 1) x rm hj1 (Nat.le_refl _)⟩
  · obtain ⟨i, t, jj, e0, hi, hti, hjj, st, ai⟩ := is_act q na
    have pl : (tP (D i)).length ≤ 10 := (q.2.2.2.2.2.2.2.2.1 i hi).2.2
    by_cases ok : 1 ≤ p1.toInt ∧ p1.toInt ≤ (D i).2.2.2.2.1.length
    · obtain ⟨o1, o2⟩ := ok
      obtain ⟨hn, nc, JK⟩ := kr_undo K s.1 N e0 hti st p1 o1 o2
      have x1 := x.1
      have o2 : p1.toInt ≤ (tP (D i)).length := o2
      obtain ⟨m, em, m1, m2⟩ : ∃ m : Nat, p1 = nI m ∧ 1 ≤ m ∧ m ≤ (tP (D i)).length := ⟨p1.toInt.toNat, ni_of (by omega), by omega, by omega⟩
      have gp : (tP (D i))[m - 1]? = some (tP (D i))[m - 1] := List.getElem?_eq_getElem (by omega)
      rw [em] at nc JK ⊢
      refine Or.inl (step_reg (JX := J_X9_undo N X h p0 (nI m)) (JM := fun hs => J_X10_undo N M hs p0 (nI m)) (JR := fun ht => B_X10_undo_15 N M ht (nI (i + 1)) (nI m) 0) K s q x rm hj1 hN hi hti hjj ai nc (Or.inr (Or.inr (Or.inr (Or.inr (Or.inr ⟨rfl, m, _, rfl, m1, gp⟩))))) (fun z => absurd z (by show ¬ ((5 : Int32) = _); decide)) (by rw [eX] at JK; rw [eX]; exact JK) (fun _ _ e => mo_X9_undo _ _ _ _ _ e) (fun _ _ e => fo_X9_undo _ _ _ _ _ e) (fun _ _ _ e => fo_X10_undo _ _ _ _ _ e) (fun hs rk n z => by rw [e0]; exact rf_undoT rk n N (nI m) (by omega) (by omega) z) ?_)
      intro ht g' hK A' L' P' n' e vv c' rk q1 ai1 cr car
      have ep := (q1.2.2.2.1 i hi).2.2.2.2.2.2
      obtain ⟨_, a9, ea, ha⟩ := (q1.2.2.2.2.2.2.2.2.1 i hi).2.1 (m - 1) _ gp
      have ea' : ht.bi (M + 10) (10 * (i + 1) + m - 1) = nI a9 := by
        rw [show 10 * (i + 1) + m - 1 = 10 * (i + 1) + (m - 1) by omega]
        exact ea
      have w5 := q1.1.2.2.2.2.2.2.2.2.2.1
      obtain ⟨hs, us, j1⟩ := rf_undo1 rk q1.1 N (by omega) (by omega) (t := i + 1) (by omega) ep pl m1 m2 ea' ha q1.2.2.2.2.2.1.2.2.1
      obtain ⟨e1, out⟩ := op_undo q1 (by omega) hi x.2.1.2.2 m1 (by omega) ea' (by omega) us cr car
      exact ⟨_, by rw [e1]; exact j1, out⟩
    · refine Or.inr (Or.inr ⟨h, by rw [← eX]; exact kr_undoX K N e0 hti st p1 ok, fun n1 hn => ?_⟩)
      have ait : (h.thr n1).bi (M + 1) (i + 1) = 1 := ai
      have qt := cpl_tk (cpl_thr q n1) 0
      have ep := (qt.2.2.2.1 i hi).2.2.2.2.2.2
      have bad : p1 < 1 ∨ nI (tP (D i)).length < p1 := by
        by_cases z1 : p1 < 1
        · exact Or.inl z1
        · refine Or.inr ?_
          rw [Int32.lt_iff_toInt_lt] at z1 ⊢
          rw [nI_toInt (by omega)]
          have : (1 : Int32).toInt = 1 := by decide
          have ok : ¬ (1 ≤ p1.toInt ∧ p1.toInt ≤ (tP (D i)).length) := ok
          omega
      have jm : J_X10_undo N M (h.thr n1) p0 p1 = some ((tk (h.thr n1) M 0).sgi 1300 M 2, 0) := by
        rw [e0, rf_undoT (s.2.2.2.1.thr n1) (cpl_thr q n1).1 N p1 (by omega) (by omega) ait]
        exact rf_undoR (tk.ro.rk (s.2.2.2.1.thr n1)) qt.1 N (by omega) ep bad
      exact ⟨_, _, jm, gi_same, step_thr K s hn (tk.ro.tr (RfO.sgi (by decide) _)) (fo_X10_undo _ _ _ _ _ jm) (cpl_1300 qt 2) x rm hj1 (Nat.le_refl _)⟩
end SOP
