/-! one call of the law: what both sides keep -/
def Sd (se : Nat × Nat) (X M O : Nat) (g : Nat → Nat) (p : Nat → Nat) (h : Hp) : Prop := Wf g h ∧ p 11 = X ∧ p 12 = O ∧ Rk h M ∧ M + 46 < h.nx ∧ h.kd O = 21 ∧ h.al O = 1 ∧ h.se = se
/-- the room used -/
def Rom (S cO nr j a c1 s1 : Nat) : Prop := c1 + 3 * S + 12 * a ≤ 60 + cO + 12 * j + 3 * nr + 3078 * a ∧ s1 + 9000 * a ≤ 119280 + 4 * cO + 9000 * j + 20560 * a ∧ cO ≤ 1200
def Inv (se : Nat × Nat) (X M O : Nat) (j : Nat) (h : Hp) (c1 s1 : Nat) : Prop := ∃ (g p : Nat → Nat) (G : Nat → Int32) (fv : Int64) (lr : Option Nat) (B : Shf) (V : List Kv) (ts : List Nat) (D : Nat → TD) (ac cm ot : List Nat) (ct rs : Nat → Int32) (d0 : AnD) (R : List (Int32 × Int64)) (cO b c w l v k r clk nr a a0 sc : Nat), Kr g h p G fv lr B V ts D ac cm ot ct rs d0 R cO ∧ Sd se X M O g p h ∧ Cpl h M b c w l v k r clk G fv V ts D ac cm ct rs R ∧ Ex G B V ts D ac cm ot b c w l k r clk nr j a a0 sc ∧ Rom (ac.map (fun i => tN (D i))).sum cO nr j a c1 s1
section GLU
variable {se : Nat × Nat} {X M O : Nat} {g g1 p : Nat → Nat} {h h0 h1 h2 ht : Hp} {G : Nat → Int32} {fv : Int64} {lr : Option Nat} {B : Shf} {V : List Kv} {ts : List Nat} {D : Nat → TD} {ac cm ot : List Nat} {ct rs : Nat → Int32} {d0 : AnD} {R : List (Int32 × Int64)} {cO b c w l v k r clk nr j a a0 sc c1 s1 : Nat}
theorem sd_cls (s : Sd se X M O g p h) (m : Mo h h1) (f : Fc h h1) (w1 : Wf g1 h1) : Sd se X M O g1 p h1 ∧ RfE M h h1 := by
  obtain ⟨z1, z2, z3, z4, z5, z6, z7, z8⟩ := s
  have ol := z1.lt z6 (by decide)
  exact ⟨⟨w1, z2, z3, z4.cls m f z5, Nat.lt_of_lt_of_le z5 m.2.1, (m.1 O ol).trans z6, (m.2.2.2.2 O ol).trans z7, m.2.2.2.1.trans z8⟩, RfE.cls f z5⟩
theorem sd_saw (q : Kr g h p G fv lr B V ts D ac cm ot ct rs d0 R cO) (s : Sd se X M O g p h) (x : Int64) : Kr g (h.saw O 0 x) p G fv lr B V ts D ac cm ot ct rs d0 R cO ∧ Sd se X M O g p (h.saw O 0 x) := by
  obtain ⟨z1, z2, z3, z4, z5, z6, z7, z8⟩ := s
  have go : g O = O := by
    have := q.1.2.2.2.2.2.2.2.2.2.2.2.2.2.2
    rw [z3] at this
    exact this
  obtain ⟨k1, k2⟩ := kr_saw q z1 z6 go 0 x
  exact ⟨k1, k2, z2, z3, z4.saw O 0 x, z5, z6, z7, z8⟩
theorem sd_ref {A Gf : List Nat} (q : Kr g h p G fv lr B V ts D ac cm ot ct rs d0 R cO) (s : Sd se X M O g p h) (f : RfO A Gf M h h2) (fm : Fm h h2) : Kr g h2 p G fv lr B V ts D ac cm ot ct rs d0 R cO ∧ Sd se X M O g p h2 := by
  obtain ⟨z1, z2, z3, z4, z5, z6, z7, z8⟩ := s
  obtain ⟨k1, k2⟩ := kr_ref q z1 f fm
  exact ⟨k1, k2, z2, z3, f.rk z4, by rw [f.1]; exact z5, by rw [f.2.2.2.1]; exact z6, by rw [f.2.2.2.2.1]; exact z7, f.2.2.1.trans z8⟩
theorem sd_thr (q : Kr g h p G fv lr B V ts D ac cm ot ct rs d0 R cO) (s : Sd se X M O g p h) {n : Nat} (hn : h.nx ≤ n) : Kr g (h.thr n) p G fv lr B V ts D ac cm ot ct rs d0 R cO ∧ Sd se X M O g p (h.thr n) := by
  obtain ⟨z1, z2, z3, z4, z5, z6, z7, z8⟩ := s
  obtain ⟨k1, k2⟩ := kr_thr q z1 hn
  exact ⟨k1, k2, z2, z3, z4.thr n, Nat.lt_of_lt_of_le z5 hn, z6, z7, z8⟩
theorem cpl_vt (q : Cpl h M b c w l v k r clk G fv V ts D ac cm ct rs R) : VtOk h M b v := by
  intro i hi
  have ve := q.2.2.2.2.2.2.2.2.2.2.1
  have hl : i < V.length := by rw [ve.1]; exact hi
  obtain ⟨_, _, _, _, _, ⟨u, u1, u2, u3, _⟩, _⟩ := ve.2.2 i _ (List.getElem?_eq_getElem hl)
  exact ⟨u, u1, u2, u3⟩
theorem cpl_pos (q : Cpl h M b c w l v k r clk G fv V ts D ac cm ct rs R) : ∀ u, 1 ≤ u → u ≤ b → h.bi (M + 1) u = 2 → 0 < h.bi (M + 4) u := by
  intro u u1 u2 e
  have c512 := q.1.2.2.2.2.2.2.2.2.1
  obtain ⟨_, _, _, _, s, _, _, z⟩ := q.2.2.2.2.1.2 u u1 u2
  rcases z with ⟨z, _⟩ | ⟨_, m, m1, m2, m3⟩
  · rw [e] at z
    rcases z with z | z | z | z <;> exact absurd z (by decide)
  · rw [m1, ni_gz (by omega)]; omega
theorem no_act (q : Cpl h M b c w l v k r clk G fv V ts D ac cm ct rs R) {x : Int32} (na : NoAct ts D x) : ¬ actT h M b x := by
  rintro ⟨t, e, t1, t2, t3⟩
  have f := q.2.2.2.1 (t - 1) (by omega)
  rw [show t - 1 + 1 = t by omega] at f
  exact na (t - 1) (by rw [q.2.1]; omega) (by rw [show t - 1 + 1 = t by omega]; exact e) (f.2.2.2.1.trans t3)
theorem is_act (q : Cpl h M b c w l v k r clk G fv V ts D ac cm ct rs R) {x : Int32} (na : ¬ NoAct ts D x) : ∃ i t jj : Nat, x = nI (i + 1) ∧ i < b ∧ ts[i]? = some t ∧ ac[jj]? = some i ∧ (D i).1 1006 = 1 ∧ h.bi (M + 1) (i + 1) = 1 := by
  have : ∃ i, i < ts.length ∧ x = nI (i + 1) ∧ (D i).1 1006 = 1 := Classical.byContradiction (fun z => na (fun i h1 h2 h3 => z ⟨i, h1, h2, h3⟩))
  obtain ⟨i, i1, i2, i3⟩ := this
  have hb : i < b := by rw [q.2.1] at i1; exact i1
  have ai : h.bi (M + 1) (i + 1) = 1 := (q.2.2.2.1 i hb).2.2.2.1.symm.trans i3
  obtain ⟨jj, hj⟩ := mem_iff_get.mp ((q.2.2.2.2.2.2.1.1 i).mpr ⟨hb, ai⟩)
  exact ⟨i, _, jj, i2, hb, List.getElem?_eq_getElem i1, hj, i3, ai⟩
theorem ex_nd (x : Ex G B V ts D ac cm ot b c w l k r clk nr j a a0 sc) : ac.Nodup := x.2.1.1.imp (fun z => Nat.ne_of_lt z)
/-- a call that changes nothing but the clock -/
theorem step_id {A Gf : List Nat} {clk2 c2 s2 : Nat} (K : Kr g h0 p G fv lr B V ts D ac cm ot ct rs d0 R cO) (s : Sd se X M O g p h0) (f : RfO A Gf M h0 h2) (fm : Fm h0 h2) (q2 : Cpl h2 M b c w l v k r clk2 G fv V ts D ac cm ct rs R) (x : Ex G B V ts D ac cm ot b c w l k r clk nr j a a0 sc) (rm : Rom (ac.map (fun i => tN (D i))).sum cO nr j a c1 s1) (hj1 : j + 1 ≤ 512) (hclk : clk2 ≤ clk + 1) (hc : c2 ≤ c1 + 1) (hs : s2 ≤ s1 + 6) : Inv se X M O (j + 1) h2 c2 s2 := by
  obtain ⟨K2, s2'⟩ := sd_ref K s f fm
  obtain ⟨⟨x1, x2, x3, x4, x5, x6, x7, x8, x9, x10⟩, y, z⟩ := x
  obtain ⟨r1, r2, r3⟩ := rm
  exact ⟨_, _, _, _, _, _, _, _, _, _, _, _, _, _, _, _, _, _, _, _, _, _, _, _, _, _, _, _, _, K2, s2', q2, ⟨⟨x1, x2, by omega, x4, x5, x6, by omega, x8, x9, hj1⟩, y, z⟩, by omega, by omega, r3⟩
/-- a call that is thrown out -/
theorem step_thr {A Gf : List Nat} {clk2 n1 : Nat} (K : Kr g h p G fv lr B V ts D ac cm ot ct rs d0 R cO) (s : Sd se X M O g p h) (hn : h.nx ≤ n1) (f : RfO A Gf M (h.thr n1) h2) (fm : Fm (h.thr n1) h2) (q2 : Cpl h2 M b c w l v k r clk2 G fv V ts D ac cm ct rs R) (x : Ex G B V ts D ac cm ot b c w l k r clk nr j a a0 sc) (rm : Rom (ac.map (fun i => tN (D i))).sum cO nr j a c1 s1) (hj1 : j + 1 ≤ 512) (hclk : clk2 ≤ clk + 1) : Inv se X M O (j + 1) h2 (c1 + (h.nx + 1 - h.nx + (h2.nx - n1))) (s1 + (h2.su - h.su)) := by
  obtain ⟨K1, s1'⟩ := sd_thr K s hn
  have e1 : h2.nx = n1 := f.1
  have e2 : h2.su = h.su + 6 := f.2.1
  exact step_id K1 s1' f fm q2 x rm hj1 hclk (by omega) (by omega)
theorem cpl_thr (q : Cpl h M b c w l v k r clk G fv V ts D ac cm ct rs R) (n : Nat) : Cpl (h.thr n) M b c w l v k r clk G fv V ts D ac cm ct rs R := q.eqv (RfE.thr M h n)
/-- a call of a transaction, on both sides -/
theorem step_call {g' : Nat → Nat} {i jj c' n' : Nat} {d : Clq} {L' : List Kv} {P' : List Nat} {y : Int64} (s : Sd se X M O g p h) (q : Cpl h M b c w l v k r clk G fv V ts D ac cm ct rs R) (x : Ex G B V ts D ac cm ot b c w l k r clk nr j a a0 sc) (rm : Rom (ac.map (fun i => tN (D i))).sum cO nr j a c1 s1) (hj1 : j + 1 ≤ 512) (m1 : Mo h h1) (f1 : Fc h h1) (w1 : Wf g' h1) (rc : Rc2 h h1 cO c') (fm : Fm (h1.saw O 0 y) h2) (hi : i < b) (ai : h.bi (M + 1) (i + 1) = 1) (out : Out g' (tk (h1.saw O 0 y) M 0) h1 h2 p M b c w l v k r (clk + 1) nr G B V ts D ac cm c' i jj d) (sb : StB L' n') (sl : (L', P', n') = stepL ((D i).1 1000) (tL (D i), tP (D i), tN (D i)) d) : h2.gi 1300 M = 0 ∧ Inv se X M O (j + 1) h2 (c1 + (h2.nx - h.nx)) (s1 + (h2.su - h.su)) := by
  obtain ⟨s1', e1⟩ := sd_cls s m1 f1 w1
  have q1 := cpl_tk (q.eqv (e1.tr (RfE.saw M h1 O 0 y))) 0
  obtain ⟨G', fv', lr', D', ac', ot', ct', rs', d0', R', w', l', k', r', K1, q2, f, gg, hac, bd, hot, oth, ts1, alt⟩ := out
  obtain ⟨K2, s2'⟩ := sd_saw K1 s1' y
  have ft : RfO cA (1300 :: 1313 :: cG) M (h1.saw O 0 y) h2 := (tk.ro.mono (fun _ z => nomatch z) (by decide)).tr (f.mono (fun _ z => z) (by decide))
  obtain ⟨K3, s3'⟩ := sd_ref K2 s2' ft fm
  have ai1 : (tk (h1.saw O 0 y) M 0).bi (M + 1) (i + 1) = 1 := by
    rw [tk.ro.bi (by decide), (e1.tr (RfE.saw M h1 O 0 y)).1 1 (by decide)]
    exact ai
  have x7 := x.1.2.2.2.2.2.2.1
  obtain ⟨x', sm⟩ := ex_call (jj := jj) q1 x hj1 (by omega) hi ai1 q2 f gg hac bd hot oth ts1 alt sb sl
  have n2 : h2.nx = h1.nx := ft.1
  have u2 : h2.su = h1.su := ft.2.1
  have mn := m1.2.1
  have mu := m1.2.2.1
  obtain ⟨r1, r2, r3⟩ := rm
  obtain ⟨rc1, rc2, rc3, rc4⟩ := rc
  refine ⟨?_, _, _, _, _, _, _, _, _, _, _, _, _, _, _, _, _, _, _, _, _, _, _, _, _, _, _, _, _, _, K3, s3', q2, x', by omega, by omega, by omega⟩
  rw [f.gi (by decide)]
  unfold tk
  exact gi_same
end GLU
