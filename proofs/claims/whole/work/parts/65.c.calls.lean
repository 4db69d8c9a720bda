section OPS2
variable {g' : Nat → Nat} {h hL hK hR h' : Hp} {p : Nat → Nat} {M b c w l v k r clk nr : Nat} {G G' : Nat → Int32} {fv : Int64} {lr : Option Nat} {B : Shf} {V : List Kv} {ts : List Nat} {D D' : Nat → TD} {ac cm ot : List Nat} {ct rs : Nat → Int32} {R : List (Int32 × Int64)} {cO c' i j c0 : Nat}
theorem min_le (x : Int32) : (-2147483648 : Int32).toInt ≤ x.toInt := Int32.le_toInt x
theorem max_le (x : Int32) : x.toInt ≤ (2147483647 : Int32).toInt := Int32.toInt_le x
theorem near_lh {f : Int32} {vs : Int32 → Option Int64} {key lo hh : Int32} {d : AnD} (hf : f = 0 ∨ f = 1) (na : NearA f vs key d) (e : d.2.2.2 = some (lo, hh)) : lo.toInt ≤ hh.toInt := by
  rcases na with ⟨d1, _⟩ | ⟨y, x, _, le, _, d1⟩
  · rw [d1] at e
    rcases hf with z | z <;> rw [z] at e
    · have e1 : ((-2147483648 : Int32), key) = (lo, hh) := Option.some.inj e
      obtain ⟨rfl, rfl⟩ := Prod.mk.inj e1
      exact min_le _
    · have e1 : (key, (2147483647 : Int32)) = (lo, hh) := Option.some.inj e
      obtain ⟨rfl, rfl⟩ := Prod.mk.inj e1
      exact max_le _
  · rw [d1] at e
    unfold sg at le
    rcases hf with z | z <;> rw [z] at e le
    · have e1 : (y, key) = (lo, hh) := Option.some.inj e
      obtain ⟨rfl, rfl⟩ := Prod.mk.inj e1
      have l2 : - key.toInt ≤ - y.toInt := le
      omega
    · have e1 : (key, y) = (lo, hh) := Option.some.inj e
      obtain ⟨rfl, rfl⟩ := Prod.mk.inj e1
      exact le
theorem op_near {key f x vv : Int32} {e : AnD} {A' : Shf} {L' : List Kv} {P' : List Nat} {n' : Nat} (hf : f = 0 ∨ f = 1) (q : Cpl h M b c w l v k r clk G fv V ts D ac cm ct rs R) (pu : Pu B V ts D) (hl : l < 512) (hk : k < 512) (hi : i < b) (ai : h.bi (M + 1) (i + 1) = 1) (hj : ac[j]? = some i) (nd : ac.Nodup) (cr : CallR (tL (D i)) V ((D i).1 1001) ((D i).1 1000) (tP (D i)) (tN (D i)) (1, key, 0, 0, f, 0) L' P' n' e) (car : CarR g' hK p (va_up G 1208 (nI (nr + 1))) fv lr B V ts (vwD D i A' L' P' n') ac cm ot ct rs R cO c' i j c0 (1, key, 0, 0, f, 0) e vv) (rea : NeaR h M b w l v k (i + 1) key f h' x) : vv = x ∧ Out g' h hK h' p M b c w l v k r clk nr G B V ts D ac cm c' i j (1, key, 0, 0, f, 0) := by
  rcases cr with ⟨z, -⟩ | ⟨-, h1, h2, h3, ee⟩ | ⟨z, -⟩ | ⟨z, -⟩ | ⟨z, -⟩ | ⟨z, -⟩
  case inl | inr.inr.inl | inr.inr.inr.inl | inr.inr.inr.inr.inl | inr.inr.inr.inr.inr => all_goals exact absurd z (by show ¬ ((1 : Int32) = _); decide)
  rw [h1, h2, h3] at car
  have st : (D i).1 1001 = h.bi (M + 3) (i + 1) := (q.2.2.2.1 i hi).2.1
  rw [st] at ee
  have ee : NearA f (visL (tL (D i)) V (h.bi (M + 3) (i + 1))) key e := ee
  obtain ⟨ha, m, hb, xx, ex, gk, f2, ns, eex, rd⟩ := rea
  have ne := near_eq (b := b) q.1.2.2.2.2.2.2.2.2.2.1 q.1.2.2.2.2.2.2.2.2.2.2.2.1 (q.2.2.2.2.2.2.2.2.1 i hi) q.2.2.2.2.2.2.2.2.2.2.1 gk.2.2.2 hf ee ns
  have ff : RfO [35] [1351, 1353] M h hb := (gk.1.mono (by decide) (by decide)).tr (f2.mono (fun _ z => nomatch z) (by decide))
  have q0 := q.eqv (RfE.ro ff (by decide) (by decide))
  have q1 := cpl_G (G' := va_up G 1208 (nI (nr + 1))) q0 (va_up_ne _ _ (by decide))
  have ai1 : hb.bi (M + 1) (i + 1) = 1 := by rw [ff.bi (by decide)]; exact ai
  have en : e.2.2.2 = some (if f = 0 then ex else key, if f = 0 then key else ex) := by
    rw [eex]
    unfold nearE
    rcases ne with ⟨x1, d1⟩ | ⟨j, y, hj, x1, _, d1⟩
    · rw [d1, x1, if_pos rfl]
      rcases hf with z | z <;> rw [z] <;> rfl
    · have jb : j < 2147483648 := by
        have := gk.2.2.1
        have := q.1.2.2.2.2.2.2.2.2.2.1
        omega
      rw [d1, x1, if_neg (ni_m1 jb), ni_clp jb]
      rcases hf with z | z <;> rw [z] <;> rfl
  have er : e.2.2.1 = [] := by
    rcases ne with ⟨_, d1⟩ | ⟨j, y, _, _, _, d1⟩ <;> rw [d1]
  have ce : (xx = -1 ∧ e.1 = 0 ∧ e.2.1 = none) ∨ (xx ≠ -1 ∧ ∃ z, visL (tL (D i)) V (h.bi (M + 3) (i + 1)) ex = some z ∧ e.1 = 1 ∧ e.2.1 = some (ex, z)) := by
    rw [eex]
    unfold nearE
    rcases ne with ⟨x1, d1⟩ | ⟨j, y, hj, x1, x2, d1⟩
    · exact Or.inl ⟨x1, by rw [d1], by rw [d1]⟩
    · have jb : j < 2147483648 := by
        have := gk.2.2.1
        have := q.1.2.2.2.2.2.2.2.2.2.1
        omega
      rw [x1, if_neg (ni_m1 jb), ni_clp jb]
      exact Or.inr ⟨ni_m1 jb, y, x2, by rw [d1], by rw [d1]⟩
  have lh := near_lh hf ee en
  rcases rd with ⟨lo, x1⟩ | ⟨h3, lo, rd⟩
  · rcases car_look q1 pu hl hi ai1 hj nd (Or.inr (Or.inl rfl)) en lh car lo with ⟨_, y2, D3, ot', ct', rs', kr, q2, y3, y4, y5, y6⟩ | ⟨y1, _⟩
    · exact ⟨y2.trans x1.symm, out_r kr q2 ((ff.mono (by decide) (by decide)).tr (loo_ro lo)) y3 y4 y5 y6⟩
    · exact absurd y1 (by decide)
  · rcases car_look q1 pu hl hi ai1 hj nd (Or.inr (Or.inl rfl)) en lh car lo with ⟨y1, _⟩ | ⟨_, y2, D2, ot', a, kr, q2, y3, y4, y5, y6, y7, y8, y9, y10⟩
    · exact absurd y1 (by decide)
    · have es : h.bi (M + 3) (i + 1) = h3.bi (M + 3) (i + 1) := by rw [← congrFun y10 (i + 1), ff.bi (by decide)]
      obtain ⟨x1, f3, q3⟩ := cpl_near2 (c0 := c0) q2 hi hk hf es er (by rw [y6]; exact ce) rd
      rw [y9] at q3
      exact ⟨y2.trans x1.symm, out_k (l' := l + 1) (k' := k + 1) (r' := r) (Or.inr (Or.inl rfl)) kr q3 (((ff.mono (by decide) (by decide)).tr (loo_ro lo)).tr (f3.mono (by decide) (by decide))) ⟨Nat.le_refl _, Nat.le_refl _, Nat.le_add_right _ _⟩ y3 y4 y5 ⟨y6, y7, y8⟩⟩
theorem op_scan {a z x vv : Int32} {most : Nat} {e : AnD} {A' : Shf} {L' : List Kv} {P' : List Nat} {n' : Nat} (haz : a ≤ z) (m1 : 1 ≤ most) (m2 : most ≤ 100) (room : r + min w 100 ≤ 41200) (q : Cpl h M b c w l v k r clk G fv V ts D ac cm ct rs R) (pu : Pu B V ts D) (hl : l < 512) (hk : k < 512) (hi : i < b) (ai : h.bi (M + 1) (i + 1) = 1) (hj : ac[j]? = some i) (nd : ac.Nodup) (cr : CallR (tL (D i)) V ((D i).1 1001) ((D i).1 1000) (tP (D i)) (tN (D i)) (2, a, z, nI most, 0, 0) L' P' n' e) (car : CarR g' hK p (va_up G 1208 (nI (nr + 1))) fv lr B V ts (vwD D i A' L' P' n') ac cm ot ct rs R cO c' i j c0 (2, a, z, nI most, 0, 0) e vv) (rea : ScaR h M b w l v k r (i + 1) a z most h' x) : vv = x ∧ Out g' h hK h' p M b c w l v k r clk nr G B V ts D ac cm c' i j (2, a, z, nI most, 0, 0) := by
  rcases cr with ⟨z, -⟩ | ⟨z, -⟩ | ⟨-, h1, h2, h3, mo, mm, _, mo1, sa⟩ | ⟨z, -⟩ | ⟨z, -⟩ | ⟨z, -⟩
  case inl | inr.inl | inr.inr.inr.inl | inr.inr.inr.inr.inl | inr.inr.inr.inr.inr => all_goals exact absurd z (by show ¬ ((2 : Int32) = _); decide)
  rw [h1, h2, h3] at car
  have mm : most = mo := (ni_inj (by omega) (by omega)).mp mm
  rw [← mm] at sa
  have st : (D i).1 1001 = h.bi (M + 3) (i + 1) := (q.2.2.2.1 i hi).2.1
  rw [st] at sa
  have sa : ScanA (visL (tL (D i)) V (h.bi (M + 3) (i + 1))) a z most e := sa
  obtain ⟨ha, m, i2, s, n, gk, im, sc, en, nm, ni2, fin, rd⟩ := rea
  have q0 := q.eqv (RfE.ro gk.1 (by decide) (by decide))
  have gs : GkS (ha.bi (M + 12)) w m (ha.bi (M + 35)) := by rw [gk.1.bi (k := 12) (by decide)]; exact gk.2.2.2
  have sa1 : ScanA (visL (tL (D i)) V (ha.bi (M + 3) (i + 1))) a z most e := by rw [gk.1.bi (k := 3) (by decide)]; exact sa
  obtain ⟨R2, ee, ln, rows⟩ := scan_eq (b := b) q0.1.2.2.2.2.2.2.2.2.2.1 q0.1.2.2.2.2.2.2.2.2.2.2.2.1 (q0.2.2.2.2.2.2.2.2.1 i hi) q0.2.2.2.2.2.2.2.2.2.2.1 gs sa1 im sc en nm m2 fin
  have nw : n ≤ min w 100 := by have := gk.2.2.1; omega
  have ff : RfO [33, 34, 35] [1351, 1353] M h s.1 := (gk.1.mono (by decide) (by decide)).tr (sc.1.mono (by decide) (by decide))
  obtain ⟨n2, e2, _, _, same, lst⟩ := sc.2
  have q0' := cpl_scr q0 (sc.1.mono (by decide) (by decide)) same
  have q1 := cpl_G (G' := va_up G 1208 (nI (nr + 1))) q0' (va_up_ne _ _ (by decide))
  have ai1 : s.1.bi (M + 1) (i + 1) = 1 := by rw [ff.bi (by decide)]; exact ai
  have e4 : e.2.2.2 = some (a, s.2.2) := by rw [ee]
  have lh : a.toInt ≤ s.2.2.toInt := by
    rcases lst with ⟨_, z1⟩ | ⟨_, i', _, z1, z2⟩
    · rw [z1]; exact Int32.le_iff_toInt_le.mp haz
    · rw [z2]
      have := z1.1
      rw [Int32.lt_iff_toInt_lt] at this
      omega
  rcases rd with ⟨lo, x1⟩ | ⟨h3, lo, eh, x1⟩
  · rcases car_look q1 pu hl hi ai1 hj nd (Or.inr (Or.inr rfl)) e4 lh car lo with ⟨_, y2, D3, ot', ct', rs', kr, q2, y3, y4, y5, y6⟩ | ⟨y1, _⟩
    · exact ⟨y2.trans x1.symm, out_r kr q2 ((ff.mono (by decide) (by decide)).tr (loo_ro lo)) y3 y4 y5 y6⟩
    · exact absurd y1 (by decide)
  · rcases car_look q1 pu hl hi ai1 hj nd (Or.inr (Or.inr rfl)) e4 lh car lo with ⟨y1, _⟩ | ⟨_, y2, D2, ot', a2, kr, q2, y3, y4, y5, y6, y7, y8, y9, y10⟩
    · exact absurd y1 (by decide)
    · have fl := loo_ro1 lo
      have rows3 : ∀ (x : Nat) (y : Int32 × Int64), R2[x]? = some y → h3.bi (M + 33) (r + x) = y.1 ∧ h3.bw (M + 34) (r + x) = y.2 := by
        intro x y hy
        rw [fl.bi (by decide), fl.bw (by decide)]
        exact rows x y hy
      obtain ⟨f3, q3⟩ := cpl_scan2 (c0 := c0) (e := e) q2 hi hk haz m1 m2 ln nm (by omega) rows3 ⟨by rw [ee], by rw [ee], by rw [ee]⟩ eh
      rw [y9] at q3
      have ev : e.1 = nI n := by rw [ee]
      have e21 : e.2.1 = none := by rw [ee]
      have e3 : e.2.2.1 = R2 := by rw [ee]
      refine ⟨y2.trans (ev.trans x1.symm), ?_⟩
      have kr2 : Kr g' hK p (match e.2.1 with | none => va_up G 1208 (nI (nr + 1)) | some y => va_up (va_up G 1208 (nI (nr + 1))) 1209 y.1) (match e.2.1 with | none => fv | some y => y.2) (some a2) B V ts (clD D2 i (tC (D i) ++ [(c0, (2, a, z, nI most, 0, 0), some e)])) ac cm ot' ct rs e R2 c' := by
        rw [← e3]
        exact kr
      refine out_k (l' := l + 1) (k' := k + 1) (r' := r + n) (Or.inr (Or.inr rfl)) kr2 ?_ (((ff.mono (by decide) (by decide)).tr (loo_ro lo)).tr (f3.mono (by decide) (by decide))) ⟨Nat.le_refl _, Nat.le_refl _, ?_⟩ y3 y4 y5 ⟨y6, y7, y8⟩
      · rw [e21]
        exact q3
      · show r + n ≤ r + (if (2 : Int32) = 2 then min w 100 else 0)
        rw [if_pos rfl]
        omega
end OPS2
