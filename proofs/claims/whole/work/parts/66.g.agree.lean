/-! all of it -/
theorem bz_2 (x : Int32) : bz x = 0 ∨ bz x = 1 := by
  unfold bz
  by_cases z : x = 0
  · rw [if_pos z]; exact Or.inl rfl
  · rw [if_neg z]; exact Or.inr rfl
theorem nil_get {α : Type} {P : Prop} {i : Nat} {x : α} (e : ([] : List α)[i]? = some x) : P := by
  rw [List.getElem?_nil] at e
  cases e
theorem inv_step {se : Nat × Nat} {X M O N j c1 s1 : Nat} {h : Hp} (I : Inv se X M O j h c1 s1) (hj1 : j + 1 ≤ 512) (hN : 1000000 < N) (op a b c d : Int32) : Lst N X M O h op a b c d (fun h9 c2 s2 => Inv se X M O (j + 1) h9 (c1 + c2) (s1 + s2)) := by
  unfold Lst
  by_cases c0 : op = 0
  · rw [if_pos c0]; exact s_begin I hj1 hN (bz_2 _)
  rw [if_neg c0]
  by_cases c1 : op = 1
  · rw [if_pos c1]; exact s_read I hj1 hN _ _
  rw [if_neg c1]
  by_cases c2 : op = 2
  · rw [if_pos c2]; exact s_near I hj1 hN _ _ (bz_2 _)
  rw [if_neg c2]
  by_cases c3 : op = 3
  · rw [if_pos c3]; exact s_value I hj1
  rw [if_neg c3]
  by_cases c4 : op = 4
  · rw [if_pos c4]; exact s_key I hj1
  rw [if_neg c4]
  by_cases c5 : op = 5
  · rw [if_pos c5]; exact s_scan I hj1 hN _ _ _ _
  rw [if_neg c5]
  by_cases c6 : op = 6
  · rw [if_pos c6]; exact s_rowKey I hj1 _
  rw [if_neg c6]
  by_cases c7 : op = 7
  · rw [if_pos c7]; exact s_rowValue I hj1 _
  rw [if_neg c7]
  by_cases c8 : op = 8
  · rw [if_pos c8]; exact s_write I hj1 hN _ _ _
  rw [if_neg c8]
  by_cases c9 : op = 9
  · rw [if_pos c9]; exact s_remove I hj1 hN _ _
  rw [if_neg c9]
  by_cases c10 : op = 10
  · rw [if_pos c10]; exact s_save I hj1 hN _
  rw [if_neg c10]
  by_cases c11 : op = 11
  · rw [if_pos c11]; exact s_undo I hj1 hN _ _
  rw [if_neg c11]
  by_cases c12 : op = 12
  · rw [if_pos c12]; exact s_commit I hj1 hN _
  rw [if_neg c12]
  by_cases c13 : op = 13
  · rw [if_pos c13]; exact s_abort I hj1 hN _
  rw [if_neg c13]
  by_cases c14 : op = 14
  · rw [if_pos c14]; exact s_told I hj1 hN _ _
  rw [if_neg c14]
  by_cases c15 : op = 15
  · rw [if_pos c15]; exact s_why I hj1 _
  rw [if_neg c15]
  by_cases c16 : op = 16
  · rw [if_pos c16]; exact s_version I hj1 hN _ _ _
  rw [if_neg c16]
  by_cases c17 : op = 17
  · rw [if_pos c17]; exact s_versionValue I hj1 hN _ _
  rw [if_neg c17]
  by_cases c18 : op = 18
  · rw [if_pos c18]; exact s_count I hj1 hN _
  rw [if_neg c18]
  by_cases c19 : op = 19
  · rw [if_pos c19]; exact s_astray I hj1 hN
  rw [if_neg c19]
  obtain ⟨g, p, G, fv, lr, B, V, ts, D, ac, cm, ot, ct, rs, d0, R, cO, b, c, w, l, v, k, r, clk, nr, a, a0, sc, K, s, q, x, rm⟩ := I
  exact step_id K s (RfO.rf [] [] M h) (Fm.rf h) q x rm hj1 (Nat.le_succ _) (Nat.le_succ _) (by omega)
theorem inv_lk {se : Nat × Nat} {X M O j c1 s1 : Nat} {h : Hp} (I : Inv se X M O j h c1 s1) : Lk h se X M O ∧ c1 ≤ 601024 ∧ s1 ≤ 7293034 := by
  obtain ⟨g, p, G, fv, lr, B, V, ts, D, ac, cm, ot, ct, rs, d0, R, cO, b, c, w, l, v, k, r, clk, nr, a, a0, sc, K, s, q, x, rm⟩ := I
  obtain ⟨z1, z2, z3, z4, z5, z6, z7, z8⟩ := s
  obtain ⟨⟨x1, x2, x3, x4, x5, x6, x7, x8, x9, x10⟩, _, _, _, _, _, x14, x15, x16, x17⟩ := x
  obtain ⟨r1, r2, r3⟩ := rm
  refine ⟨⟨by rw [← z2]; exact K.1.1, z4.1, z6, z7, z8⟩, by omega, by omega⟩
theorem kr_p12 {g p : Nat → Nat} {h : Hp} {G : Nat → Int32} {fv : Int64} {lr : Option Nat} {B : Shf} {V : List Kv} {ts : List Nat} {D : Nat → TD} {ac cm ot : List Nat} {ct rs : Nat → Int32} {d0 : AnD} {R : List (Int32 × Int64)} {cO O : Nat} (q : Kr g h p G fv lr B V ts D ac cm ot ct rs d0 R cO) (hO : O < h.nx) (gO : g O = O) : Kr g h (va_up p 12 O) G fv lr B V ts D ac cm ot ct rs d0 R cO := by
  have e0 : va_up p 12 O 0 = p 0 := va_up_ne _ _ (by decide)
  have e1 : va_up p 12 O 1 = p 1 := va_up_ne _ _ (by decide)
  have e2 : va_up p 12 O 2 = p 2 := va_up_ne _ _ (by decide)
  have e3 : va_up p 12 O 3 = p 3 := va_up_ne _ _ (by decide)
  have e4 : va_up p 12 O 4 = p 4 := va_up_ne _ _ (by decide)
  have e5 : va_up p 12 O 5 = p 5 := va_up_ne _ _ (by decide)
  have e6 : va_up p 12 O 6 = p 6 := va_up_ne _ _ (by decide)
  have e7 : va_up p 12 O 7 = p 7 := va_up_ne _ _ (by decide)
  have e8 : va_up p 12 O 8 = p 8 := va_up_ne _ _ (by decide)
  have e9 : va_up p 12 O 9 = p 9 := va_up_ne _ _ (by decide)
  have e10 : va_up p 12 O 10 = p 10 := va_up_ne _ _ (by decide)
  have e11 : va_up p 12 O 11 = p 11 := va_up_ne _ _ (by decide)
  have e12 : va_up p 12 O 12 = O := va_up_self _ _ _
  unfold Kr KX KS KT KN at q ⊢
  simp only [e0, e1, e2, e3, e4, e5, e6, e7, e8, e9, e10, e11, e12]
  obtain ⟨⟨a1, a2, a3, a4, a5, a6, a7, a8, a9, a10, a11, a12, a13, _, _⟩, rest⟩ := q
  exact ⟨⟨a1, a2, a3, a4, a5, a6, a7, a8, a9, a10, a11, a12, a13, hO, gO⟩, rest⟩
theorem cpl_init {h : Hp} {M : Nat} {G : Nat → Int32} {D : Nat → TD} (gi : ∀ f, h.gi f M = 0) (gl : ∀ f, h.gl f M = 0) (bz : ∀ j, 1 ≤ j → j ≤ 46 → h.bi (M + j) = (fun _ => 0) ∧ h.bw (M + j) = fun _ => 0) (g9 : G 1209 = 0) : Cpl h M 0 0 0 0 0 0 0 0 G 0 [] [] D [] [] (fun _ => 0) (fun _ => 0) [] := by
  have b4 : h.bi (M + 4) = fun _ => 0 := (bz 4 (by decide) (by decide)).1
  have b7 : h.bi (M + 7) = fun _ => 0 := (bz 7 (by decide) (by decide)).1
  have b8 : h.bi (M + 8) = fun _ => 0 := (bz 8 (by decide) (by decide)).1
  have b9 : h.bi (M + 9) = fun _ => 0 := (bz 9 (by decide) (by decide)).1
  have b15 : h.bi (M + 15) = fun _ => 0 := (bz 15 (by decide) (by decide)).1
  have b29 : h.bi (M + 29) = fun _ => 0 := (bz 29 (by decide) (by decide)).1
  have no : ∀ {P : Prop} {i : Nat}, i < 0 → P := fun z => absurd z (Nat.not_lt_zero _)
  refine ⟨⟨gi _, gi _, gi _, gi _, gi _, gi _, gi _, by decide, by decide, by decide, by decide, by decide, by decide, by decide⟩, rfl, rfl, fun i hi => no hi, ⟨fun t t' h1 h2 h3 => absurd h1 (by omega), fun t h1 h2 => absurd h1 (by omega)⟩, ⟨fun t _ _ => by rw [b4, b7, b8, b9]; exact ⟨rfl, rfl, rfl, rfl⟩, fun j _ _ => by rw [b15], fun j hj => no hj, fun j _ _ => by rw [b29], fun j hj => no hj⟩, ⟨fun i => ⟨(fun z => nomatch z), fun z => no z.1⟩, fun m i z => nil_get z, fun i hi => no hi⟩, fun i hi => no hi, fun i hi => no hi, ⟨fun i hi => no hi, fun i hi => no hi, fun i hi => no hi⟩, ⟨rfl, ⟨fun i hi => no hi, fun i hi => no hi⟩, fun j x z => nil_get z⟩, ⟨fun i hi => no hi, fun j hj => no hj⟩, fun s s1 s2 => ?_, ⟨(gi _).symm, (gi _).symm, (gi _).symm, (gi _).symm, g9.trans (gi _).symm, (gl _).symm⟩, ⟨0, gi _, gi _, Nat.zero_le _, Nat.le_refl _, fun i y z => nil_get z⟩, ⟨gi _, fun t h1 h2 => absurd h1 (by omega), fun i hi => no hi⟩⟩
  rw [cntQ_shift (fun z => absurd z.1 (by decide))]
  rfl
theorem agree : Agree := by
  intro n0 se L xs hL hse
  obtain ⟨N, hN⟩ : ∃ N : Nat, 1000000 < N := ⟨2000000, by decide⟩
  have w0 : Wf id (he n0 se) := ⟨fun _ _ => rfl, rfl, hse, fun a => Nat.le_refl _, fun a _ => rfl⟩
  have F0 := Fr.new w0 n0 12 0 14 n0 (Nat.le_refl _)
  have nA : ((he n0 se).new 12 0 14).nx = n0 + 1 := rfl
  have uA : ((he n0 se).new 12 0 14).su = 14 := rfl
  have sA : ((he n0 se).new 12 0 14).se = se := rfl
  have kA : ((he n0 se).new 12 0 14).kd n0 = 12 := new_kd (h := he n0 se) (n := 0) (sl := 14)
  have gA : va_up id n0 n0 n0 = n0 := va_up_self _ _ _
  obtain ⟨h1, g1, p, G, d0, j1, pX, K1, w1, g8, g9, g12, g13, n1, u1⟩ := kr_init F0.wf kA gA N (fun _ => default)
  have mo1 := mo_X9_init _ _ _ j1
  have FB := Fr.new w1 h1.nx 13 0 67 h1.nx (Nat.le_refl _)
  have KB := K1.new w1 (Nat.le_refl _) FB
  have nB : (h1.new 13 0 67).nx = h1.nx + 1 := rfl
  have uB : (h1.new 13 0 67).su = h1.su + 67 := rfl
  have sB : (h1.new 13 0 67).se = h1.se := rfl
  obtain ⟨h2, j2, rk2, gi2, gl2, bz2, n2, u2, kz2⟩ := rf_init N h1.nx (h := h1.new 13 0 67) (new_kd (n := 0) (sl := 67)) rfl (fun f => by rw [pj_new_gi, if_pos rfl]) (fun f => by rw [pj_new_gl, if_pos rfl]) FB.wf.1
  have fm := fo_X10_init _ _ _ j2
  have mo2 := mo_X10_init _ _ _ j2
  have wB := FB.wf
  have w2 : Wf (va_up g1 h1.nx h1.nx) h2 := by
    refine ⟨kz2, ?_, ?_, wB.2.2.2.1, fun a ha => wB.2.2.2.2 a (Nat.le_trans mo2.2.1 ha)⟩
    · rw [mo2.2.2.2.1, mo2.1 _ wB.2.2.1]
      exact wB.2.1
    · rw [mo2.2.2.2.1]
      exact Nat.lt_of_lt_of_le wB.2.2.1 mo2.2.1
  have F2 : Fr (va_up g1 h1.nx h1.nx) (va_up g1 h1.nx h1.nx) (h1.new 13 0 67).nx (h1.new 13 0 67) h2 := ⟨fun _ _ => rfl, fun a ha _ => ⟨fun y => fm.2.1 y a ha, fun y => fm.2.2.1 y a ha, fun y => fm.2.2.2.1 y a ha, fm.2.2.2.2.1 a ha, fm.2.2.2.2.2.1 a ha, fm.2.2.2.2.2.2 a ha⟩, mo2, w2⟩
  have K2 := KB.new wB (Nat.le_refl _) F2
  have FO := Fr.new w2 h2.nx 21 1 1 h2.nx (Nat.le_refl _)
  have K3 := K2.new w2 (Nat.le_refl _) FO
  have nO : (h2.new 21 1 1).nx = h2.nx + 1 := rfl
  have K4 := kr_p12 (O := h2.nx) K3 (by omega) (va_up_self _ _ _)
  have fO := Fc.new h2 21 1 1
  have q2 := cpl_init (G := G) (D := fun _ => default) gi2 gl2 bz2 g9
  have q3 := q2.eqv (RfE.cls fO (by omega))
  refine ⟨N, h1, h2, Inv se n0 h1.nx h2.nx, j1, j2, ?_, fun j h c1 s1 I => inv_lk I, fun j h c1 s1 h5 I => inv_step I (by omega) hN _ _ _ _ _⟩
  refine ⟨_, _, _, _, _, _, _, _, _, _, _, _, _, _, _, _, _, _, _, _, _, _, _, _, _, 0, 0, 0, 0, K4, ⟨FO.wf, (va_up_ne _ _ (by decide)).trans pX, va_up_self _ _ _, rk2.cls FO.2.2.1 fO (by omega), by omega, new_kd (n := 1) (sl := 1), by rw [pj_new_al, if_pos rfl], ?_⟩, q3, ⟨⟨g8, Nat.le_refl _, Nat.le_refl _, Nat.le_refl _, Nat.le_refl _, Nat.le_refl _, Nat.le_refl _, Nat.zero_le _, Nat.le_refl _, Nat.zero_le _⟩, ⟨List.Pairwise.nil, Nat.zero_le _, (fun u hu => nomatch hu)⟩, ⟨Nat.le_refl _, Nat.le_refl _⟩, fun i hi => absurd hi (Nat.not_lt_zero _), fun i hi => absurd hi (Nat.not_lt_zero _), (fun i hi => nomatch hi), g12, Nat.le_refl _, Nat.le_refl _, fun _ => ?_⟩, ⟨?_, ?_, Nat.zero_le _⟩⟩
  · show h2.se = se
    rw [mo2.2.2.2.1, sB, mo1.2.2.2.1, sA]
  · rw [g13]
    exact ⟨[], fun i x z => nil_get z, Or.inr ⟨rfl, [], 0, ⟨rfl, rfl⟩, rfl⟩⟩
  · show h2.nx + 1 - n0 + 3 * 0 + 12 * 0 ≤ _
    omega
  · show h2.su + 1 + 9000 * 0 ≤ _
    omega
