/-! begin, commit, abort -/
theorem own_len {h : Hp} {M w t n m : Nat} {L : List Kv} {P : List Nat} {As : Shf} {Ak : Nat → Int32} (hw : w ≤ 512) (ow : OwnR h M w t L P n) (hs : Srt As) (hn : ∀ y ∈ As, y.2 ≠ []) (bk : BkL As L) (gs : GkS (h.bi (M + 12)) w m Ak) : As.length = ownN h M w t Ak m := by
  have ownsI : ∀ k, owns h M w t k ↔ chn L k ≠ [] := fun k => own_eq hw ow k
  have ke : As.map (fun y => y.1) = okL h M w t Ak m := by
    refine sorted_eq _ _ ?_ (okL_srt t gs.1 m (Nat.le_refl _)) (fun z => ?_)
    · rw [List.pairwise_map]
      refine List.pairwise_iff_getElem.mpr (fun i j hi hj hij => ?_)
      have := hs i j As[i] As[j] hij (List.getElem?_eq_getElem hi) (List.getElem?_eq_getElem hj)
      rw [Int32.lt_iff_toInt_lt] at this
      exact this
    · rw [okL_mem, List.mem_map]
      constructor
      · rintro ⟨y, y1, y2⟩
        have lk : look As y.1 = y.2 := look_mem hs (by rw [Prod.eta]; exact y1)
        have ne : chn L z ≠ [] := by
          rw [← bk, ← y2, lk]
          exact hn y y1
        have o := (ownsI z).mpr ne
        obtain ⟨e, e1, e2⟩ := o
        obtain ⟨j, j1, j2⟩ := (gs.2 z).mpr ⟨e, e1, e2.2.1⟩
        exact ⟨j, j1, by rw [j2]; exact ⟨e, e1, e2⟩, j2⟩
      · rintro ⟨j, j1, j2, j3⟩
        rw [j3, ownsI, ← bk] at j2
        obtain ⟨i, hi⟩ := look_some hs j2
        exact ⟨_, List.mem_of_getElem? hi, rfl⟩
  rw [← okL_len, ← ke, List.length_map]
section END
variable {se : Nat × Nat} {X M O : Nat} {g g1 p : Nat → Nat} {h h0 h1 h2 ht hR : Hp} {G : Nat → Int32} {fv : Int64} {lr : Option Nat} {B : Shf} {V : List Kv} {ts : List Nat} {D D' : Nat → TD} {ac ac' cm ot ot' : List Nat} {ct ct' rs rs' : Nat → Int32} {d0 : AnD} {R : List (Int32 × Int64)} {cO b c w l v k r clk nr j a a0 sc c1 s1 : Nat}
/-- i ends; all else stays -/
theorem ex_end {clk2 jj i : Nat} (q : Cpl h M b c w l v k r clk2 G fv V ts D ac cm ct rs R) (x : Ex G B V ts D ac cm ot b c w l k r clk nr j a a0 sc) (hj1 : j + 1 ≤ 512) (hclk : clk2 ≤ clk + 1) (hjj : ac[jj]? = some i) (q' : Cpl hR M b c w l v k r clk2 G fv V ts D' (ac.eraseIdx jj) cm ct' rs' R) (e3 : hR.bi (M + 3) = h.bi (M + 3)) (hot : ∀ u ∈ ot', u < ts.length) (e : ∀ u, (D' u).2 = (D u).2) : Ex G B V ts D' (ac.eraseIdx jj) cm ot' b c w l k r clk2 nr (j + 1) a a0 sc ∧ ((ac.eraseIdx jj).map (fun i => tN (D' i))).sum + tN (D i) = (ac.map (fun i => tN (D i))).sum := by
  obtain ⟨⟨x1, x2, x3, x4, x5, x6, x7, x8, x9, x10⟩, ⟨y1, y2, y3⟩, ⟨z1, z2⟩, x11, x12, x13, x14, x15, x16, x17⟩ := x
  have sub : (ac.eraseIdx jj).Sublist ac := List.eraseIdx_sublist _ _
  have acl := sub.length_le
  have sm : ((ac.eraseIdx jj).map (fun i => tN (D' i))).sum + tN (D i) = (ac.map (fun i => tN (D i))).sum := by
    rw [← sum_idx (fun i => tN (D i)) hjj]
    rw [smc_con (fun i => tN (D i)) (fun i => tN (D' i)) (fun u _ => by show (D' u).2.2.2.2.2.1 = _; rw [e u])]
  have sf : sumF (fun i => (tC (D' i)).length) b = sumF (fun i => (tC (D i)).length) b := sumF_con (fun u _ => by show (D' u).2.2.2.2.2.2.2.length = _; rw [e u])
  refine ⟨⟨⟨x1, x2, by omega, x4, x5, x6, by omega, x8, by omega, hj1⟩, ⟨y1.sublist sub, by omega, hot⟩, ⟨by omega, by omega⟩, fun u hu => ?_, fun u hu => ?_, fun u hu => ?_, x14, x15, x16, fun z => ?_⟩, sm⟩
  · show (D' u).2.2.2.1.length ≤ (D' u).2.2.2.2.2.1 ∧ (D' u).2.2.2.2.2.1 ≤ nr ∧ StB (D' u).2.2.2.1 (D' u).2.2.2.2.2.1 ∧ (D' u).2.2.2.2.2.2.1.length ≤ nr
    rw [e u]
    exact x11 u hu
  · have f1 : (D' u).1 1000 = (D u).1 1000 := (q'.2.2.2.1 u hu).1.trans (q.2.2.2.1 u hu).1.symm
    rw [f1]
    show runL ((D u).1 1000) (D' u).2.2.2.2.2.2.2 ([], [], 0) = ((D' u).2.2.2.1, (D' u).2.2.2.2.1, (D' u).2.2.2.2.2.1)
    rw [e u]
    exact x12 u hu
  · show ∀ key, chn (D' u).2.2.2.1 key ≠ [] → chn V key ≠ []
    rw [e u]
    exact x13 u hu
  · exact astR_con (fld_cm q q' e3 (fun u _ => e u)) (x17 z)
/-- i is committed -/
theorem ex_com {B' : Shf} {v2 clk2 jj i : Nat} {mo o : Int32} (q : Cpl h M b c w l v k r clk2 G fv V ts D ac cm ct rs R) (x : Ex G B V ts D ac cm ot b c w l k r clk nr j a a0 sc) (hj1 : j + 1 ≤ 512) (hclk : clk2 ≤ clk + 1) (hi : i < b) (hjj : ac[jj]? = some i) (hs : Srt (tA (D i))) (hn : ∀ y ∈ tA (D i), y.2 ≠ []) (bk : BkL (tA (D i)) (tL (D i))) (q' : Cpl hR M b (c + 1) w l v2 k r clk2 G fv (V ++ inst (tA (D i)) mo o) ts D' (ac.eraseIdx jj) (cm ++ [i]) ct' rs' R) (hot : ∀ u ∈ ot', u < ts.length) (e : ∀ u, (D' u).2 = (D u).2) : Ex G B' (V ++ inst (tA (D i)) mo o) ts D' (ac.eraseIdx jj) (cm ++ [i]) ot' b (c + 1) w l k r clk2 nr (j + 1) a a0 sc ∧ ((ac.eraseIdx jj).map (fun i => tN (D' i))).sum + tN (D i) = (ac.map (fun i => tN (D i))).sum := by
  obtain ⟨⟨x1, x2, x3, x4, x5, x6, x7, x8, x9, x10⟩, ⟨y1, y2, y3⟩, ⟨z1, z2⟩, x11, x12, x13, x14, x15, x16, x17⟩ := x
  have sub : (ac.eraseIdx jj).Sublist ac := List.eraseIdx_sublist _ _
  have acl : (ac.eraseIdx jj).length + 1 = ac.length := by
    have := (List.getElem?_eq_some_iff.mp hjj).1
    rw [List.length_eraseIdx_of_lt this]
    omega
  have al : (tA (D i)).length ≤ tN (D i) := by
    rw [bk_len hs hn bk]
    exact Nat.le_trans (nk_le _) (x11 i hi).1
  have sm : ((ac.eraseIdx jj).map (fun i => tN (D' i))).sum + tN (D i) = (ac.map (fun i => tN (D i))).sum := by
    rw [← sum_idx (fun i => tN (D i)) hjj]
    rw [smc_con (fun i => tN (D i)) (fun i => tN (D' i)) (fun u _ => by show (D' u).2.2.2.2.2.1 = _; rw [e u])]
  have sf : sumF (fun i => (tC (D' i)).length) b = sumF (fun i => (tC (D i)).length) b := sumF_con (fun u _ => by show (D' u).2.2.2.2.2.2.2.length = _; rw [e u])
  refine ⟨⟨⟨x1, x2, by omega, x4, x5, x6, by omega, x8, by omega, hj1⟩, ⟨y1.sublist sub, by omega, hot⟩, ⟨?_, by omega⟩, fun u hu => ?_, fun u hu => ?_, fun u hu key ne => ?_, x14, x15, by omega, fun z => by omega⟩, sm⟩
  · rw [List.length_append, inst_len]
    omega
  · show (D' u).2.2.2.1.length ≤ (D' u).2.2.2.2.2.1 ∧ (D' u).2.2.2.2.2.1 ≤ nr ∧ StB (D' u).2.2.2.1 (D' u).2.2.2.2.2.1 ∧ (D' u).2.2.2.2.2.2.1.length ≤ nr
    rw [e u]
    exact x11 u hu
  · have f1 : (D' u).1 1000 = (D u).1 1000 := (q'.2.2.2.1 u hu).1.trans (q.2.2.2.1 u hu).1.symm
    rw [f1]
    show runL ((D u).1 1000) (D' u).2.2.2.2.2.2.2 ([], [], 0) = ((D' u).2.2.2.1, (D' u).2.2.2.2.1, (D' u).2.2.2.2.2.1)
    rw [e u]
    exact x12 u hu
  · have ne : chn (D' u).2.2.2.1 key ≠ [] := ne
    rw [e u] at ne
    rw [chn_app]
    rcases List.mem_append.mp hu with hu | hu
    · intro z
      exact x13 u hu key ne (List.append_eq_nil_iff.mp z).2
    · rw [List.mem_singleton.mp hu] at ne
      rcases chn_inst hs hn bk mo o key with ⟨z, _⟩ | ⟨e1, L', _, z⟩
      · exact absurd z ne
      · intro y
        rw [z] at y
        exact nomatch y
theorem ex_begin {t : Nat} {y : TD} (q : Cpl h M b c w l v k r clk G fv V ts D ac cm ct rs R) (x : Ex G B V ts D ac cm ot b c w l k r clk nr j a a0 sc) (hj1 : j + 1 ≤ 512) (full : ac.length < 24) (yL : tL y = []) (yP : tP y = []) (yN : tN y = 0) (yS : tS y = []) (yC : tC y = []) : Ex (va_up G 1208 (nI (nr + 1))) B V (ts ++ [t]) (va_up D b y) (ac ++ [b]) cm ot (b + 1) c w l k r (clk + 1) (nr + 1) (j + 1) a a0 sc ∧ ((ac ++ [b]).map (fun i => tN (va_up D b y i))).sum = (ac.map (fun i => tN (D i))).sum := by
  have ki := ex_ki q x
  obtain ⟨⟨x1, x2, x3, x4, x5, x6, x7, x8, x9, x10⟩, ⟨y1, y2, y3⟩, ⟨z1, z2⟩, x11, x12, x13, x14, x15, x16, x17⟩ := x
  have dn : ∀ {u : Nat}, u < b → va_up D b y u = D u := fun hu => va_up_ne _ _ (Nat.ne_of_lt hu)
  have acb : ∀ u ∈ ac, u < b := fun u hu => by have := ki.2.2.1 u hu; rw [q.2.1] at this; exact this
  have cmb : ∀ u ∈ cm, u < b := fun u hu => by have := ki.2.2.2.2.1 u hu; rw [q.2.1] at this; exact this
  have sm : ((ac ++ [b]).map (fun i => tN (va_up D b y i))).sum = (ac.map (fun i => tN (D i))).sum := by
    rw [List.map_append, List.sum_append]
    show _ + (tN (va_up D b y b) + 0) = _
    rw [va_up_self, yN, smc_con (fun i => tN (D i)) (fun i => tN (va_up D b y i)) (fun u hu => by show tN (va_up D b y u) = _; rw [dn (acb u hu)])]
    rfl
  have sf : sumF (fun i => (tC (va_up D b y i)).length) (b + 1) = sumF (fun i => (tC (D i)).length) b := by
    show sumF (fun i => (tC (va_up D b y i)).length) b + (tC (va_up D b y b)).length = _
    rw [va_up_self, yC, sumF_con (g := fun i => (tC (D i)).length) (fun u hu => by show (tC (va_up D b y u)).length = _; rw [dn hu])]
    rfl
  refine ⟨⟨⟨va_up_self _ _ _, by omega, by omega, by omega, by omega, by omega, by omega, x8, ?_, hj1⟩, ⟨?_, ?_, fun u hu => ?_⟩, ⟨by omega, by omega⟩, fun u hu => ?_, fun u hu => ?_, fun u hu => ?_, (va_up_ne _ _ (by decide)).trans x14, x15, x16, fun z => ?_⟩, sm⟩
  · rw [List.length_append]; show c + (ac.length + 1) ≤ b + 1; omega
  · refine List.pairwise_append.mpr ⟨y1, List.pairwise_singleton _ _, fun u hu v hv => ?_⟩
    rw [List.mem_singleton.mp hv]
    exact acb u hu
  · rw [List.length_append]; show ac.length + 1 ≤ 24; omega
  · rw [List.length_append]
    have := y3 u hu
    show u < ts.length + 1
    omega
  · by_cases e : u = b
    · rw [e, va_up_self, yL, yN, yS]
      exact ⟨Nat.le_refl _, Nat.zero_le _, (fun z hz => nomatch hz), Nat.zero_le _⟩
    · rw [dn (by omega)]
      obtain ⟨a1, a2, a3, a4⟩ := x11 u (by omega)
      exact ⟨a1, by omega, a3, by omega⟩
  · by_cases e : u = b
    · rw [e, va_up_self, yL, yN, yP, yC]
      rfl
    · rw [dn (by omega)]
      exact x12 u (by omega)
  · rw [dn (cmb u hu)]
    exact x13 u hu
  · rw [va_up_ne _ _ (by decide)]
    exact astR_con (fun u hu => by rw [dn (cmb u hu)]; exact ⟨rfl, rfl, rfl, rfl⟩) (x17 z)
end END
section SOP2
variable {se : Nat × Nat} {X M O N j c1 s1 : Nat} {h : Hp}
theorem s_abort (I : Inv se X M O j h c1 s1) (hj1 : j + 1 ≤ 512) (hN : 1000000 < N) (p0 : Int32) : S_abort N X M O h p0 (fun h9 c2 s2 => Inv se X M O (j + 1) h9 (c1 + c2) (s1 + s2)) := by
  unfold S_abort
  obtain ⟨g, p, G, fv, lr, B, V, ts, D, ac, cm, ot, ct, rs, d0, R, cO, b, c, w, l, v, k, r, clk, nr, a, a0, sc, K, s, q, x, rm⟩ := I
  have eX := s.2.1
  by_cases na : NoAct ts D p0
  · refine Or.inr ⟨h, by rw [← eX]; exact (kr_X K N na 0 0 0 0).2.2.2.2.2.2.2.2, fun n1 hn => ?_⟩
    have jm := rf_abortX (s.2.2.2.1.thr n1) (cpl_thr q n1).1 N (no_act (cpl_thr q n1) na)
    exact ⟨_, jm, tk_0 _ _ _, step_thr K s hn tk.ro (fo_X10_abort _ _ _ _ jm) (cpl_tk (cpl_thr q n1) 1) x rm hj1 (Nat.le_refl _)⟩
  · obtain ⟨i, t, jj, e0, hi, hti, hjj, st, ai⟩ := is_act q na
    have ki := ex_ki q x
    have nd := ex_nd x
    obtain ⟨h1, jx, K1, w1, n1, u1⟩ := kr_abort K s.1 N (by omega) e0 hti st hjj nd ki.2.2.1
    rw [eX] at jx
    obtain ⟨s1', e1⟩ := sd_cls s (mo_X9_abort _ _ _ _ jx) (fo_X9_abort _ _ _ _ jx) w1
    have q0 := q.eqv e1
    have q1 := cpl_tk q0 0
    have ai0 : h1.bi (M + 1) (i + 1) = 1 := by
      rw [e1.1 1 (by decide)]
      exact ai
    obtain ⟨h2, jm, jd⟩ := rf_abort s1'.2.2.2.1 q0.1 N (by omega) (cpl_pos q0) (t := i + 1) (by omega) (by omega) ai0
    rw [← e0] at jm
    have q2 := cpl_end (s := 3) (h2 := h2) q1 hi (by rw [tk.ro.bi (by decide)]; exact ai0) hjj nd (Or.inl rfl) (by rw [tk.clock]; exact jd)
    have f : RfO [1, 6, 7] [1300, 1313] M h1 h2 := ((tk.ro.mono (fun _ z => nomatch z) (by decide)).tr ((RfO.sbi (k := 1) (by decide) _ _).tr (RfO.sbi (k := 6) (by decide) _ _))).tr (jd.1.mono (by decide) (fun _ z => nomatch z))
    obtain ⟨K2, s2'⟩ := sd_ref K1 s1' f (fo_X10_abort _ _ _ _ jm)
    have no : i ∉ ac.eraseIdx jj := fun z => ((mem_out nd hjj).mp z).2 rfl
    obtain ⟨x', sm⟩ := ex_end (ot' := ot) q1 x hj1 (Nat.le_refl _) hjj q2 (by rw [f.bi (by decide)]; exact (tk.ro.bi (by decide)).symm) x.2.1.2.2 (endD_2 no)
    have n2 : h2.nx = h1.nx := f.1
    have u2 : h2.su = h1.su := f.2.1
    obtain ⟨r1, r2, r3⟩ := rm
    refine Or.inl ⟨h1, h2, jx, jm, ?_, _, _, _, _, _, _, _, _, _, _, _, _, _, _, _, _, _, _, _, _, _, _, _, _, _, _, _, _, _, K2, s2', q2, x', by omega, by omega, r3⟩
    rw [jd.1.gi (fun z => nomatch z), pj_sbi_gi, pj_sbi_gi]
    exact tk_0 _ _ _
theorem s_commit (I : Inv se X M O j h c1 s1) (hj1 : j + 1 ≤ 512) (hN : 1000000 < N) (p0 : Int32) : S_commit N X M O h p0 (fun h9 c2 s2 => Inv se X M O (j + 1) h9 (c1 + c2) (s1 + s2)) := by
  unfold S_commit
  obtain ⟨g, p, G, fv, lr, B, V, ts, D, ac, cm, ot, ct, rs, d0, R, cO, b, c, w, l, v, k, r, clk, nr, a, a0, sc, K, s, q, x, rm⟩ := I
  have eX := s.2.1
  by_cases na : NoAct ts D p0
  · refine Or.inr ⟨h, by rw [← eX]; exact (kr_X K N na 0 0 0 0).2.2.2.2.2.2.2.1, fun n1 hn => ?_⟩
    have jm := rf_commitX (s.2.2.2.1.thr n1) (cpl_thr q n1).1 N (no_act (cpl_thr q n1) na)
    exact ⟨_, _, jm, tk_0 _ _ _, step_thr K s hn tk.ro (fo_X10_commit _ _ _ _ jm) (cpl_tk (cpl_thr q n1) 1) x rm hj1 (Nat.le_refl _)⟩
  · obtain ⟨i, t, jj, e0, hi, hti, hjj, st, ai⟩ := is_act q na
    have ki := ex_ki q x
    have nd := ex_nd x
    have pu := K.pu
    have x1 := x.1
    have b5 := q.1.2.2.2.2.2.2.2.1
    have c5 := q.1.2.2.2.2.2.2.2.2.1
    have w5 := q.1.2.2.2.2.2.2.2.2.2.1
    obtain ⟨pa, pn, pb, _⟩ := pu.2.2.2.2 i (by rw [q.2.1]; exact hi)
    have al : (tA (D i)).length ≤ tN (D i) := by
      rw [bk_len pa pn pb]
      exact Nat.le_trans (nk_le _) (x.2.2.2.1 i hi).1
    have sx : ((ac.eraseIdx jj).map (fun i => tN (D i))).sum + tN (D i) = (ac.map (fun i => tN (D i))).sum := sum_idx (fun i => tN (D i)) hjj
    have vl := q.2.2.2.2.2.2.2.2.2.2.1.1
    have z1 := x.2.2.1.1
    have hy : v + (tA (D i)).length ≤ 512 := by omega
    obtain ⟨_, _, _, h8, ss, es, hsc, _⟩ := q.2.2.2.2.1.2 (i + 1) (by omega) (by omega)
    have es : (D i).1 1001 = nI ss := (q.2.2.2.1 i hi).2.1.trans es
    have hsc : ss ≤ cm.length := by rw [q.2.2.1]; exact hsc
    obtain ⟨h1, g', vv, c', jx, w1, rc, cr⟩ := kr_commit K s.1 ki (by omega) N (by omega) e0 hti st hjj es hsc x.2.1.2.1 (by rw [q.2.2.1]; exact c5)
    rw [eX] at jx
    have m1 := mo_X9_commit _ _ _ _ jx
    obtain ⟨s1', e1⟩ := sd_cls s m1 (fo_X9_commit _ _ _ _ jx) w1
    have q0 := q.eqv (e1.tr (RfE.saw M h1 O 0 vv.toInt64))
    have q1 := cpl_tk q0 0
    have rk0 : Rk (h1.saw O 0 vv.toInt64) M := s1'.2.2.2.1.saw O 0 _
    have ai0 : (h1.saw O 0 vv.toInt64).bi (M + 1) (i + 1) = 1 := by
      rw [(e1.tr (RfE.saw M h1 O 0 vv.toInt64)).1 1 (by decide)]
      exact ai
    have ai1 : (tk (h1.saw O 0 vv.toInt64) M 0).bi (M + 1) (i + 1) = 1 := by
      rw [tk.ro.bi (by decide)]
      exact ai0
    have room : ∀ s2 m, GkR (cmt1 (tk (h1.saw O 0 vv.toInt64) M 0) M c (i + 1)) M w m s2 → v + ownN s2 M w (i + 1) (s2.bi (M + 35)) m ≤ 512 := by
      intro s2 m gk
      have f2 : RfO [1, 4, 6, 35] [1353] M (tk (h1.saw O 0 vv.toInt64) M 0) s2 := (cmt1.ro.mono (by decide) (fun _ z => nomatch z)).tr (gk.1.mono (by decide) (by decide))
      have ow : Owq s2 M b w D := Owq.ro f2 (by decide) q1.2.2.2.2.2.2.2.2.1
      have gs : GkS (s2.bi (M + 12)) w m (s2.bi (M + 35)) := by
        rw [gk.1.bi (k := 12) (by decide)]
        exact gk.2.2.2
      rw [← own_len w5 (ow i hi) pa pn pb gs]
      exact hy
    obtain ⟨h2, y, jr, cmm⟩ := rf_commit1 (tk.ro.rk rk0) q1.1 N (by omega) (cpl_vt q1) (cpl_pos q1) q1.2.2.2.2.2.2.2.2.2.2.1.2.1.1 (by omega) (t := i + 1) (by omega) (q1.2.2.2.2.1.2 (i + 1) (by omega) (by omega)).2.2.2.1 room
    have jm : J_X10_commit N M (h1.saw O 0 vv.toInt64) p0 = some (h2, y) := by
      rw [e0, rf_commitT rk0 q0.1 N (by omega) (by omega) ai0]
      exact jr
    have fc := rfo_commit cmm
    have f : RfO [1, 4, 6, 7, 8, 19, 20, 21, 22, 35] (1300 :: 1313 :: [1312, 1328, 1347, 1348, 1349, 1350, 1353]) M (h1.saw O 0 vv.toInt64) h2 := (tk.ro.mono (fun _ z => nomatch z) (by decide)).tr (fc.mono (fun _ z => z) (by decide))
    have z13 : h2.gi 1300 M = 0 := by
      rw [fc.gi (by decide)]
      exact tk_0 _ _ _
    obtain ⟨ev, B', V', D', cm', ot', ct', rs', c2, v2, K1, q2, eD, alt, hot⟩ := cpl_commit q1 (by omega) hi ai1 hjj nd (by omega) hy pa pn pb pu.2.2.1 pu.2.2.2.1 es hsc cr cmm x.2.1.2.2
    obtain ⟨K2, s2'⟩ := sd_saw K1 s1' vv.toInt64
    have n2 : h2.nx = h1.nx := f.1
    have u2 : h2.su = h1.su := f.2.1
    have mn := m1.2.1
    have mu := m1.2.2.1
    obtain ⟨r1, r2, r3⟩ := rm
    obtain ⟨rc1, rc2, rc3, rc4⟩ := rc
    have al' : (D i).2.2.1.length ≤ tN (D i) := al
    rw [← ev] at jm
    obtain ⟨K3, s3'⟩ := sd_ref K2 s2' f (fo_X10_commit _ _ _ _ jm)
    rcases alt with ⟨ecm, eV, eB⟩ | ⟨ecm, mo, o, eV⟩
    · rw [ecm, eV] at q2
      rw [ecm, eV, eB] at K3
      have ec : c2 = c := q2.2.2.1.symm.trans q.2.2.1
      have ev2 : v2 = v := q2.2.2.2.2.2.2.2.2.2.2.1.1.symm.trans vl
      rw [ec, ev2] at q2
      obtain ⟨x', sm⟩ := ex_end (ot' := ot') q1 x hj1 (Nat.le_refl _) hjj q2 (fc.bi (by decide)) hot eD
      exact Or.inl ⟨h1, h2, vv, jx, jm, z13, _, _, _, _, _, _, _, _, _, _, _, _, _, _, _, _, _, _, _, _, _, _, _, _, _, _, _, _, _, K3, s3', q2, x', by omega, by omega, by omega⟩
    · rw [ecm, eV] at q2
      rw [ecm, eV] at K3
      have ec : c2 = c + 1 := by
        have := q2.2.2.1
        rw [List.length_append, q.2.2.1] at this
        exact this.symm
      rw [ec] at q2
      obtain ⟨x', sm⟩ := ex_com (B' := B') (ot' := ot') q1 x hj1 (Nat.le_refl _) hi hjj pa pn pb q2 hot eD
      exact Or.inl ⟨h1, h2, vv, jx, jm, z13, _, _, _, _, _, _, _, _, _, _, _, _, _, _, _, _, _, _, _, _, _, _, _, _, _, _, _, _, _, K3, s3', q2, x', by omega, by omega, by omega⟩
theorem s_begin (I : Inv se X M O j h c1 s1) (hj1 : j + 1 ≤ 512) (hN : 1000000 < N) {ro : Int32} (hro : ro = 0 ∨ ro = 1) : S_begin N X M h ro (fun h9 c2 s2 => Inv se X M O (j + 1) h9 (c1 + c2) (s1 + s2)) := by
  unfold S_begin
  obtain ⟨g, p, G, fv, lr, B, V, ts, D, ac, cm, ot, ct, rs, d0, R, cO, b, c, w, l, v, k, r, clk, nr, a, a0, sc, K, s, q, x, rm⟩ := I
  have eX := s.2.1
  have nd := ex_nd x
  have ki := ex_ki q x
  have x1 := x.1
  by_cases full : 24 ≤ ac.length
  · have jx := kr_begin0 K N ro full (by have := x.2.1.2.1; omega)
    rw [eX] at jx
    have an := act_n q.2.2.2.2.2.2.1 nd
    rcases rf_begin s.2.2.2.1 q.1 N (by omega) (cpl_pos q) (by omega) hro with ⟨_, jm⟩ | ⟨z, _⟩
    · refine ⟨h, _, _, jx, jm, step_id K s tb.ro (fo_X10_begin _ _ _ _ jm) (cpl_tb q) x rm hj1 (Nat.le_refl _) ?_ ?_⟩
      · have := (tb.ro (h := h) (M := M)).1
        omega
      · have := (tb.ro (h := h) (M := M)).2.1
        omega
    · exact absurd (an.trans (by have := x.2.1.2.1; omega)) z
  · obtain ⟨h1, g', t, F, ad, jx, nf, K1, w1, n1, u1⟩ := kr_begin K s.1 N (by omega) ro hro (by omega) x1.1 (by omega) (by rw [q.2.1]; omega) (by rw [q.2.2.1]; omega) ki.2.2.1 ki.2.2.2.2.1 x.2.1.2.2
    rw [eX] at jx
    have m1 := mo_X9_begin _ _ _ _ jx
    obtain ⟨s1', e1⟩ := sd_cls s m1 (fo_X9_begin _ _ _ _ jx) w1
    have q0 := q.eqv e1
    have q1 := cpl_tb q0
    have an := act_n q0.2.2.2.2.2.2.1 nd
    rcases rf_begin s1'.2.2.2.1 q0.1 N (by omega) (cpl_pos q0) (by omega) hro with ⟨z, _⟩ | ⟨_, h2, jm, jd⟩
    · exact absurd (an.symm.trans z) (by omega)
    · rw [q.2.1, q.2.2.1] at nf
      rw [q.2.1] at K1 jx
      have stamp : ∀ t, 1 ≤ t → t ≤ b → (tb h1 M).bi (M + 1) t ≠ 1 → (tb h1 M).bi (M + 6) t < (tb h1 M).gi 1313 M := by
        intro t t1 t2 ne
        obtain ⟨sa1, sa2, _⟩ := q0.2.2.2.2.2.2.2.2.2.2.2.2.2.2.2
        rw [tb.ro.bi (by decide)] at ne ⊢
        obtain ⟨y, y1, y2⟩ := (sa2 t t1 t2).2 ne
        rw [tb.clock, sa1, y1, ni_inc, ni_lt (by omega) (by omega)]
        omega
      have q2 := cpl_begin (G' := va_up G 1208 (nI (nr + 1))) q1 nd (by omega) hro jd stamp nf ad t (va_up_ne _ _ (by decide))
      have f : RfO [1, 2, 3, 5, 7] [1300, 1311, 1313] M h1 h2 := ((tb.ro.mono (fun _ z => nomatch z) (by decide)).tr (begH.ro.mono (by decide) (by decide))).tr (jd.1.mono (by decide) (fun _ z => nomatch z))
      obtain ⟨K2, s2'⟩ := sd_ref K1 s1' f (fo_X10_begin _ _ _ _ jm)
      have n2 : h2.nx = h1.nx := f.1
      have u2 : h2.su = h1.su := f.2.1
      have mn := m1.2.1
      have mu := m1.2.2.1
      obtain ⟨r1, r2, r3⟩ := rm
      obtain ⟨x', sm⟩ := ex_begin (t := t) (y := (bgF F ro (ac.countP (fun j => decide ((D j).1 1005 = 0))), ad, [], [], [], 0, [], [])) q x hj1 (by omega) rfl rfl rfl rfl rfl
      refine ⟨h1, h2, _, jx, jm, _, _, _, _, _, _, _, _, _, _, _, _, _, _, _, _, _, _, _, _, _, _, _, _, _, nr + 1, a, a0, sc, K2, s2', q2, x', ?_⟩
      rw [sm]
      exact ⟨by omega, by omega, r3⟩
end SOP2
