/-! astray: both sides -/
theorem chn_app (X Y : List Kv) (key : Int32) : chn (X ++ Y) key = chn Y key ++ chn X key := by
  unfold chn
  rw [List.filter_append, List.map_append, List.reverse_append]
theorem flt_one (key : Int32) : ∀ (A : Shf), A.Pairwise (fun y z => y.1 ≠ z.1) → ((∀ y ∈ A, y.1 ≠ key) → A.filter (fun y => y.1 == key) = []) ∧ ∀ y ∈ A, y.1 = key → A.filter (fun y => y.1 == key) = [y] := by
  intro A
  induction A with
  | nil => intro _; exact ⟨fun _ => rfl, fun y hy => nomatch hy⟩
  | cons a r ih =>
    intro pw
    obtain ⟨p1, p2⟩ := List.pairwise_cons.mp pw
    obtain ⟨i1, i2⟩ := ih p2
    constructor
    · intro h
      rw [List.filter_cons_of_neg (by simpa using h a List.mem_cons_self)]
      exact i1 (fun y hy => h y (List.mem_cons_of_mem _ hy))
    · intro y hy e
      by_cases z : a.1 = key
      · rw [List.filter_cons_of_pos (by simpa using z), i1 (fun u hu w => p1 u hu (z.trans w.symm))]
        rcases List.mem_cons.mp hy with u | u
        · rw [u]
        · exact absurd (z.trans e.symm) (p1 y u)
      · rw [List.filter_cons_of_neg (by simpa using z)]
        rcases List.mem_cons.mp hy with u | u
        · rw [u] at e; exact absurd e z
        · exact i2 y u e
theorem chn_inst {A : Shf} {L : List Kv} (hs : Srt A) (hn : ∀ y ∈ A, y.2 ≠ []) (bk : BkL A L) (mo ow key : Int32) : (chn L key = [] ∧ chn (inst A mo ow) key = []) ∨ ∃ e L', chn L key = e :: L' ∧ chn (inst A mo ow) key = [(mo, ow, e.2.2)] := by
  have f := flt_one key A (srt_pw hs)
  have ec : chn (inst A mo ow) key = ((A.filter (fun y => y.1 == key)).map (fun y => (instE mo ow y).2)).reverse := by
    unfold chn inst
    rw [List.filter_map, List.map_map]
    rfl
  by_cases z : look A key = []
  · left
    refine ⟨by rw [← bk]; exact z, ?_⟩
    rw [ec, f.1 (fun y hy e => ?_)]
    · rfl
    · have := look_mem hs (k := y.1) (ch := y.2) (by rw [Prod.eta]; exact hy)
      rw [e, z] at this
      exact hn y hy this.symm
  · right
    obtain ⟨i, hi⟩ := look_some hs z
    have m := List.mem_of_getElem? hi
    cases e : look A key with
    | nil => exact absurd e z
    | cons e0 L' =>
      refine ⟨e0, L', by rw [← bk]; exact e, ?_⟩
      rw [ec, f.2 _ m rfl, e]
      rfl
theorem drop_id {st : Int32} {L : List Ent} (h : ∀ e ∈ L, e.1 ≤ st) : dropW st L = L := by
  cases L with
  | nil => rfl
  | cons e L =>
    rw [dropW_c, if_neg]
    have := h e List.mem_cons_self
    rw [Int32.le_iff_toInt_le] at this
    rw [Int32.lt_iff_toInt_lt]
    omega
theorem repA_snoc {D : Nat → TD} {cm : List Nat} {x : Nat} : ∀ (xs : List Nat) (i : Nat) (W : List Kv) (m : Nat) (W' : List Kv) (m' : Nat), RepA D cm (xs ++ [x]) i W m W' m' → ∃ W1 m1, RepA D cm xs i W m W1 m1 ∧ RepA D cm [x] (i + xs.length) W1 m1 W' m' := by
  intro xs
  induction xs with
  | nil => intro i W m W' m' r; exact ⟨W, m, ⟨rfl, rfl⟩, r⟩
  | cons a xs ih =>
    intro i W m W' m' r
    obtain ⟨j, L, A, m1, r1, r2, r3, r4, r5, r6⟩ := r
    obtain ⟨W1, m2, s1, s2⟩ := ih _ _ _ _ _ r6
    refine ⟨W1, m2, ⟨j, L, A, m1, r1, r2, r3, r4, r5, s1⟩, ?_⟩
    rw [List.length_cons, show i + (xs.length + 1) = i + 1 + xs.length by omega]
    exact s2
section AST
variable {h h1 : Hp} {M b c w l v k r clk m : Nat} {G : Nat → Int32} {fv : Int64} {B : Shf} {V : List Kv} {ts : List Nat} {D : Nat → TD} {ac cm : List Nat} {ct rs : Nat → Int32} {R : List (Int32 × Int64)} {ord : List Nat}
def cN (cm : List Nat) (x : Nat) : Nat := cm.getD x 0 + 1
theorem cN_of {x j : Nat} (hx : cm[x]? = some j) : cN cm x = j + 1 := by
  unfold cN
  rw [List.getD_eq_getElem?_getD, hx]
  rfl
theorem pick_eq (q : Cpl h M b c w l v k r clk G fv V ts D ac cm ct rs R) (pu : Pu B V ts D) (ls : LinS (Ahd B D cm) cm.length ord) {i x o : Nat} (hx : ord[i]? = some x) (pc : Pcn h M b (eD h M l v v) ((ord.take i).map (cN cm)) (b + 1) o) : o = cN cm x := by
  have q7 := q.2.2.2.2.2.2.1
  have hc := q.1.2.2.2.2.2.2.2.2.1
  have e3 := q.2.2.1
  obtain ⟨l1, l2, l3⟩ := ls i x hx
  have inj : ∀ {a a' j : Nat}, cm[a]? = some j → cm[a']? = some j → a = a' := fun h1 h2 => (List.getElem?_inj (get_lt h1) (cm_nd q)).mp (h1.trans h2.symm)
  have mem : ∀ {a j : Nat}, cm[a]? = some j → (j + 1 ∈ (ord.take i).map (cN cm) ↔ a ∈ ord.take i) := by
    intro a j ha
    rw [List.mem_map]
    constructor
    · rintro ⟨a', m1, m2⟩
      have al : a' < cm.length := by
        obtain ⟨n, hn⟩ := List.getElem?_of_mem m1
        have nl := get_lt hn
        rw [List.length_take] at nl
        rw [List.getElem?_take, if_pos (by omega)] at hn
        exact (ls n a' hn).1
      obtain ⟨j', hj'⟩ : ∃ j', cm[a']? = some j' := ⟨_, List.getElem?_eq_getElem al⟩
      rw [cN_of hj'] at m2
      have : j' = j := by omega
      rw [this] at hj'
      rw [inj ha hj']
      exact m1
    · intro m1; exact ⟨a, m1, cN_of ha⟩
  -- candidates
  have cd : ∀ {a j : Nat}, cm[a]? = some j → (Cdx h M b (eD h M l v v) ((ord.take i).map (cN cm)) (j + 1) ↔ Cand (Ahd B D cm) (ord.take i) a) := by
    intro a j ha
    obtain ⟨z1, z2, z3⟩ := q7.2.1 a j ha
    constructor
    · rintro ⟨_, _, _, c4, c5⟩
      refine ⟨fun y => c4 ((mem ha).mpr y), fun a' e => ?_⟩
      obtain ⟨j1, j2, g1, g2, g3⟩ := (ed_eq q pu a' a).mp e
      rw [ha] at g2
      rw [← Option.some.inj g2] at g3
      apply Classical.byContradiction
      intro no
      have gb := q7.2.1 a' j1 g1
      exact c5 (j1 + 1) (by omega) (by omega) gb.2.1 (fun y => no ((mem g1).mp y)) g3
    · rintro ⟨c1, c2⟩
      refine ⟨by omega, by omega, z2, fun y => c1 ((mem ha).mp y), fun t t1 t2 t3 t4 e => ?_⟩
      obtain ⟨a1, a2, j1, j2, g1, g2, g3, g4⟩ := ed_dom q e
      have ej : j2 = j := by omega
      rw [ej] at g4
      have : Ahd B D cm a1 a := (ed_eq q pu a1 a).mpr ⟨j1, j, g3, ha, by rw [← g1]; exact e⟩
      exact t4 (by rw [g1]; exact (mem g3).mpr (c2 a1 this))
  obtain ⟨j, hj⟩ : ∃ j, cm[x]? = some j := ⟨_, List.getElem?_eq_getElem l1⟩
  have cj := (cd hj).mpr l2
  obtain ⟨z1, z2, z3⟩ := q7.2.1 x j hj
  rw [cN_of hj]
  rcases pc with ⟨_, p2⟩ | ⟨p1, p2, p3⟩
  · exact absurd cj (p2 (j + 1) (by omega))
  · obtain ⟨o1, o2, o3, _, _⟩ := id p2
    obtain ⟨jo, rfl⟩ : ∃ jo, o = jo + 1 := ⟨o - 1, by omega⟩
    obtain ⟨xo, hxo⟩ := q7.2.2 jo (by omega) o3
    have co := (cd hxo).mp p2
    have ge : x ≤ xo := Nat.le_of_not_lt (fun z => l3 xo z co)
    have le := p3 (j + 1) (by omega) cj
    have xl := get_lt hxo
    rw [(q7.2.1 xo jo hxo).2.2, z3, ni_le (by omega) (by omega)] at le
    have : xo = x := by omega
    rw [this, hj] at hxo
    rw [Option.some.inj hxo]
theorem rounds (q : Cpl h M b c w l v k r clk G fv V ts D ac cm ct rs R) (q1 : Cpl h1 M b c w l v k r clk G fv V ts D ac cm ct rs R) (e1 : h1.bi (M + 1) = h.bi (M + 1)) (e4 : h1.bi (M + 4) = h.bi (M + 4)) (pu : Pu B V ts D) (rul : ∀ i, i < b → runL ((D i).1 1000) (tC (D i)) ([], [], 0) = (tL (D i), tP (D i), tN (D i))) (bnd : ∀ i, i < b → (tC (D i)).length < 100000) (hm : m ≤ 512) (gs : GkS (h1.bi (M + 12)) w m (h1.bi (M + 35))) (ls : LinS (Ahd B D cm) cm.length ord) (ol : ord.length = cm.length) : ∀ i, i ≤ ord.length → ∀ D0 mp n, AsI h1 M b m k (eD h M l v v) i D0 mp n → ∀ W mm, RepA D cm (ord.take i) 0 [] 0 W mm → D0 = (ord.take i).map (cN cm) ∧ (∀ key, mp key = thr1 (chn W key)) ∧ (∀ x ∈ W, x.2.1 ≤ nI i) ∧ (∀ key, chn W key ≠ [] → ∃ j ∈ cm, chn (tL (D j)) key ≠ []) ∧ mm = n := by
  have hb := q1.1.2.2.2.2.2.2.2.1
  have hr := q1.1.2.2.2.2.2.2.2.2.2.2.2.2.2
  have q7 := q.2.2.2.2.2.2.1
  have hc := q.1.2.2.2.2.2.2.2.2.1
  have e3 := q.2.2.1
  intro i
  induction i with
  | zero =>
    intro _ D0 mp n a W mm ra
    obtain ⟨a1, a2, a3⟩ := a
    obtain ⟨r1, r2⟩ := ra
    rw [a1, a2, a3, r1, r2]
    exact ⟨rfl, fun _ => rfl, fun x hx => (nomatch hx), fun key z => absurd rfl z, rfl⟩
  | succ i ih =>
    intro il D0 mp n a W mm ra
    obtain ⟨D1, mp1, n1, o, a1, a2, a3, a4, a5⟩ := a
    obtain ⟨x, hx⟩ : ∃ x, ord[i]? = some x := ⟨_, List.getElem?_eq_getElem (by omega)⟩
    have tk : ord.take (i + 1) = ord.take i ++ [x] := by rw [List.take_succ, hx]; rfl
    rw [tk] at ra
    obtain ⟨W1, m1, s1, s2⟩ := repA_snoc _ _ _ _ _ _ ra
    obtain ⟨i1, i2, i3, i4, i5⟩ := ih (by omega) D1 mp1 n1 a1 W1 m1 s1
    rw [List.length_take, Nat.zero_add, Nat.min_eq_left (by omega)] at s2
    obtain ⟨j, L, A, m2, t1, t2, t3, t4, t5, t6, t7⟩ := s2
    have a2' : Pcn h M b (eD h M l v v) D1 (b + 1) o := by
      unfold Pcn Cdx at a2 ⊢
      rw [e1, e4] at a2
      exact a2
    rw [i1] at a2'
    have eo := pick_eq q pu ls hx a2'
    rw [cN_of t1] at eo
    obtain ⟨z1, z2, z3⟩ := q7.2.1 x j t1
    have st1 : ∀ key, ∀ e ∈ chn W1 key, e.1 ≤ nI i := fun key e he => i3 _ (chn_mem.mp he)
    have inW : ∀ z, mp1 z ≠ none → ∃ jj, jj < m ∧ h1.bi (M + 35) jj = z := by
      intro z hz
      rw [i2] at hz
      have ne : chn W1 z ≠ [] := fun u => hz (by rw [u]; rfl)
      obtain ⟨j', g1, g2⟩ := i4 z ne
      obtain ⟨n', hn'⟩ := List.getElem?_of_mem g1
      have jb := (q7.2.1 n' j' hn').1
      have ow := q1.2.2.2.2.2.2.2.2.1 j' jb
      cases u : chn (tL (D j')) z with
      | nil => exact absurd u g2
      | cons e L' =>
        have me : (z, e) ∈ tL (D j') := chn_mem.mp (by rw [u]; exact List.mem_cons_self)
        obtain ⟨y0, y1, y2⟩ := F2.mem ow.1 me
        exact (gs.2 z).mpr ⟨y0, ownI_lt y1, y2.1.symm⟩
    have rr := rep_rows (h := h1) (mp := mp1) (W := W1) (st := nI i) (ow := (D j).1 1000) hr hm gs.1 (fun e he => (gs.2 _).mpr ⟨e, he, rfl⟩) (fun key => by rw [drop_id (st1 key), i2]; rfl) inW (q1.2.2.2.2.2.2.2.2.2.2.2.1.1 j z1) (bnd j z1) m1 L m2 t2
    obtain ⟨b1, b2, b3, b4, b5⟩ := rr
    have ro := rpO_rows (h := h1) (M := M) (m := m) (mp := mp1) (j + 1) k
    rw [rul j z1] at b1 b5
    have b5 : L = tL (D j) := b5
    rw [← ro.1] at b1
    rw [← ro.2] at b4
    have aL : chn L = chn (tL (D j)) := by rw [b5]
    refine ⟨?_, fun key => ?_, fun y hy => ?_, fun key ne => ?_, ?_⟩
    · rw [a3, i1, tk, List.map_append, eo]
      show _ = _ ++ [cN cm x]
      rw [cN_of t1]
    · rw [a4, eo, t6, chn_app]
      unfold nowF
      rcases chn_inst t3 t4 t5 (nI (i + 1)) ((D j).1 1000) key with ⟨c1, c2⟩ | ⟨e, L', c1, c2⟩
      · rw [c2]
        rcases lk_eq key _ _ _ rfl b1.1 with ⟨d1, d2⟩ | ⟨e', L'', d1, d2⟩
        · rw [d2]; exact i2 key
        · rw [aL] at c1
          rw [show (tL (D j), tP (D j), tN (D j)).1 = tL (D j) from rfl, c1] at d1
          exact nomatch d1
      · rw [c2]
        rcases lk_eq key _ _ _ rfl b1.1 with ⟨d1, d2⟩ | ⟨e', L'', d1, d2⟩
        · rw [aL] at c1
          rw [show (tL (D j), tP (D j), tN (D j)).1 = tL (D j) from rfl, c1] at d1
          exact nomatch d1
        · rw [aL] at c1
          rw [show (tL (D j), tP (D j), tN (D j)).1 = tL (D j) from rfl, c1] at d1
          rw [d2, ← (List.cons.inj d1).1]
          rfl
    · rw [t6] at hy
      rcases List.mem_append.mp hy with u | u
      · refine Int32.le_trans (i3 y u) ?_
        rw [ni_le (by omega) (by omega)]; omega
      · obtain ⟨z, _, rfl⟩ := List.mem_map.mp u
        exact Int32.le_refl _
    · rw [t6, chn_app] at ne
      rcases chn_inst t3 t4 t5 (nI (i + 1)) ((D j).1 1000) key with ⟨c1, c2⟩ | ⟨e, L', c1, c2⟩
      · rw [c2] at ne
        exact i4 key ne
      · refine ⟨j, List.mem_of_getElem? t1, ?_⟩
        rw [← aL, c1]
        exact fun u => nomatch u
    · rw [t7, b4, a5, eo, i5]
theorem vn_eq (q : Cpl h M b c w l v k r clk G fv V ts D ac cm ct rs R) (key : Int32) (o : Option Int64) : VnR h M c v key o ↔ o = thr1 (chn V key) := by
  have q11 := q.2.2.2.2.2.2.2.2.2.2.1
  have hv := q.1.2.2.2.2.2.2.2.2.2.2.2.1
  have hc := q.1.2.2.2.2.2.2.2.2.1
  have rows := ver_rows q11
  have all : ∀ e ∈ chn V key, e.1 ≤ nI c := by
    intro e he
    obtain ⟨i, hi⟩ := List.getElem?_of_mem (chn_mem.mp he)
    have il := get_lt hi
    obtain ⟨m, j, _, _, h3, _, h5⟩ := ver_own q (by rw [← q11.1]; exact il)
    have := (rows i _ hi).2.1
    rw [show e.1 = vMo h M i from this, h3, ni_le (by omega) (by omega)]
    omega
  have vl := ver_last (h := h) (M := M) key (nI c) v V q11.1 (fun j x hx => ⟨(rows j x hx).1, (rows j x hx).2.1⟩)
  rw [drop_id all] at vl
  have val : ∀ {e : Ent} {j : Nat}, V[j]? = some (key, e) → (if h.bi (M + 22) j = 0 then none else some (h.bw (M + 21) j)) = visE (some e) := by
    intro e j hj
    have := (rows j _ hj).2
    show _ = if e.2.2.1 = 0 then none else some e.2.2.2
    rw [show e.2.2.1 = h.bi (M + 22) j from this.2.2.1, show e.2.2.2 = h.bw (M + 21) j from this.2.2.2]
  unfold thr1
  rcases vl with ⟨v1, v2⟩ | ⟨e, j, v1, v2, v3, v4⟩
  · rw [v1]
    constructor
    · rintro (⟨_, z⟩ | ⟨i, i1, i2, _⟩)
      · exact z
      · exact absurd (i2.uniq v2) (ni_m1 (by omega))
    · intro z; exact Or.inl ⟨v2, z⟩
  · rw [v1]
    constructor
    · rintro (⟨z, _⟩ | ⟨i, i1, i2, i3⟩)
      · exact absurd (v3.uniq z) (ni_m1 (by omega))
      · rw [(ni_inj (by omega) (by omega)).mp (i2.uniq v3)] at i3
        rw [i3]; exact val v4
    · intro z; exact Or.inr ⟨j, v2, v3, by rw [z]; exact (val v4).symm⟩
theorem astray_eq (q : Cpl h M b c w l v k r clk G fv V ts D ac cm ct rs R) (pu : Pu B V ts D) (rul : ∀ i, i < b → runL ((D i).1 1000) (tC (D i)) ([], [], 0) = (tL (D i), tP (D i), tN (D i))) (cov : ∀ j ∈ cm, ∀ key, chn (tL (D j)) key ≠ [] → chn V key ≠ []) (bnd : ∀ i, i < b → (tC (D i)).length < 100000) {x y : Int32} (a : AstR B D cm (Ahd B D cm) x) (am : AstM h M b c w l v k y) : x = y := by
  have q7 := q.2.2.2.2.2.2.1
  have q11 := q.2.2.2.2.2.2.2.2.2.2.1
  have hw := q.1.2.2.2.2.2.2.2.2.2.1
  have e3 := q.2.2.1
  have dom := ahd_dom q pu
  have rc := ring_cnt q pu
  have p2 : ∀ x, Pth (eD h M l v v) (b + 1) x x ↔ Tc (eD h M l v v) x x := fun x => ⟨pth_tc _ x x, fun t => (tc_pth (ed_lt q) t).1⟩
  obtain ⟨ord, ls, a⟩ := a
  have ndo := lin_nd ls
  have oml : ∀ x ∈ ord, x < cm.length := fun x hx => by
    obtain ⟨n, hn⟩ := List.getElem?_of_mem hx
    exact (ls n x hn).1
  rcases a with ⟨a1, a2, a3⟩ | ⟨a1, W, mm, a2, a3⟩
  · have ne : ∃ x, x ∉ ord ∧ x < cm.length := by
      apply Classical.byContradiction
      intro no
      have c1 := cnt_list (P := fun _ => True) cm.length ord ndo (fun i => ⟨fun z => ⟨oml i z, trivial⟩, fun z => Classical.byContradiction (fun u => no ⟨i, u, z.1⟩)⟩)
      have c2 : ∀ n, cntQ (fun _ => True) n = n := by
        intro n
        induction n with
        | zero => rfl
        | succ n ih =>
          have cs : cntQ (fun _ => True) (n + 1) = cntQ (fun _ => True) n + @ite Nat True (Classical.propDecidable _) 1 0 := rfl
          rw [cs, ih, if_pos trivial]
      rw [c2] at c1
      omega
    obtain ⟨z, z1, z2⟩ := ring_of dom ne (fun x ux xn => by
      apply Classical.byContradiction
      intro no
      exact a2 x xn ⟨ux, fun a ha => Classical.byContradiction (fun u => no ⟨a, ha, u⟩)⟩)
    obtain ⟨j, hj⟩ : ∃ j, cm[z]? = some j := ⟨_, List.getElem?_eq_getElem z1⟩
    have t := (tc_eq q pu hj).mp z2
    have pos : cntQ (fun x => 1 ≤ x ∧ Pth (eD h M l v v) (b + 1) x x) (b + 1) ≠ 0 := cntQ_pos.mpr ⟨j + 1, by have := (q7.2.1 z j hj).1; omega, by omega, (p2 _).mpr t⟩
    rcases am with ⟨_, m2⟩ | ⟨m1, _⟩
    · rw [a3, m2, rc]
    · exact absurd m1 pos
  · have all : ∀ x, x < cm.length → x ∈ ord := nd_all cm.length ord ndo oml a1
    rcases am with ⟨m1, _⟩ | ⟨_, h1, m, D0, mp, n, f1, m2, gs, asi, ye⟩
    · exfalso
      obtain ⟨u, u1, u2, u3⟩ := cntQ_pos.mp (show cntQ (fun x => 1 ≤ x ∧ Pth (eD h M l v v) (b + 1) x x) (b + 1) ≠ 0 by omega)
      rw [p2] at u3
      have dm : ∀ s u, Tc (eD h M l v v) s u → ∃ a j : Nat, s = j + 1 ∧ cm[a]? = some j := by
        intro s u t
        refine t (fun s _ => ∃ a j : Nat, s = j + 1 ∧ cm[a]? = some j) (fun s u m => ?_) (fun _ _ _ x _ => x)
        obtain ⟨a, _, j, _, e1, _, e3, _⟩ := ed_dom q m
        exact ⟨a, j, e1, e3⟩
      obtain ⟨z, j, e1, e2⟩ := dm _ _ u3
      rw [e1] at u3
      exact lin_acyc dom ls all ((tc_eq q pu e2).mpr u3)
    · have q1 := q.eqv (RfE.ro f1 (by decide) (by decide))
      have b12 : h1.bi (M + 12) = h.bi (M + 12) := f1.bi (by decide)
      have oc : ord.length = c := by omega
      rw [← b12] at gs
      rw [← oc] at asi
      obtain ⟨r1, r2, r3, r4, r5⟩ := rounds q q1 (f1.bi (by decide)) (f1.bi (by decide)) pu rul bnd (by omega) gs ls a1 ord.length (Nat.le_refl _) D0 mp n asi W mm (by rw [List.take_length]; exact a2)
      have bk : ∀ y ∈ B, y.2 = chn V y.1 := fun y hy => by rw [← pu.2.2.1, look_mem pu.1 (by rw [Prod.eta]; exact hy)]
      have vn := fun key => vn_eq q key (mp key)
      have inj : ∀ {i j : Nat}, i < m → j < m → h1.bi (M + 35) i = h1.bi (M + 35) j → i = j := by
        intro i j hi hj e
        rcases Nat.lt_trichotomy i j with z | z | z
        · have := gs.1 i j z hj
          rw [e, Int32.lt_iff_toInt_lt] at this
          omega
        · exact z
        · have := gs.1 j i z hi
          rw [e, Int32.lt_iff_toInt_lt] at this
          omega
      have count : B.countP (fun y => decide (thr1 y.2 ≠ thr1 (chn W y.1))) = cntQ (fun j => ¬ VnR h M c v (h1.bi (M + 35) j) (mp (h1.bi (M + 35) j))) m := by
        rw [cnt_split (key := h1.bi (M + 35)) pu.1 m (fun i hi np => ?_), ← sum_ite]
        · refine sum_con (fun y hy => ?_)
          have ky : ∃ j, j < m ∧ h1.bi (M + 35) j = y.1 := by
            refine (gs.2 y.1).mpr ?_
            have ne : chn V y.1 ≠ [] := by rw [← bk y hy]; exact pu.2.1 y hy
            cases u : chn V y.1 with
            | nil => exact absurd u ne
            | cons e L' =>
              obtain ⟨i, hi⟩ := List.getElem?_of_mem (chn_mem.mp (show e ∈ chn V y.1 by rw [u]; exact List.mem_cons_self))
              obtain ⟨a1, _, _, _, _, _, e0, e1, e2⟩ := q11.2.2 i _ hi
              exact ⟨e0, e1, by rw [b12, e2, ← a1]⟩
          obtain ⟨j, j1, j2⟩ := ky
          rw [bk y hy]
          by_cases z : thr1 (chn V y.1) = thr1 (chn W y.1)
          · rw [if_neg (by simpa using z), cnt_none]
            rintro i hi ⟨i1, i2⟩
            rw [i1, vn, r2] at i2
            exact i2 z.symm
          · rw [if_pos (by simpa using z)]
            symm
            refine cnt_single j1 (fun u hu => ⟨fun t => inj hu j1 (t.1.trans j2.symm), fun t => ?_⟩)
            rw [t, j2]
            refine ⟨rfl, fun t => z ?_⟩
            rw [vn, r2] at t
            exact t.symm
        · apply Classical.byContradiction
          intro no
          apply np
          rw [vn, r2]
          have v0 : chn V (h1.bi (M + 35) i) = [] := by
            apply Classical.byContradiction
            intro ne
            have ne2 : look B (h1.bi (M + 35) i) ≠ [] := by rw [pu.2.2.1]; exact ne
            obtain ⟨n', hn'⟩ := look_some pu.1 ne2
            exact no ⟨_, List.mem_of_getElem? hn', rfl⟩
          have w0 : chn W (h1.bi (M + 35) i) = [] := by
            apply Classical.byContradiction
            intro ne
            obtain ⟨j, g1, g2⟩ := r4 _ ne
            exact cov j g1 _ g2 v0
          rw [v0, w0]
      rw [a3, ye, r5, count]
end AST
