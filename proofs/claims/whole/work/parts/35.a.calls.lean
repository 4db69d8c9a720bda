/-! what a view answers -/
theorem Vr.fr {g g' : Nat → Nat} {p : Nat} {h h' : Hp} {v S lS O lO : Nat} {st : Int32} {A B : List (Int32 × List Ent)} (q : Vr g h v S lS O lO st A B) (w : Wf g h) (F : Fr g g' p h h') (hp : h.kd p ≠ 7) (s1 : ¬ Un g p v) (s2 : Sep g p O) (s3 : Sep g p S) : Vr g' h' v S lS O lO st A B := by
  obtain ⟨q1, q2, q3, q4, qA, qB⟩ := q
  have ag := F.ag w q1 (by decide) s1
  exact ⟨F.kd w q1 (by decide), (ag.fr _).trans q2, (ag.fr _).trans q3, (ag.fi _).trans q4, qA.fr w F hp s2, qB.fr w F hp s3⟩
def readD (o : Option Int64) (own : Bool) (k : Int32) : AnD := (if o = none then 0 else 1, o.map (fun x => (k, x)), [], if own then none else some (k, k))
theorem vw_read {g : Nat → Nat} {h : Hp} {v S lS O lO a n ka va : Nat} {st : Int32} {A B : List (Int32 × List Ent)} (q : Vr g h v S lS O lO st A B) (r : An g h a n ka va (0, none, [], none)) (w : Wf g h) (s1 : ¬ Un g a v) (s2 : Sep g a O) (s3 : Sep g a S) (N : Nat) (hN : 100000 < N) (k : Int32) : ∃ h', J_X8_answerRead N v h k (some a) = some (h', ()) ∧ An g h' a n ka va (readD (vis A B st k) (decide (look A k ≠ [])) k) ∧ Fr g g a h h' ∧ h'.nx = h.nx ∧ h'.su = h.su := by
  obtain ⟨x, e1, e2⟩ := vw_seen q N hN k
  -- behind the finding
  have tail : ∀ (h1 : Hp) (d : AnD), An g h1 a n ka va d → Fr g g a h h1 → h1.nx = h.nx → h1.su = h.su → d.2.2.2 = none → ∃ h', B_X8_answerRead_26 N v h1 k (some a) = some (h', ()) ∧ An g h' a n ka va (d.1, d.2.1, d.2.2.1, if look A k ≠ [] then none else some (k, k)) ∧ Fr g g a h h' ∧ h'.nx = h.nx ∧ h'.su = h.su := by
    intro h1 d r1 F1 n1 u1 hd
    have q1 := q.fr w F1 (by rw [r.1]; decide) s1 s2 s3
    obtain ⟨z, f1, f2⟩ := sh_find q1.2.2.2.2.1 N hN k
    rcases f2 with ⟨z1, z2⟩ | ⟨c, z1, z2, -⟩
    · subst z1
      obtain ⟨h2, j1, j2, j3, j4, j5⟩ := an_look r1 F1.wf N k k
      refine ⟨h2, ?_, by rw [if_neg (fun q => q z2)]; exact j2, F1.tr w j3, by omega, by omega⟩
      unfold B_X8_answerRead_26
      refine (dr_e (by exact q1.2.2.1) (by exact q1.2.2.2.2.1.1)).trans ?_
      refine (bnd (by exact f1)).trans ?_
      unfold B_X8_answerRead_34
      refine (nl_ne (by exact rfl)).trans ?_
      refine (dr_e (by exact rfl) (by exact r1.1)).trans ?_
      refine (bnd (by exact j1)).trans ?_
      rfl
    · subst z1
      refine ⟨h1, ?_, by rw [if_pos z2, ← hd]; exact r1, F1, n1, u1⟩
      unfold B_X8_answerRead_26
      refine (dr_e (by exact q1.2.2.1) (by exact q1.2.2.2.2.1.1)).trans ?_
      refine (bnd (by exact f1)).trans ?_
      unfold B_X8_answerRead_34
      refine (nl_so (by exact rfl)).trans ?_
      rfl
  have own : (if (decide (look A k ≠ [])) = true then none else some (k, k)) = (if look A k ≠ [] then none else some (k, k)) := by
    by_cases c : look A k ≠ []
    · rw [if_pos c, if_pos (decide_eq_true c)]
    · rw [if_neg c, if_neg (by rw [decide_eq_false c]; decide)]
  have none_case : visE (seenE A B st k) = none → (∀ R, B_X8_answerRead_26 N v h k (some a) = R → B_X8_answerRead_5 N v h k (some a) x = R) → ∃ h', J_X8_answerRead N v h k (some a) = some (h', ()) ∧ An g h' a n ka va (readD (vis A B st k) (decide (look A k ≠ [])) k) ∧ Fr g g a h h' ∧ h'.nx = h.nx ∧ h'.su = h.su := by
    intro hv hR
    obtain ⟨h', t1, t2, t3⟩ := tail h _ r (Fr.rf w a) rfl rfl rfl
    refine ⟨h', ?_, ?_, t3⟩
    · unfold J_X8_answerRead B_X8_answerRead_0
      refine (bnd (by exact e1)).trans ?_
      exact hR _ t1
    · unfold readD vis
      rw [hv, own]
      exact t2
  rcases e2 with ⟨x1, x2⟩ | ⟨b, e, x1, x2, x3⟩
  · exact none_case (by rw [x2]; rfl) (fun R hR => by subst x1; exact hR)
  · by_cases c : e.2.2.1 = 0
    · refine none_case (by rw [x2]; exact if_pos c) (fun R hR => ?_)
      subst x1
      unfold B_X8_answerRead_5
      refine (nl_so (by exact rfl)).trans ?_
      refine (ck_eq (by exact x3.1)).trans ?_
      refine (if_pos (by rw [x3.2.2.2.1]; exact c)).trans ?_
      exact hR
    · obtain ⟨h1, j1, j2, j3, j4, j5⟩ := an_find r w N k e.2.2.2
      obtain ⟨h', t1, t2, t3⟩ := tail h1 _ j2 j3 j4 j5 rfl
      have hv : visE (seenE A B st k) = some e.2.2.2 := by rw [x2]; exact if_neg c
      refine ⟨h', ?_, ?_, t3⟩
      · unfold J_X8_answerRead B_X8_answerRead_0
        refine (bnd (by exact e1)).trans ?_
        subst x1
        unfold B_X8_answerRead_5
        refine (nl_so (by exact rfl)).trans ?_
        refine (ck_eq (by exact x3.1)).trans ?_
        refine (if_neg (by rw [x3.2.2.2.1]; exact c)).trans ?_
        refine (dr_e (by exact rfl) (by exact r.1)).trans ?_
        rw [x3.2.2.2.2.1]
        refine (bnd (by exact j1)).trans ?_
        exact t1
      · unfold readD vis
        rw [hv, own]
        exact t2
/-- what near answers -/
def NearA (f : Int32) (vs : Int32 → Option Int64) (k : Int32) (d : AnD) : Prop := (d = (0, none, [], some (if f = 0 then (-2147483648, k) else (k, 2147483647))) ∧ ∀ z : Int32, sg f k.toInt ≤ sg f z.toInt → vs z = none) ∨ ∃ y x, vs y = some x ∧ sg f k.toInt ≤ sg f y.toInt ∧ (∀ z : Int32, sg f k.toInt ≤ sg f z.toInt → vs z ≠ none → sg f y.toInt ≤ sg f z.toInt) ∧ d = (1, some (y, x), [], some (if f = 0 then (y, k) else (k, y)))
theorem i64_32 (y : Int32) : y.toInt64.toInt32 = y := Int32.toInt32_toInt64 y
theorem nokey_ne (y : Int32) : ¬ y.toInt64 = -9223372036854775808 := fun z => by
  have h1 := toI64 y
  rw [z] at h1
  have := i32_rng y
  rw [show (-9223372036854775808 : Int64).toInt = -9223372036854775808 from rfl] at h1
  omega
theorem near_tail {g : Nat → Nat} {h : Hp} {a n ka va : Nat} {d : AnD} (r : An g h a n ka va d) (w : Wf g h) (N v : Nat) (k f e : Int32) : ∃ h', B_X8_answerNear_67 N v h k f (some a) e = some (h', ()) ∧ An g h' a n ka va (d.1, d.2.1, d.2.2.1, some (if f = 0 then (e, k) else (k, e))) ∧ Fr g g a h h' ∧ h'.nx = h.nx ∧ h'.su = h.su := by
  by_cases c : f = 0
  · obtain ⟨h2, j1, j2, j3⟩ := an_look r w N e k
    refine ⟨h2, ?_, by rw [if_pos c]; exact j2, j3⟩
    unfold B_X8_answerNear_67
    refine (if_pos (by exact c)).trans ?_
    unfold B_X8_answerNear_78
    refine (if_pos (by exact c)).trans ?_
    unfold B_X8_answerNear_88
    refine (dr_e (by exact rfl) (by exact r.1)).trans ?_
    refine (bnd (by exact j1)).trans ?_
    rfl
  · obtain ⟨h2, j1, j2, j3⟩ := an_look r w N k e
    refine ⟨h2, ?_, by rw [if_neg c]; exact j2, j3⟩
    unfold B_X8_answerNear_67
    refine (if_neg (by exact c)).trans ?_
    unfold B_X8_answerNear_78
    refine (if_neg (by exact c)).trans ?_
    unfold B_X8_answerNear_88
    refine (dr_e (by exact rfl) (by exact r.1)).trans ?_
    refine (bnd (by exact j1)).trans ?_
    rfl
theorem vw_near {g : Nat → Nat} {h : Hp} {v S lS O lO a n ka va : Nat} {st : Int32} {A B : List (Int32 × List Ent)} (q : Vr g h v S lS O lO st A B) (r : An g h a n ka va (0, none, [], none)) (w : Wf g h) (N : Nat) (hN : 1000000 < N) (k f : Int32) : ∃ h' d, J_X8_answerNear N v h k f (some a) = some (h', ()) ∧ An g h' a n ka va d ∧ NearA f (vis A B st) k d ∧ Fr g g a h h' ∧ h'.nx = h.nx ∧ h'.su = h.su := by
  have key : ∀ e : Int32, e = (if f = 0 then -2147483648 else 2147483647) → ∃ h' d, B_X8_answerNear_11 N v h k f (some a) e = some (h', ()) ∧ An g h' a n ka va d ∧ NearA f (vis A B st) k d ∧ Fr g g a h h' ∧ h'.nx = h.nx ∧ h'.su = h.su := by
    intro e he
    have hk := i32_rng k
    obtain ⟨x, e1, e2⟩ := vw_nearest q N hN f k.toInt64 e.toInt64 (by rw [toI64]; omega) (by rw [toI64]; omega)
    rw [toI64, toI64] at e2
    rcases e2 with ⟨x1, x2⟩ | ⟨y, x1, x2, x3, x4, x5⟩
    · obtain ⟨h2, j1, j2, j3⟩ := near_tail r w N v k f e
      refine ⟨h2, _, ?_, j2, Or.inl ⟨?_, fun z hz => x2 z hz ?_⟩, j3⟩
      · unfold B_X8_answerNear_11
        refine (bnd (by exact e1)).trans ?_
        unfold B_X8_answerNear_23
        refine (if_pos (by rw [x1]; exact lg_cmp_ez.mpr rfl)).trans ?_
        exact j1
      · by_cases c : f = 0
        · rw [if_pos c, if_pos c, he, if_pos c]
        · rw [if_neg c, if_neg c, he, if_neg c]
      · have := i32_rng z
        unfold sg
        by_cases c : f = 0
        · rw [if_pos c, if_pos c, he, if_pos c]
          rw [show (-2147483648 : Int32).toInt = -2147483648 from rfl]
          omega
        · rw [if_neg c, if_neg c, he, if_neg c]
          rw [show (2147483647 : Int32).toInt = 2147483647 from rfl]
          omega
    · obtain ⟨u, f1, f2⟩ := vw_seen q N (by omega) y
      have hex : ∃ b en, u = some b ∧ seenE A B st y = some en ∧ Ef h b en ∧ en.2.2.1 ≠ 0 := by
        rcases f2 with ⟨u1, u2⟩ | ⟨b, en, u1, u2, u3⟩
        · exact absurd (by unfold vis; rw [u2]; rfl) x4
        · exact ⟨b, en, u1, u2, u3, fun z => x4 (by unfold vis; rw [u2]; exact if_pos z)⟩
      obtain ⟨b, en, u1, u2, u3, u4⟩ := hex
      obtain ⟨h1, j1, j2, j3, j4, j5⟩ := an_find r w N y en.2.2.2
      obtain ⟨h2, m1, m2, m3, m4, m5⟩ := near_tail j2 j3.wf N v k f y
      refine ⟨h2, _, ?_, m2, Or.inr ⟨y, en.2.2.2, by unfold vis; rw [u2]; exact if_neg u4, x2, x5, rfl⟩, j3.tr w m3, by omega, by omega⟩
      unfold B_X8_answerNear_11
      refine (bnd (by exact e1)).trans ?_
      unfold B_X8_answerNear_23
      refine (if_neg (by rw [x1]; exact fun z => nokey_ne y (lg_cmp_ez.mp z))).trans ?_
      rw [x1, i64_32]
      refine (bnd (by exact f1)).trans ?_
      unfold B_X8_answerNear_45
      refine (nl_so (by exact u1)).trans ?_
      refine (ck_eq (by exact u3.1)).trans ?_
      unfold B_X8_answerNear_64
      refine (dr_e (by exact rfl) (by exact r.1)).trans ?_
      rw [u3.2.2.2.2.1]
      refine (bnd (by exact j1)).trans ?_
      exact m1
  obtain ⟨h', d, t1, t2, t3⟩ := key (if f = 0 then -2147483648 else 2147483647) rfl
  refine ⟨h', d, ?_, t2, t3⟩
  unfold J_X8_answerNear B_X8_answerNear_0
  by_cases c : f = 0
  · rw [if_pos c] at t1
    rw [if_pos c]
    exact t1
  · rw [if_neg c] at t1
    rw [if_neg c]
    exact t1
/-- the rows of a scan -/
def ScanR (vs : Int32 → Option Int64) (to : Int32) : Nat → Int → List (Int32 × Int64) → Prop
  | 0, _, R => R = []
  | m + 1, nx, R => (R = [] ∧ ∀ z : Int32, nx ≤ z.toInt → z.toInt ≤ to.toInt → vs z = none) ∨ ∃ y x R', R = (y, x) :: R' ∧ vs y = some x ∧ nx ≤ y.toInt ∧ y.toInt ≤ to.toInt ∧ (∀ z : Int32, nx ≤ z.toInt → vs z ≠ none → y.toInt ≤ z.toInt) ∧ ScanR vs to m (y.toInt + 1) R'
theorem ScanR.len {vs : Int32 → Option Int64} {to : Int32} : ∀ {m : Nat} {nx : Int} {R : List (Int32 × Int64)}, ScanR vs to m nx R → R.length ≤ m := by
  intro m
  induction m with
  | zero => intro nx R q; rw [show R = [] from q]; exact Nat.le_refl _
  | succ m ih =>
    intro nx R q
    rcases q with ⟨q, _⟩ | ⟨y, x, R', q, _, _, _, _, q2⟩
    · rw [q]; exact Nat.zero_le _
    · rw [q, List.length_cons]; have := ih q2; omega
theorem ScanR.uniq {vs : Int32 → Option Int64} {to : Int32} : ∀ {m : Nat} {nx : Int} {R R' : List (Int32 × Int64)}, ScanR vs to m nx R → ScanR vs to m nx R' → R = R' := by
  intro m
  induction m with
  | zero => intro nx R R' q q'; rw [show R = [] from q, show R' = [] from q']
  | succ m ih =>
    intro nx R R' q q'
    rcases q with ⟨q, p⟩ | ⟨y, x, T, q, a1, a2, a3, a4, a5⟩
    · rcases q' with ⟨q', p'⟩ | ⟨y', x', T', q', b1, b2, b3, b4, b5⟩
      · rw [q, q']
      · rw [p y' b2 b3] at b1; cases b1
    · rcases q' with ⟨q', p'⟩ | ⟨y', x', T', q', b1, b2, b3, b4, b5⟩
      · rw [p' y a2 a3] at a1; cases a1
      · have h1 := a4 y' b2 (by rw [b1]; exact Option.some_ne_none _)
        have h2 := b4 y a2 (by rw [a1]; exact Option.some_ne_none _)
        have e : y = y' := toInt_eq (by omega)
        subst e
        rw [a1] at b1
        rw [q, q', Option.some.inj b1, ih a5 b5]
/-- the last key looked at -/
def lastK (R : List (Int32 × Int64)) (most : Nat) (to : Int32) : Int32 := if R.length = most then (match R.getLast? with
  | some y => y.1
  | none => to) else to
def ScanA (vs : Int32 → Option Int64) (fr to : Int32) (most : Nat) (d : AnD) : Prop := ∃ R, ScanR vs to most fr.toInt R ∧ d = (nI R.length, none, R, some (fr, lastK R most to))
theorem scan_end {g : Nat → Nat} {h : Hp} {a n ka va : Nat} {R : List (Int32 × Int64)} (r : An g h a n ka va (0, none, R, none)) (w : Wf g h) (N v : Nat) (fr to : Int32) (most : Nat) (hm : 1 ≤ most ∧ most ≤ 100) (nx : Int64) (hnx : ∀ y, R.getLast? = some y → nx.toInt = y.1.toInt + 1) : ∃ h', B_X8_answerScan_79 N v h fr to (nI most) (some a) nx = some (h', ()) ∧ An g h' a n ka va (nI R.length, none, R, some (fr, lastK R most to)) ∧ Fr g g a h h' ∧ h'.nx = h.nx ∧ h'.su = h.su := by
  have r14 := r.2.2.2.2.2.2.2.2.2.2.2.2.2.1
  have r15 := r.2.2.2.2.2.2.2.2.2.2.2.2.2.2.1
  have r11 := r.2.2.2.2.2.2.2.2.2.2.1
  have r14 : h.fi 307 a = nI R.length := r14
  have r15 : R.length ≤ n := r15
  have F1 := Fr.sfi w (Un.rf g a) 300 (nI R.length)
  have ra := an_res r (nI R.length)
  have e7 : (h.sfi 300 a (nI R.length)).fi 307 a = nI R.length := by rw [fi_oth (by decide)]; exact r14
  obtain ⟨h2, j1, j2, j3⟩ := an_look ra F1.wf N fr (lastK R most to)
  refine ⟨h2, ?_, j2, F1.tr w j3.1, j3.2⟩
  unfold B_X8_answerScan_79
  refine (dr_e (by exact rfl) (by exact r.1)).trans ?_
  rw [r14, e7]
  by_cases c : R.length = most
  · refine (if_pos (by rw [c])).trans ?_
    have hne : R ≠ [] := fun z => by rw [z] at c; simp at c; omega
    obtain ⟨y, hy⟩ : ∃ y, R.getLast? = some y := ⟨R.getLast hne, List.getLast?_eq_some_getLast hne⟩
    have e8 : lastK R most to = (nx - 1).toInt32 := by
      unfold lastK
      rw [if_pos c, hy]
      show y.1 = _
      have h1 := hnx y hy
      have h2 := i32_rng y.1
      have h3 : (nx - 1).toInt = y.1.toInt := by rw [i64_sub1 (by omega) (by omega), h1]; omega
      have h4 : nx - 1 = y.1.toInt64 := Int64.toInt_inj.mp (by rw [h3, toI64])
      rw [h4, i64_32]
    rw [← e8]
    unfold B_X8_answerScan_110
    refine (dr_e (by exact rfl) (by exact r.1)).trans ?_
    refine (bnd (by exact j1)).trans ?_
    rfl
  · refine (if_neg (by exact fun z => c ((ni_inj (by omega) (by omega)).mp z))).trans ?_
    have e8 : lastK R most to = to := by
      unfold lastK
      rw [if_neg c]
    rw [e8] at j1
    unfold B_X8_answerScan_110
    refine (dr_e (by exact rfl) (by exact r.1)).trans ?_
    refine (bnd (by exact j1)).trans ?_
    rfl
theorem scan_loop {g : Nat → Nat} {v S lS O lO a n ka va : Nat} {st : Int32} {A B : List (Int32 × List Ent)} (N : Nat) (hN : 1000000 < N) (fr to : Int32) (most : Nat) (hm : 1 ≤ most ∧ most ≤ 100) (hn : most ≤ n) : ∀ (m i F : Nat) (h : Hp) (nx : Int64) (R : List (Int32 × Int64)), m = most - i → i = R.length → i ≤ most → m < F → Vr g h v S lS O lO st A B → An g h a n ka va (0, none, R, none) → Wf g h → ¬ Un g a v → Sep g a O → Sep g a S → (∀ y, R.getLast? = some y → nx.toInt = y.1.toInt + 1) → (R = [] → nx = fr.toInt64) → -2147483650 ≤ nx.toInt → nx.toInt ≤ 2147483650 → ∃ h' R', L_X8_answerScan_7 N v F h fr to (nI most) (some a) nx (nI i) = some (h', ()) ∧ ScanR (vis A B st) to (most - i) nx.toInt R' ∧ An g h' a n ka va (nI (R ++ R').length, none, R ++ R', some (fr, lastK (R ++ R') most to)) ∧ Fr g g a h h' ∧ h'.nx = h.nx ∧ h'.su = h.su := by
  intro m
  induction m with
  | zero =>
    intro i F h nx R hmi hi him hF q r w s1 s2 s3 hl hz hn1 hn2
    obtain ⟨F, rfl⟩ : ∃ F', F = F' + 1 := ⟨F - 1, by omega⟩
    obtain ⟨h2, j1, j2, j3⟩ := scan_end r w N v fr to most hm nx hl
    refine ⟨h2, [], ?_, by rw [show most - i = 0 by omega]; rfl, by rw [List.append_nil]; exact j2, j3⟩
    show B_X8_answerScan_7 N _ v h fr to (nI most) (some a) nx (nI i) = _
    unfold B_X8_answerScan_7
    refine (if_pos (by exact (ni_le (by omega) (by omega)).mpr (by omega))).trans ?_
    exact j1
  | succ m ih =>
    intro i F h nx R hmi hi him hF q r w s1 s2 s3 hl hz hn1 hn2
    obtain ⟨F, rfl⟩ : ∃ F', F = F' + 1 := ⟨F - 1, by omega⟩
    obtain ⟨x, e1, e2⟩ := vw_nearest q N hN 1 nx to.toInt64 hn1 hn2
    rw [toI64] at e2
    unfold IsNr sg at e2
    simp only [if_neg (show ¬ (1 : Int32) = 0 by decide)] at e2
    rw [show most - i = m + 1 by omega]
    rcases e2 with ⟨x1, x2⟩ | ⟨y, x1, x2, x3, x4, x5⟩
    · obtain ⟨h2, j1, j2, j3⟩ := scan_end r w N v fr to most hm nx hl
      refine ⟨h2, [], ?_, Or.inl ⟨rfl, x2⟩, by rw [List.append_nil]; exact j2, j3⟩
      show B_X8_answerScan_7 N _ v h fr to (nI most) (some a) nx (nI i) = _
      unfold B_X8_answerScan_7
      refine (if_neg (by exact fun z => by rw [ni_le (by omega) (by omega)] at z; omega)).trans ?_
      refine (bnd (by exact e1)).trans ?_
      unfold B_X8_answerScan_22
      refine (if_pos (by rw [x1]; exact lg_cmp_ez.mpr rfl)).trans ?_
      exact j1
    · obtain ⟨u, f1, f2⟩ := vw_seen q N (by omega) y
      have hex : ∃ b en, u = some b ∧ seenE A B st y = some en ∧ Ef h b en ∧ en.2.2.1 ≠ 0 := by
        rcases f2 with ⟨u1, u2⟩ | ⟨b, en, u1, u2, u3⟩
        · exact absurd (by unfold vis; rw [u2]; rfl) x4
        · exact ⟨b, en, u1, u2, u3, fun z => x4 (by unfold vis; rw [u2]; exact if_pos z)⟩
      obtain ⟨b, en, u1, u2, u3, u4⟩ := hex
      obtain ⟨h1, j1, j2, j3, j4, j5⟩ := an_row r w N y en.2.2.2 (show R.length < n by omega)
      have j2 : An g h1 a n ka va (0, none, R ++ [(y, en.2.2.2)], none) := j2
      have q' := q.fr w j3 (by rw [r.1]; decide) s1 s2 s3
      have hy := i32_rng y
      have hy1 : (y.toInt64 + 1).toInt = y.toInt + 1 := by rw [i64_add1 (by rw [toI64]; omega) (by rw [toI64]; omega), toI64]
      obtain ⟨h2, R', m1, m2, m3, m4, m5, m6⟩ := ih (i + 1) F h1 (y.toInt64 + 1) (R ++ [(y, en.2.2.2)]) (by omega) (by simp; omega) (by omega) (by omega) q' j2 j3.wf s1 s2 s3 (fun z hz => by
        rw [List.getLast?_concat] at hz
        rw [← Option.some.inj hz]
        exact hy1) (fun z => absurd z (by simp)) (by omega) (by omega)
      rw [show most - (i + 1) = m by omega, hy1] at m2
      refine ⟨h2, (y, en.2.2.2) :: R', ?_, Or.inr ⟨y, en.2.2.2, R', rfl, by unfold vis; rw [u2]; exact if_neg u4, x2, x3, x5, m2⟩, ?_, j3.tr w m4, by omega, by omega⟩
      · show B_X8_answerScan_7 N _ v h fr to (nI most) (some a) nx (nI i) = _
        unfold B_X8_answerScan_7
        refine (if_neg (by exact fun z => by rw [ni_le (by omega) (by omega)] at z; omega)).trans ?_
        refine (bnd (by exact e1)).trans ?_
        unfold B_X8_answerScan_22
        refine (if_neg (by rw [x1]; exact fun z => nokey_ne y (lg_cmp_ez.mp z))).trans ?_
        rw [x1, i64_32]
        refine (bnd (by exact f1)).trans ?_
        unfold B_X8_answerScan_43
        refine (nl_so (by exact u1)).trans ?_
        refine (ck_eq (by exact u3.1)).trans ?_
        unfold B_X8_answerScan_64
        refine (dr_e (by exact rfl) (by exact r.1)).trans ?_
        rw [u3.2.2.2.2.1, i64_32]
        refine (bnd (by exact j1)).trans ?_
        unfold B_X8_answerScan_67
        rw [ni_inc]
        exact m1
      · rw [List.append_assoc] at m3
        exact m3
theorem vw_scan {g : Nat → Nat} {h : Hp} {v S lS O lO a n ka va : Nat} {st : Int32} {A B : List (Int32 × List Ent)} (q : Vr g h v S lS O lO st A B) (r : An g h a n ka va (0, none, [], none)) (w : Wf g h) (s1 : ¬ Un g a v) (s2 : Sep g a O) (s3 : Sep g a S) (N : Nat) (hN : 1000000 < N) (fr to : Int32) (most : Nat) (hm : 1 ≤ most ∧ most ≤ 100) (hn : most ≤ n) : ∃ h' d, J_X8_answerScan N v h fr to (nI most) (some a) = some (h', ()) ∧ An g h' a n ka va d ∧ ScanA (vis A B st) fr to most d ∧ Fr g g a h h' ∧ h'.nx = h.nx ∧ h'.su = h.su := by
  have hk := i32_rng fr
  obtain ⟨h', R, e1, e2, e3, e4⟩ := scan_loop N hN fr to most hm hn most 0 N h fr.toInt64 [] (by omega) rfl (by omega) (by omega) q r w s1 s2 s3 (fun y hy => by cases hy) (fun _ => rfl) (by rw [toI64]; omega) (by rw [toI64]; omega)
  rw [toI64] at e2
  exact ⟨h', _, e1, e3, ⟨R, e2, rfl⟩, e4⟩
