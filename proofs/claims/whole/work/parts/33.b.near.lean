theorem lg_cmp_np {a b : Int64} : (lg_cmp a b ≤ 0) ↔ a.toInt ≤ b.toInt := by
  rw [lg_cmp_le]
  exact Int64.le_iff_toInt_le
theorem lg_cmp_ez {a b : Int64} : (lg_cmp a b = 0) ↔ a = b := lg_cmp_eq a b
def nxt (f y : Int32) : Int64 := if f = 0 then y.toInt64 - 1 else y.toInt64 + 1
theorem nxt_sg (f y : Int32) : sg f (nxt f y).toInt = sg f y.toInt + 1 ∧ -2147483650 ≤ (nxt f y).toInt ∧ (nxt f y).toInt ≤ 2147483650 := by
  have := i32_rng y
  unfold nxt sg
  by_cases c : f = 0
  · rw [if_pos c, if_pos c, if_pos c, i64_sub1 (by rw [toI64]; omega) (by rw [toI64]; omega), toI64]
    omega
  · rw [if_neg c, if_neg c, if_neg c, i64_add1 (by rw [toI64]; omega) (by rw [toI64]; omega), toI64]
    omega
theorem near_196 {g : Nat → Nat} {h : Hp} {v S lS O lO : Nat} {st : Int32} {A B : List (Int32 × List Ent)} (q : Vr g h v S lS O lO st A B) (N : Nat) {f y : Int32} {to nx : Int64} {c : Nat} {tot i : Int32} {k23 : Hp → Int64 → Int32 → Int64 → Int32 → Int32 → Option (Hp × Int64)} {x : Option Nat} (hc : h.kd c = 6) (hy : h.fi 600 c = y) (hx : Eo h x (seenE A B st y)) (h1 : sg f nx.toInt ≤ sg f y.toInt) (h2 : sg f y.toInt ≤ sg f to.toInt) (h3 : ∀ z : Int32, sg f nx.toInt ≤ sg f z.toInt → vis A B st z ≠ none → sg f y.toInt ≤ sg f z.toInt) (cont : vis A B st y = none → ∃ r, k23 h to f (nxt f y) tot (i + 1) = some (h, r) ∧ IsNr f (vis A B st) (nxt f y).toInt to.toInt r) : ∃ r, B_X8_nearest_196 N k23 v h to f tot i (some c) x = some (h, r) ∧ IsNr f (vis A B st) nx.toInt to.toInt r := by
  have skip : vis A B st y = none → ∃ r, B_X8_nearest_218 N k23 v h to f tot i (some c) = some (h, r) ∧ IsNr f (vis A B st) nx.toInt to.toInt r := by
    intro hv
    obtain ⟨r, e1, e2⟩ := cont hv
    refine ⟨r, ?_, near_skip h1 hv h3 (nxt_sg f y).1 e2⟩
    unfold B_X8_nearest_218 B_X8_nearest_242
    by_cases c0 : f = 0
    · refine (if_pos (by exact c0)).trans ?_
      refine (dr_e (by exact rfl) (by exact hc)).trans ?_
      rw [hy]
      have : nxt f y = y.toInt64 - 1 := if_pos c0
      rw [← this]
      exact e1
    · refine (if_neg (by exact c0)).trans ?_
      refine (dr_e (by exact rfl) (by exact hc)).trans ?_
      rw [hy]
      have : nxt f y = y.toInt64 + 1 := if_neg c0
      rw [← this]
      exact e1
  rcases hx with ⟨x1, x2⟩ | ⟨a, e, x1, x2, x3⟩
  · obtain ⟨r, e1, e2⟩ := skip (by unfold vis; rw [x2]; rfl)
    refine ⟨r, ?_, e2⟩
    unfold B_X8_nearest_196
    refine (nl_ne (by exact x1)).trans ?_
    exact e1
  · by_cases c1 : e.2.2.1 = 0
    · obtain ⟨r, e1, e2⟩ := skip (by unfold vis; rw [x2]; exact if_pos c1)
      refine ⟨r, ?_, e2⟩
      unfold B_X8_nearest_196
      refine (nl_so (by exact x1)).trans ?_
      refine (ck_eq (by exact x3.1)).trans ?_
      refine (if_pos (by rw [x3.2.2.2.1]; exact c1)).trans ?_
      exact e1
    · refine ⟨y.toInt64, ?_, Or.inr ⟨y, rfl, h1, h2, ?_, h3⟩⟩
      · unfold B_X8_nearest_196
        refine (nl_so (by exact x1)).trans ?_
        refine (ck_eq (by exact x3.1)).trans ?_
        refine (if_neg (by rw [x3.2.2.2.1]; exact c1)).trans ?_
        refine (dr_e (by exact rfl) (by exact hc)).trans ?_
        rw [hy]
      · unfold vis
        rw [x2]
        show (if e.2.2.1 = 0 then none else some e.2.2.2) ≠ none
        rw [if_neg c1]
        exact Option.some_ne_none _
theorem near_133 {g : Nat → Nat} {h : Hp} {v S lS O lO : Nat} {st : Int32} {A B : List (Int32 × List Ent)} (q : Vr g h v S lS O lO st A B) (N : Nat) (hN : 100000 < N) {f y : Int32} {to nx : Int64} {c : Nat} {tot i mi : Int32} {k23 : Hp → Int64 → Int32 → Int64 → Int32 → Int32 → Option (Hp × Int64)} (hm : (mi = 0 ∧ Chq g h S c y (look B y) ∧ look A y = []) ∨ (mi ≠ 0 ∧ Chq g h O c y (look A y) ∧ look A y ≠ [])) (h1 : sg f nx.toInt ≤ sg f y.toInt) (h3 : ∀ z : Int32, sg f nx.toInt ≤ sg f z.toInt → vis A B st z ≠ none → sg f y.toInt ≤ sg f z.toInt) (cont : vis A B st y = none → ∃ r, k23 h to f (nxt f y) tot (i + 1) = some (h, r) ∧ IsNr f (vis A B st) (nxt f y).toInt to.toInt r) : ∃ r, B_X8_nearest_133 N k23 v h to f tot i mi (some c) = some (h, r) ∧ IsNr f (vis A B st) nx.toInt to.toInt r := by
  have hc : h.kd c = 6 := hm.elim (fun z => z.2.1.1) (fun z => z.2.1.1)
  have hy : h.fi 600 c = y := hm.elim (fun z => z.2.1.2.2.1) (fun z => z.2.1.2.2.1)
  have test : ∀ {β : Type} (X Y : Option β), (if f = 0 then (ck (h.kd c = 6) (if 0 ≤ (lg_cmp ((h.fi 600 c).toInt64) to) then X else Y)) else (ck (h.kd c = 6) (if (lg_cmp ((h.fi 600 c).toInt64) to) ≤ 0 then X else Y))) = if sg f y.toInt ≤ sg f to.toInt then X else Y := by
    intro β X Y
    rw [hy]
    unfold sg
    by_cases c0 : f = 0
    · rw [if_pos c0, if_pos c0, if_pos c0, ck_eq hc]
      by_cases c1 : to.toInt ≤ y.toInt
      · rw [if_pos (lg_cmp_nn.mpr (by rw [toI64]; exact c1)), if_pos (by omega)]
      · rw [if_neg (fun z => c1 (by have := lg_cmp_nn.mp z; rw [toI64] at this; exact this)), if_neg (by omega)]
    · rw [if_neg c0, if_neg c0, if_neg c0, ck_eq hc]
      by_cases c1 : y.toInt ≤ to.toInt
      · rw [if_pos (lg_cmp_np.mpr (by rw [toI64]; exact c1)), if_pos c1]
      · rw [if_neg (fun z => c1 (by have := lg_cmp_np.mp z; rw [toI64] at this; exact this)), if_neg c1]
  have unf : B_X8_nearest_133 N k23 v h to f tot i mi (some c) = if sg f y.toInt ≤ sg f to.toInt then (B_X8_nearest_174 N k23 v h to f tot i mi (some c)) else (B_X8_nearest_170 N v h) := test _ _
  rw [unf]
  by_cases c2 : sg f y.toInt ≤ sg f to.toInt
  · rw [if_pos c2]
    unfold B_X8_nearest_174
    rcases hm with ⟨m1, m2, m3⟩ | ⟨m1, m2, m3⟩
    · obtain ⟨x, u1, u2⟩ := ch_upTo m2 N hN st
      obtain ⟨r, e1, e2⟩ := near_196 (tot := tot) (i := i) (k23 := k23) q N hc hy (x := x) (by rw [seenE_sto m3]; exact u2.eo) h1 c2 h3 cont
      refine ⟨r, ?_, e2⟩
      refine (if_pos (by exact m1)).trans ?_
      refine (dr_e (by exact rfl) (by exact hc)).trans ?_
      rw [q.2.2.2.1]
      refine (bnd (by exact u1)).trans ?_
      exact e1
    · obtain ⟨r, e1, e2⟩ := near_196 (tot := tot) (i := i) (k23 := k23) q N hc hy (x := h.fr 601 c) (by rw [seenE_own m3]; exact m2.2.2.2.1.eo) h1 c2 h3 cont
      refine ⟨r, ?_, e2⟩
      refine (if_neg (by exact m1)).trans ?_
      refine (dr_e (by exact rfl) (by exact hc)).trans ?_
      exact e1
  · rw [if_neg c2]
    refine ⟨_, rfl, Or.inl ⟨rfl, fun z p1 p2 => ?_⟩⟩
    cases hz : vis A B st z with
    | none => rfl
    | some w =>
      have := h3 z p1 (by rw [hz]; exact Option.some_ne_none _)
      omega
theorem vis_look {A B : List (Int32 × List Ent)} {st z : Int32} (h : vis A B st z ≠ none) : look A z ≠ [] ∨ look B z ≠ [] := by
  by_cases c1 : look A z = []
  · by_cases c2 : look B z = []
    · exact absurd (vis_none c1 c2) h
    · exact Or.inr c2
  · exact Or.inl c1
theorem near_loop {g : Nat → Nat} {h : Hp} {v S lS O lO : Nat} {st : Int32} {A B : List (Int32 × List Ent)} (q : Vr g h v S lS O lO st A B) (N : Nat) (hN : 100000 < N) (f : Int32) (to : Int64) : ∀ (m i F : Nat) (nx : Int64), m = A.length + B.length - i → i ≤ cntB f A nx.toInt + cntB f B nx.toInt → m < F → -2147483650 ≤ nx.toInt → nx.toInt ≤ 2147483650 → ∃ r, L_X8_nearest_23 N v F h to f nx (nI (A.length + B.length)) (nI i) = some (h, r) ∧ IsNr f (vis A B st) nx.toInt to.toInt r := by
  have q0 := q
  obtain ⟨q1, q2, q3, q4, qA, qB⟩ := q
  have hlA := sh_len qA
  have hlB := sh_len qB
  intro m
  induction m with
  | zero =>
    intro i F nx hm hi hF hn1 hn2
    obtain ⟨F, rfl⟩ : ∃ F', F = F' + 1 := ⟨F - 1, by omega⟩
    have a1 := cntB_le f A nx.toInt
    have a2 := cntB_le f B nx.toInt
    refine ⟨-9223372036854775808, ?_, Or.inl ⟨rfl, fun z p1 p2 => ?_⟩⟩
    · show B_X8_nearest_23 N _ v h to f nx _ _ = _
      unfold B_X8_nearest_23
      refine (if_pos (by exact (ni_le (by omega) (by omega)).mpr (by omega))).trans ?_
      rfl
    · by_cases c : vis A B st z = none
      · exact c
      · exfalso
        rcases vis_look c with c1 | c1
        · have := cntB_all f (show cntB f A nx.toInt = A.length by omega) _ (sh_memk qA c1)
          simp only at this
          omega
        · have := cntB_all f (show cntB f B nx.toInt = B.length by omega) _ (sh_memk qB c1)
          simp only at this
          omega
  | succ m ih =>
    intro i F nx hm hi hF hn1 hn2
    obtain ⟨F, rfl⟩ : ∃ F', F = F' + 1 := ⟨F - 1, by omega⟩
    obtain ⟨x, x1, x2⟩ := sh_next qA N hN nx hn1 hn2 f
    obtain ⟨w, w1, w2⟩ := sh_next qB N hN nx hn1 hn2 f
    have unf : ∀ R, B_X8_nearest_54 N (L_X8_nearest_23 N v F) v h to f (nI (A.length + B.length)) (nI i) x w = R → L_X8_nearest_23 N v (F + 1) h to f nx (nI (A.length + B.length)) (nI i) = R := by
      intro R hR
      show B_X8_nearest_23 N _ v h to f nx _ _ = _
      unfold B_X8_nearest_23
      refine (if_neg (by exact fun z => by rw [ni_le (by omega) (by omega)] at z; omega)).trans ?_
      refine (dr_e (by exact q3) (by exact qA.1)).trans ?_
      refine (bnd (by exact x1)).trans ?_
      unfold B_X8_nearest_41
      refine (dr_e (by exact q2) (by exact qB.1)).trans ?_
      refine (bnd (by exact w1)).trans ?_
      exact hR
    -- the way on behind a key y of one of the two
    have cont : ∀ y : Int32, sg f nx.toInt ≤ sg f y.toInt → (look A y ≠ [] ∨ look B y ≠ []) → ∃ r, L_X8_nearest_23 N v F h to f (nxt f y) (nI (A.length + B.length)) (nI i + 1) = some (h, r) ∧ IsNr f (vis A B st) (nxt f y).toInt to.toInt r := by
      intro y hy hyy
      obtain ⟨s1, s2, s3⟩ := nxt_sg f y
      rw [ni_inc]
      refine ih (i + 1) F (nxt f y) (by omega) ?_ (by omega) s2 s3
      have m1 := cntB_mono f A (x := nx.toInt) (x' := (nxt f y).toInt) (by omega)
      have m2 := cntB_mono f B (x := nx.toInt) (x' := (nxt f y).toInt) (by omega)
      rcases hyy with c | c
      · have := cntB_lt f A (sh_memk qA c) hy (show sg f y.toInt < sg f (nxt f y).toInt by omega)
        omega
      · have := cntB_lt f B (sh_memk qB c) hy (show sg f y.toInt < sg f (nxt f y).toInt by omega)
        omega
    rcases x2 with ⟨a1, a2⟩ | ⟨ca, ya, a1, a2, a3, a4, a5⟩
    · rcases w2 with ⟨b1, b2⟩ | ⟨cb, yb, b1, b2, b3, b4, b5⟩
      · -- neither
        refine ⟨-9223372036854775808, unf _ ?_, Or.inl ⟨rfl, fun z p1 p2 => ?_⟩⟩
        · subst a1; subst b1
          rfl
        · by_cases c : vis A B st z = none
          · exact c
          · exfalso
            rcases vis_look c with c1 | c1
            · have := a2 z c1; omega
            · have := b2 z c1; omega
      · -- the store's alone
        have hA : look A yb = [] := by
          by_cases c : look A yb = []
          · exact c
          · have := a2 yb c; omega
        obtain ⟨r, e1, e2⟩ := near_133 (tot := nI (A.length + B.length)) (i := nI i) (k23 := L_X8_nearest_23 N v F) (mi := 0) q0 N hN (Or.inl ⟨rfl, b3, hA⟩) b4 (fun z p1 p2 => by
          rcases vis_look p2 with c1 | c1
          · have := a2 z c1; omega
          · exact b5 z c1 p1) (fun _ => cont yb b4 (Or.inr b2))
        refine ⟨r, unf _ ?_, e2⟩
        subst a1; subst b1
        exact e1
    · rcases w2 with ⟨b1, b2⟩ | ⟨cb, yb, b1, b2, b3, b4, b5⟩
      · -- its own alone
        obtain ⟨r, e1, e2⟩ := near_133 (tot := nI (A.length + B.length)) (i := nI i) (k23 := L_X8_nearest_23 N v F) (mi := 1) q0 N hN (Or.inr ⟨by decide, a3, a2⟩) a4 (fun z p1 p2 => by
          rcases vis_look p2 with c1 | c1
          · exact a5 z c1 p1
          · have := b2 z c1; omega) (fun _ => cont ya a4 (Or.inl a2))
        refine ⟨r, unf _ ?_, e2⟩
        subst a1; subst b1
        exact e1
      · have test : ∀ {β : Type} (X Y : Option β), (if f = 0 then (ck (h.kd ca = 6) (ck (h.kd cb = 6) (if (h.fi 600 ca) < (h.fi 600 cb) then X else Y))) else (ck (h.kd ca = 6) (ck (h.kd cb = 6) (if (h.fi 600 cb) < (h.fi 600 ca) then X else Y)))) = if sg f yb.toInt < sg f ya.toInt then X else Y := by
          intro β X Y
          rw [a3.2.2.1, b3.2.2.1]
          unfold sg
          by_cases c0 : f = 0
          · rw [if_pos c0, if_pos c0, if_pos c0, ck_eq a3.1, ck_eq b3.1]
            by_cases c1 : ya < yb
            · rw [if_pos c1, if_pos (by have := Int32.lt_iff_toInt_lt.mp c1; omega)]
            · rw [if_neg c1, if_neg (fun z => c1 (Int32.lt_iff_toInt_lt.mpr (by omega)))]
          · rw [if_neg c0, if_neg c0, if_neg c0, ck_eq a3.1, ck_eq b3.1]
            by_cases c1 : yb < ya
            · rw [if_pos c1, if_pos (Int32.lt_iff_toInt_lt.mp c1)]
            · rw [if_neg c1, if_neg (fun z => c1 (Int32.lt_iff_toInt_lt.mpr z))]
        have unf2 : B_X8_nearest_54 N (L_X8_nearest_23 N v F) v h to f (nI (A.length + B.length)) (nI i) x w = if sg f yb.toInt < sg f ya.toInt then (B_X8_nearest_133 N (L_X8_nearest_23 N v F) v h to f (nI (A.length + B.length)) (nI i) 0 (some cb)) else (B_X8_nearest_133 N (L_X8_nearest_23 N v F) v h to f (nI (A.length + B.length)) (nI i) 1 (some ca)) := by
          subst a1; subst b1
          exact test _ _
        by_cases c3 : sg f yb.toInt < sg f ya.toInt
        · have hA : look A yb = [] := by
            by_cases c : look A yb = []
            · exact c
            · have := a5 yb c b4; omega
          obtain ⟨r, e1, e2⟩ := near_133 (tot := nI (A.length + B.length)) (i := nI i) (k23 := L_X8_nearest_23 N v F) (mi := 0) q0 N hN (Or.inl ⟨rfl, b3, hA⟩) b4 (fun z p1 p2 => by
            rcases vis_look p2 with c1 | c1
            · have := a5 z c1 p1; omega
            · exact b5 z c1 p1) (fun _ => cont yb b4 (Or.inr b2))
          exact ⟨r, unf _ (by rw [unf2, if_pos c3]; exact e1), e2⟩
        · obtain ⟨r, e1, e2⟩ := near_133 (tot := nI (A.length + B.length)) (i := nI i) (k23 := L_X8_nearest_23 N v F) (mi := 1) q0 N hN (Or.inr ⟨by decide, a3, a2⟩) a4 (fun z p1 p2 => by
            rcases vis_look p2 with c1 | c1
            · exact a5 z c1 p1
            · have := b5 z c1 p1; omega) (fun _ => cont ya a4 (Or.inl a2))
          exact ⟨r, unf _ (by rw [unf2, if_neg c3]; exact e1), e2⟩
theorem vw_nearest {g : Nat → Nat} {h : Hp} {v S lS O lO : Nat} {st : Int32} {A B : List (Int32 × List Ent)} (q : Vr g h v S lS O lO st A B) (N : Nat) (hN : 1000000 < N) (f : Int32) (nx to : Int64) (hn1 : -2147483650 ≤ nx.toInt) (hn2 : nx.toInt ≤ 2147483650) : ∃ r, J_X8_nearest N v h nx to f = some (h, r) ∧ IsNr f (vis A B st) nx.toInt to.toInt r := by
  have hlA := sh_len q.2.2.2.2.1
  have hlB := sh_len q.2.2.2.2.2
  obtain ⟨r, e1, e2⟩ := near_loop q N (by omega) f to (A.length + B.length) 0 N nx (by omega) (Nat.zero_le _) (by omega) hn1 hn2
  refine ⟨r, ?_, e2⟩
  unfold J_X8_nearest B_X8_nearest_0
  refine (dr_e (by exact q.2.1) (by exact q.2.2.2.2.2.1)).trans ?_
  refine (bnd (by exact sh_size q.2.2.2.2.2 N)).trans ?_
  unfold B_X8_nearest_10
  refine (dr_e (by exact q.2.2.1) (by exact q.2.2.2.2.1.1)).trans ?_
  refine (bnd (by exact sh_size q.2.2.2.2.1 N)).trans ?_
  unfold B_X8_nearest_17
  rw [nI_add, Nat.add_comm B.length]
  exact e1
