section KV
variable {g : Nat → Nat} {h : Hp} {p : Nat → Nat} {G : Nat → Int32} {fv : Int64} {lr : Option Nat} {B : Shf} {V : List Kv} {ts : List Nat} {D : Nat → TD} {ac cm ot : List Nat} {ct rs : Nat → Int32} {d0 : AnD} {R : List (Int32 × Int64)} {cO : Nat}
/-- the readers among xs are gathered -/
def GaR (D : Nat → TD) (i : Nat) (xs ot : List Nat) : Prop := (∀ j, j ∈ ot ↔ j ∈ xs ∧ j ≠ i ∧ Rd D (D i).2.2.1 j) ∧ ot.length ≤ xs.length
theorem GaR.snoc {D : Nat → TD} {i : Nat} {xs ot ot' : List Nat} {j : Nat} (a : GaR D i xs ot) (b : (ot' = ot ∧ ¬ (j ≠ i ∧ Rd D (D i).2.2.1 j)) ∨ (ot' = ot ++ [j] ∧ j ≠ i ∧ Rd D (D i).2.2.1 j)) : GaR D i (xs ++ [j]) ot' := by
  rcases b with ⟨b1, b2⟩ | ⟨b1, b2⟩
  · rw [b1]
    refine ⟨fun x => ?_, by rw [List.length_append]; have := a.2; omega⟩
    rw [a.1 x, List.mem_append, List.mem_singleton]
    constructor
    · rintro ⟨x1, x2⟩; exact ⟨Or.inl x1, x2⟩
    · rintro ⟨x1 | x1, x2⟩
      · exact ⟨x1, x2⟩
      · exact absurd (by rw [← x1]; exact x2) b2
  · rw [b1]
    refine ⟨fun x => ?_, by rw [List.length_append, List.length_append]; have := a.2; show _ + 1 ≤ _ + 1; omega⟩
    rw [List.mem_append, a.1 x, List.mem_append, List.mem_singleton]
    constructor
    · rintro (⟨x1, x2⟩ | x1)
      · exact ⟨Or.inl x1, x2⟩
      · exact ⟨Or.inr x1, by rw [x1]; exact b2⟩
    · rintro ⟨x1 | x1, x2⟩
      · exact Or.inl ⟨x1, x2⟩
      · exact Or.inr x1
theorem ga_act (N : Nat) (hN : 100000 < N) {i t n : Nat} (hi : ts[i]? = some t) (hac : ∀ j ∈ ac, j < ts.length) (hn : n < 90000) (xs : List Nat) (hxs : xs.length + ac.length ≤ n) : ∀ (m k F : Nat) (g : Nat → Nat) (h : Hp) (ot : List Nat) (cO : Nat), m = ac.length - k → k ≤ ac.length → m < F → Kr g h p G fv lr B V ts D ac cm ot ct rs d0 R cO → Wf g h → GaR D i (xs ++ ac.take k) ot → ∃ h' g' ot', L_X9_gatherReaders_43 N (p 11) F h (some t) (nI k) = some (h', ()) ∧ GaR D i (xs ++ ac) ot' ∧ Kr g' h' p G fv lr B V ts D ac cm ot' ct rs d0 R (cap h' (p 10)) ∧ Wf g' h' ∧ Grn h h' (p 10) n := by
  intro m
  induction m with
  | zero =>
    intro k F g h ot cO hm hk hF q w ga
    obtain ⟨F, rfl⟩ : ∃ F', F = F' + 1 := ⟨F - 1, by omega⟩
    rw [List.take_of_length_le (by omega)] at ga
    refine ⟨h, g, ot, ?_, ga, by rw [q.2.2.2.2.2.1.1.2]; exact q, w, Grn.rf _ _ _⟩
    show B_X9_gatherReaders_43 N _ (p 11) h (some t) (nI k) = _
    unfold B_X9_gatherReaders_43
    refine (dr_e (by exact q.1.2.2.2.2.2.2.1) (by exact q.2.2.2.1.2.1)).trans ?_
    refine (bnd (by exact al_size q.2.2.2.1.2 N)).trans ?_
    unfold B_X9_gatherReaders_51
    rw [List.length_map]
    refine (if_pos (by exact (ni_le (by omega) (by omega)).mpr (by omega))).trans ?_
    rfl
  | succ m ih =>
    intro k F g h ot cO hm hk hF q w ga
    obtain ⟨F, rfl⟩ : ∃ F', F = F' + 1 := ⟨F - 1, by omega⟩
    have hlt : k < ac.length := by omega
    have hj : ac[k]? = some ac[k] := List.getElem?_eq_getElem hlt
    have tk : ac.take (k + 1) = ac.take k ++ [ac[k]] := by rw [List.take_succ, hj]; rfl
    have hjm := List.mem_of_getElem? hj
    generalize ac[k] = j at hj tk hjm
    have hu := adr_get (hac j hjm)
    have tu := q.2.2.2.2.2.2.2.2.2.2.1 _ _ hu
    have hol : ot.length ≤ n := by
      have := ga.2
      rw [List.length_append, List.length_take] at this
      omega
    obtain ⟨h2, g2, ot2, a1, a2, a3, a4, a5⟩ := kr_gir q w N hN hi hu (by omega)
    have ga2 := ga.snoc a2
    rw [List.append_assoc, ← tk] at ga2
    obtain ⟨h3, g3, ot3, r1, r2, r3, r4, r5⟩ := ih (k + 1) F g2 h2 ot2 _ (by omega) (by omega) (by omega) a3 a4 ga2
    refine ⟨h3, g3, ot3, ?_, r2, r3, r4, ?_⟩
    · show B_X9_gatherReaders_43 N (L_X9_gatherReaders_43 N (p 11) F) (p 11) h (some t) (nI k) = _
      unfold B_X9_gatherReaders_43
      refine (dr_e (by exact q.1.2.2.2.2.2.2.1) (by exact q.2.2.2.1.2.1)).trans ?_
      refine (bnd (by exact al_size q.2.2.2.1.2 N)).trans ?_
      unfold B_X9_gatherReaders_51
      rw [List.length_map]
      refine (if_neg (by exact fun z => by rw [ni_le (by omega) (by omega)] at z; omega)).trans ?_
      refine (dr_e (by exact q.1.2.2.2.2.2.2.1) (by exact q.2.2.2.1.2.1)).trans ?_
      refine (bnd (by exact al_get q.2.2.2.1.2 N (map_get (ts := ts) hj))).trans ?_
      unfold B_X9_gatherReaders_63
      refine (dr_e (by exact rfl) (by exact tu.1)).trans ?_
      refine (dr_e (by exact rfl) (by exact q.1.1)).trans ?_
      refine (bnd (by exact a1)).trans ?_
      unfold B_X9_gatherReaders_70
      rw [ni_inc]
      exact r1
    · unfold Grn at *; omega
theorem ga_com (N : Nat) (hN : 100000 < N) {i t n s : Nat} (hi : ts[i]? = some t) (hac : ∀ j ∈ ac, j < ts.length) (hcm : ∀ j ∈ cm, j < ts.length) (hn : n < 90000) (hxs : cm.length + ac.length ≤ n) : ∀ (m k F : Nat) (g : Nat → Nat) (h : Hp) (ot : List Nat) (cO : Nat), m = cm.length - k → s ≤ k → k ≤ cm.length → m < F → Kr g h p G fv lr B V ts D ac cm ot ct rs d0 R cO → Wf g h → GaR D i ((cm.take k).drop s) ot → ∃ h' g' ot', L_X9_gatherReaders_14 N (p 11) F h (some t) (nI (k + 1)) = some (h', ()) ∧ GaR D i (cm.drop s ++ ac) ot' ∧ Kr g' h' p G fv lr B V ts D ac cm ot' ct rs d0 R (cap h' (p 10)) ∧ Wf g' h' ∧ Grn h h' (p 10) n := by
  intro m
  induction m with
  | zero =>
    intro k F g h ot cO hm hs hk hF q w ga
    obtain ⟨F, rfl⟩ : ∃ F', F = F' + 1 := ⟨F - 1, by omega⟩
    rw [List.take_of_length_le (by omega)] at ga
    obtain ⟨h3, g3, ot3, r1, r2, r3, r4, r5⟩ := ga_act N hN hi hac hn (cm.drop s) (by rw [List.length_drop]; omega) ac.length 0 N g h ot cO rfl (Nat.zero_le _) (by omega) q w (by rw [List.take_zero, List.append_nil]; exact ga)
    refine ⟨h3, g3, ot3, ?_, r2, r3, r4, r5⟩
    show B_X9_gatherReaders_14 N _ (p 11) h (some t) (nI (k + 1)) = _
    unfold B_X9_gatherReaders_14
    refine (dr_e (by exact q.1.2.2.2.2.2.2.2.1) (by exact q.2.2.2.2.1.2.1)).trans ?_
    refine (bnd (by exact al_size q.2.2.2.2.1.2 N)).trans ?_
    unfold B_X9_gatherReaders_22
    rw [List.length_map]
    refine (if_pos (by exact (ni_lt (by omega) (by omega)).mpr (by omega))).trans ?_
    exact r1
  | succ m ih =>
    intro k F g h ot cO hm hs hk hF q w ga
    obtain ⟨F, rfl⟩ : ∃ F', F = F' + 1 := ⟨F - 1, by omega⟩
    have hlt : k < cm.length := by omega
    have hj : cm[k]? = some cm[k] := List.getElem?_eq_getElem hlt
    have tk : (cm.take (k + 1)).drop s = (cm.take k).drop s ++ [cm[k]] := by
      rw [List.take_succ, hj, List.drop_append_of_le_length (by rw [List.length_take]; omega)]
      rfl
    have hjm := List.mem_of_getElem? hj
    generalize cm[k] = j at hj tk hjm
    have hu := adr_get (hcm j hjm)
    have hol : ot.length ≤ n := by
      have := ga.2
      rw [List.length_drop, List.length_take] at this
      omega
    obtain ⟨h2, g2, ot2, a1, a2, a3, a4, a5⟩ := kr_gir q w N hN hi hu (by omega)
    have ga2 := ga.snoc a2
    rw [← tk] at ga2
    obtain ⟨h3, g3, ot3, r1, r2, r3, r4, r5⟩ := ih (k + 1) F g2 h2 ot2 _ (by omega) (by omega) (by omega) (by omega) a3 a4 ga2
    have wm := kr_withMoment q hcm N (nI (k + 1))
    rw [num_nI (by omega) (by omega), show k + 1 - 1 = k by omega, map_get (ts := ts) hj] at wm
    refine ⟨h3, g3, ot3, ?_, r2, r3, r4, ?_⟩
    · show B_X9_gatherReaders_14 N (L_X9_gatherReaders_14 N (p 11) F) (p 11) h (some t) (nI (k + 1)) = _
      unfold B_X9_gatherReaders_14
      refine (dr_e (by exact q.1.2.2.2.2.2.2.2.1) (by exact q.2.2.2.2.1.2.1)).trans ?_
      refine (bnd (by exact al_size q.2.2.2.2.1.2 N)).trans ?_
      unfold B_X9_gatherReaders_22
      rw [List.length_map]
      refine (if_neg (by exact fun z => by rw [ni_lt (by omega) (by omega)] at z; omega)).trans ?_
      refine (bnd (by exact wm)).trans ?_
      unfold B_X9_gatherReaders_31
      refine (dr_e (by exact rfl) (by exact q.1.1)).trans ?_
      refine (bnd (by exact a1)).trans ?_
      unfold B_X9_gatherReaders_35
      rw [ni_inc]
      exact r1
    · unfold Grn at *; omega
theorem kr_readers (q : Kr g h p G fv lr B V ts D ac cm ot ct rs d0 R cO) (w : Wf g h) (N : Nat) (hN : 100000 < N) {i t n s : Nat} (hi : ts[i]? = some t) (hac : ∀ j ∈ ac, j < ts.length) (hcm : ∀ j ∈ cm, j < ts.length) (hn : n < 90000) (hxs : cm.length + ac.length ≤ n) (hs : (D i).1 1001 = nI s) (hsc : s ≤ cm.length) : ∃ h' g' ot', J_X9_gatherReaders N (p 11) h (some t) = some (h', ()) ∧ GaR D i (cm.drop s ++ ac) ot' ∧ Kr g' h' p G fv lr B V ts D ac cm ot' ct rs d0 R (cap h' (p 10)) ∧ Wf g' h' ∧ Grn h h' (p 10) n := by
  obtain ⟨h1, e1, e2, e3, e4, e5, e6⟩ := al_clear q.2.2.2.2.2.1.2 w N hN
  have q1 := q.oth w e3 (ot' := []) e2
  have tt := q1.2.2.2.2.2.2.2.2.2.2.1 i t hi
  obtain ⟨h3, g3, ot3, r1, r2, r3, r4, r5⟩ := ga_com (s := s) N hN hi hac hcm hn hxs (cm.length - s) s N g h1 [] _ rfl (Nat.le_refl _) hsc (by omega) q1 e3.wf ⟨fun j => by
    rw [List.drop_eq_nil_of_le (by rw [List.length_take]; omega)]
    simp, Nat.zero_le _⟩
  refine ⟨h3, g3, ot3, ?_, r2, r3, r4, ?_⟩
  · unfold J_X9_gatherReaders B_X9_gatherReaders_0
    refine (dr_e (by exact q.1.2.2.2.2.2.2.2.2.2.2.2.1) (by exact q.2.2.2.2.2.1.2.1)).trans ?_
    refine (bnd (by exact e1)).trans ?_
    unfold B_X9_gatherReaders_7
    refine (dr_e (by exact rfl) (by exact tt.1)).trans ?_
    rw [tt.2.2.1, hs, ni_inc]
    exact r1
  · unfold Grn at *
    omega
/-- the least number of those that may not precede one with OUT o -/
def Fdq (D : Nat → TD) (o : Int32) (xs : List Nat) (r : Option Nat) : Prop := (r = none ∧ ∀ j ∈ xs, ¬ mayNotF (D j).1 o) ∨ ∃ k, r = some k ∧ k ∈ xs ∧ mayNotF (D k).1 o ∧ ∀ j ∈ xs, mayNotF (D j).1 o → (D k).1 1000 ≤ (D j).1 1000
theorem fd_loop (q : Kr g h p G fv lr B V ts D ac cm ot ct rs d0 R cO) (w : Wf g h) (N : Nat) (hcm : ∀ j ∈ cm, j < ts.length) (hot : ∀ j ∈ ot, j < ts.length) (hol : ot.length < 100000) {i t : Nat} (hi : ts[i]? = some t) : ∀ (m k F : Nat) (r : Option Nat), m = ot.length - k → k ≤ ot.length → m < F → Fdq D ((D i).1 1008) (ot.take k) r → ∃ h' r', L_X9_isInDanger_4 N (p 11) F h (some t) (r.map (adr ts)) (nI k) = some (h', if r' = none then 0 else 1) ∧ Fdq D ((D i).1 1008) ot r' ∧ Kr g h' p G fv lr B V ts D ac cm ot ct (match r' with | none => rs | some b => va_up (va_up (va_up (va_up rs 0 2) 1 ((D b).1 1000)) 2 ((D i).1 1000)) 3 (nmOf ts D cm ((D i).1 1008))) d0 R cO ∧ Wf g h' ∧ h'.nx = h.nx ∧ h'.su = h.su := by
  have tt := q.2.2.2.2.2.2.2.2.2.2.1 i t hi
  intro m
  induction m with
  | zero =>
    intro k F r hm hk hF fb
    obtain ⟨F, rfl⟩ : ∃ F', F = F' + 1 := ⟨F - 1, by omega⟩
    rw [List.take_of_length_le (by omega)] at fb
    have start : ∀ {z : Option (Hp × Int32)}, nl (r.map (adr ts)) (some (h, (0 : Int32))) (fun a13 => (J_X9_blameDanger N (p 11) h (some a13) (some t)).bind (fun z => B_X9_isInDanger_77 N (p 11) z.1)) = z → L_X9_isInDanger_4 N (p 11) (F + 1) h (some t) (r.map (adr ts)) (nI k) = z := by
      intro z hz
      show B_X9_isInDanger_4 N _ (p 11) h (some t) _ (nI k) = _
      unfold B_X9_isInDanger_4
      refine (dr_e (by exact q.1.2.2.2.2.2.2.2.2.2.2.2.1) (by exact q.2.2.2.2.2.1.2.1)).trans ?_
      refine (bnd (by exact al_size q.2.2.2.2.2.1.2 N)).trans ?_
      unfold B_X9_isInDanger_12
      rw [List.length_map]
      refine (if_pos (by exact (ni_le (by omega) (by omega)).mpr (by omega))).trans ?_
      exact hz
    cases r with
    | none => exact ⟨h, none, start rfl, fb, q, w, rfl, rfl⟩
    | some b =>
      have hb : b < ts.length := by
        rcases fb with ⟨z, -⟩ | ⟨k, z1, z2, -⟩
        · cases z
        · injection z1 with z1
          rw [z1]; exact hot k z2
      obtain ⟨h2, b1, b2, b3, b4, b5⟩ := kr_blameD q w hcm N (adr_get hb) hi
      refine ⟨h2, some b, start ?_, fb, b2, b3.wf, b4, b5⟩
      refine (nl_so (by exact rfl)).trans ?_
      refine (bnd (by exact b1)).trans ?_
      rfl
  | succ m ih =>
    intro k F r hm hk hF fb
    obtain ⟨F, rfl⟩ : ∃ F', F = F' + 1 := ⟨F - 1, by omega⟩
    have hlt : k < ot.length := by omega
    have hj : ot[k]? = some ot[k] := List.getElem?_eq_getElem hlt
    have hjm := List.mem_of_getElem? hj
    have tk : ot.take (k + 1) = ot.take k ++ [ot[k]] := by rw [List.take_succ, hj]; rfl
    generalize ot[k] = j at hj hjm tk
    have tj := q.2.2.2.2.2.2.2.2.2.2.1 _ _ (adr_get (hot j hjm))
    obtain ⟨v, v1, v2⟩ := tx_mayNot tj N ((D i).1 1008)
    have start : ∀ {z : Option (Hp × Int32)}, B_X9_isInDanger_37 N (L_X9_isInDanger_4 N (p 11) F) (p 11) h (some t) (r.map (adr ts)) (nI k) (some (adr ts j)) v = z → L_X9_isInDanger_4 N (p 11) (F + 1) h (some t) (r.map (adr ts)) (nI k) = z := by
      intro z hz
      show B_X9_isInDanger_4 N (L_X9_isInDanger_4 N (p 11) F) (p 11) h (some t) _ (nI k) = _
      unfold B_X9_isInDanger_4
      refine (dr_e (by exact q.1.2.2.2.2.2.2.2.2.2.2.2.1) (by exact q.2.2.2.2.2.1.2.1)).trans ?_
      refine (bnd (by exact al_size q.2.2.2.2.2.1.2 N)).trans ?_
      unfold B_X9_isInDanger_12
      rw [List.length_map]
      refine (if_neg (by exact fun z => by rw [ni_le (by omega) (by omega)] at z; omega)).trans ?_
      refine (dr_e (by exact q.1.2.2.2.2.2.2.2.2.2.2.2.1) (by exact q.2.2.2.2.2.1.2.1)).trans ?_
      refine (bnd (by exact al_get q.2.2.2.2.2.1.2 N (map_get (ts := ts) hj))).trans ?_
      unfold B_X9_isInDanger_23
      refine (dr_e (by exact rfl) (by exact tj.1)).trans ?_
      refine (dr_e (by exact rfl) (by exact tt.1)).trans ?_
      rw [tt.2.2.1]
      refine (bnd (by exact v1)).trans ?_
      exact hz
    have mem : ∀ x, x ∈ ot.take (k + 1) ↔ x ∈ ot.take k ∨ x = j := fun x => by rw [tk, List.mem_append, List.mem_singleton]
    have go59 : ∀ (r : Option Nat), Fdq D ((D i).1 1008) (ot.take (k + 1)) r → ∃ h' r', B_X9_isInDanger_59 N (L_X9_isInDanger_4 N (p 11) F) (p 11) h (some t) (r.map (adr ts)) (nI k) = some (h', if r' = none then 0 else 1) ∧ Fdq D ((D i).1 1008) ot r' ∧ Kr g h' p G fv lr B V ts D ac cm ot ct (match r' with | none => rs | some b => va_up (va_up (va_up (va_up rs 0 2) 1 ((D b).1 1000)) 2 ((D i).1 1000)) 3 (nmOf ts D cm ((D i).1 1008))) d0 R cO ∧ Wf g h' ∧ h'.nx = h.nx ∧ h'.su = h.su := by
      intro r f
      obtain ⟨h', r', s1, s2⟩ := ih (k + 1) F r (by omega) (by omega) (by omega) f
      refine ⟨h', r', ?_, s2⟩
      unfold B_X9_isInDanger_59
      rw [ni_inc]
      exact s1
    rcases v2 with ⟨w1, w2⟩ | ⟨w1, w2⟩
    · rcases fb with ⟨f1, f2⟩ | ⟨b, f1, f2, f3, f4⟩
      · obtain ⟨h', r', s1, s2⟩ := go59 (some j) (Or.inr ⟨j, rfl, (mem j).mpr (Or.inr rfl), w2, fun x hx hm => ((mem x).mp hx).elim (fun y => absurd hm (f2 x y)) (fun y => by rw [y]; exact Int32.le_refl _)⟩)
        refine ⟨h', r', start ?_, s2⟩
        unfold B_X9_isInDanger_37
        refine (if_neg (by rw [w1]; decide)).trans ?_
        refine (nl_ne (by exact by rw [f1]; rfl)).trans ?_
        exact s1
      · have tb := q.2.2.2.2.2.2.2.2.2.2.1 _ _ (adr_get (hot b (List.mem_of_mem_take f2)))
        by_cases c : (D b).1 1000 ≤ (D j).1 1000
        · obtain ⟨h', r', s1, s2⟩ := go59 (some b) (Or.inr ⟨b, rfl, (mem b).mpr (Or.inl f2), f3, fun x hx hm => ((mem x).mp hx).elim (fun y => f4 x y hm) (fun y => by rw [y]; exact c)⟩)
          refine ⟨h', r', start ?_, s2⟩
          unfold B_X9_isInDanger_37
          refine (if_neg (by rw [w1]; decide)).trans ?_
          refine (nl_so (by exact by rw [f1]; rfl)).trans ?_
          refine (dr_e (by exact rfl) (by exact tj.1)).trans ?_
          refine (ck_eq (by exact tb.1)).trans ?_
          rw [tb.2.2.1, tj.2.2.1]
          refine (if_pos (by exact c)).trans ?_
          exact s1
        · have c' : (D j).1 1000 ≤ (D b).1 1000 := by
            rw [Int32.le_iff_toInt_le] at c ⊢
            omega
          obtain ⟨h', r', s1, s2⟩ := go59 (some j) (Or.inr ⟨j, rfl, (mem j).mpr (Or.inr rfl), w2, fun x hx hm => ((mem x).mp hx).elim (fun y => Int32.le_trans c' (f4 x y hm)) (fun y => by rw [y]; exact Int32.le_refl _)⟩)
          refine ⟨h', r', start ?_, s2⟩
          unfold B_X9_isInDanger_37
          refine (if_neg (by rw [w1]; decide)).trans ?_
          refine (nl_so (by exact by rw [f1]; rfl)).trans ?_
          refine (dr_e (by exact rfl) (by exact tj.1)).trans ?_
          refine (ck_eq (by exact tb.1)).trans ?_
          rw [tb.2.2.1, tj.2.2.1]
          refine (if_neg (by exact c)).trans ?_
          exact s1
    · obtain ⟨h', r', s1, s2⟩ := go59 r (by
        rcases fb with ⟨f1, f2⟩ | ⟨b, f1, f2, f3, f4⟩
        · exact Or.inl ⟨f1, fun x hx => ((mem x).mp hx).elim (f2 x) (fun y => by rw [y]; exact w2)⟩
        · exact Or.inr ⟨b, f1, (mem b).mpr (Or.inl f2), f3, fun x hx hm => ((mem x).mp hx).elim (fun y => f4 x y hm) (fun y => absurd hm (by rw [y]; exact w2))⟩)
      refine ⟨h', r', start ?_, s2⟩
      unfold B_X9_isInDanger_37
      refine (if_pos (by exact w1)).trans ?_
      exact s1
theorem kr_danger (q : Kr g h p G fv lr B V ts D ac cm ot ct rs d0 R cO) (w : Wf g h) (N : Nat) (hN : 100000 < N) (hcm : ∀ j ∈ cm, j < ts.length) (hot : ∀ j ∈ ot, j < ts.length) {i t : Nat} (hi : ts[i]? = some t) : ∃ h' r', J_X9_isInDanger N (p 11) h (some t) = some (h', if r' = none then 0 else 1) ∧ Fdq D ((D i).1 1008) ot r' ∧ Kr g h' p G fv lr B V ts D ac cm ot ct (match r' with | none => rs | some b => va_up (va_up (va_up (va_up rs 0 2) 1 ((D b).1 1000)) 2 ((D i).1 1000)) 3 (nmOf ts D cm ((D i).1 1008))) d0 R cO ∧ Wf g h' ∧ h'.nx = h.nx ∧ h'.su = h.su := by
  have hol : ot.length < 100000 := by have := q.2.2.2.2.2.1.2.2.1; rw [List.length_map] at this; exact this
  exact fd_loop q w N hcm hot hol hi ot.length 0 N none rfl (Nat.zero_le _) (by omega) (Or.inl ⟨rfl, fun j hj => by simp at hj⟩)
end KV
