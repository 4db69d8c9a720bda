/-! what a view sees -/
/-- x is the entry o, or null -/
def Eo (h : Hp) (x : Option Nat) (o : Option Ent) : Prop := (x = none ∧ o = none) ∨ ∃ a e, x = some a ∧ o = some e ∧ Ef h a e
theorem En.eo {g : Nat → Nat} {h : Hp} {L : List Ent} {x : Option Nat} (q : En g h L x) : Eo h x L.head? := by
  cases L with
  | nil => exact Or.inl ⟨q, rfl⟩
  | cons e r => exact q.elim fun a z => Or.inr ⟨a, e, z.1, rfl, z.2.2.1⟩
def seenE (A B : List (Int32 × List Ent)) (st k : Int32) : Option Ent := match look A k with
  | e :: _ => some e
  | [] => (dropW st (look B k)).head?
theorem seenE_own {A B : List (Int32 × List Ent)} {st k : Int32} (h : look A k ≠ []) : seenE A B st k = (look A k).head? := by
  unfold seenE
  cases e : look A k with
  | nil => exact absurd e h
  | cons a r => rfl
theorem seenE_sto {A B : List (Int32 × List Ent)} {st k : Int32} (h : look A k = []) : seenE A B st k = (dropW st (look B k)).head? := by
  unfold seenE
  rw [h]
def visE (o : Option Ent) : Option Int64 := match o with
  | none => none
  | some e => if e.2.2.1 = 0 then none else some e.2.2.2
def vis (A B : List (Int32 × List Ent)) (st k : Int32) : Option Int64 := visE (seenE A B st k)
theorem vis_none {A B : List (Int32 × List Ent)} {st k : Int32} (h1 : look A k = []) (h2 : look B k = []) : vis A B st k = none := by
  unfold vis
  rw [seenE_sto h1, h2]
  rfl
/-- a view at v: the store S, its own shelf O -/
def Vr (g : Nat → Nat) (h : Hp) (v S lS O lO : Nat) (st : Int32) (A B : List (Int32 × List Ent)) : Prop := h.kd v = 11 ∧ h.fr 1100 v = some S ∧ h.fr 1103 v = some O ∧ h.fi 1101 v = st ∧ Sh g h O lO A ∧ Sh g h S lS B
theorem vw_seen {g : Nat → Nat} {h : Hp} {v S lS O lO : Nat} {st : Int32} {A B : List (Int32 × List Ent)} (q : Vr g h v S lS O lO st A B) (N : Nat) (hN : 100000 < N) (k : Int32) : ∃ x, J_X8_seen N v h k = some (h, x) ∧ Eo h x (seenE A B st k) := by
  obtain ⟨q1, q2, q3, q4, qA, qB⟩ := q
  obtain ⟨x, e1, e2⟩ := sh_find qA N hN k
  rcases e2 with ⟨x1, x2⟩ | ⟨c, x1, x2, x3, -⟩
  · subst x1
    obtain ⟨y, f1, f2⟩ := sh_find qB N hN k
    rcases f2 with ⟨y1, y2⟩ | ⟨c, y1, y2, y3, -⟩
    · subst y1
      refine ⟨none, ?_, Or.inl ⟨rfl, by rw [seenE_sto x2, y2]; rfl⟩⟩
      unfold J_X8_seen B_X8_seen_0
      refine (dr_e (by exact q3) (by exact qA.1)).trans ?_
      refine (bnd (by exact e1)).trans ?_
      unfold B_X8_seen_8
      refine (nl_ne (by exact rfl)).trans ?_
      refine (dr_e (by exact q2) (by exact qB.1)).trans ?_
      refine (bnd (by exact f1)).trans ?_
      unfold B_X8_seen_26
      refine (nl_ne (by exact rfl)).trans ?_
      rfl
    · subst y1
      obtain ⟨z, u1, u2⟩ := ch_upTo y3 N hN st
      refine ⟨z, ?_, by rw [seenE_sto x2]; exact u2.eo⟩
      unfold J_X8_seen B_X8_seen_0
      refine (dr_e (by exact q3) (by exact qA.1)).trans ?_
      refine (bnd (by exact e1)).trans ?_
      unfold B_X8_seen_8
      refine (nl_ne (by exact rfl)).trans ?_
      refine (dr_e (by exact q2) (by exact qB.1)).trans ?_
      refine (bnd (by exact f1)).trans ?_
      unfold B_X8_seen_26
      refine (nl_so (by exact rfl)).trans ?_
      refine (ck_eq (by exact y3.1)).trans ?_
      rw [q4]
      refine (bnd (by exact u1)).trans ?_
      rfl
  · subst x1
    refine ⟨h.fr 601 c, ?_, by rw [seenE_own x2]; exact x3.2.2.2.1.eo⟩
    unfold J_X8_seen B_X8_seen_0
    refine (dr_e (by exact q3) (by exact qA.1)).trans ?_
    refine (bnd (by exact e1)).trans ?_
    unfold B_X8_seen_8
    refine (nl_so (by exact rfl)).trans ?_
    refine (ck_eq (by exact x3.1)).trans ?_
    rfl
/-- upwards, or downwards -/
def sg (f : Int32) (x : Int) : Int := if f = 0 then -x else x
theorem sg_le {f : Int32} {x y : Int} (h : sg f x ≤ sg f y) (h2 : sg f y ≤ sg f x) : x = y := by
  unfold sg at *
  by_cases c : f = 0
  · rw [if_pos c, if_pos c] at *; omega
  · rw [if_neg c, if_neg c] at *; omega
theorem i64_add1 {k : Int64} (h1 : -2147483650 ≤ k.toInt) (h2 : k.toInt ≤ 2147483650) : (k + 1).toInt = k.toInt + 1 := by
  rw [Int64.toInt_add]
  rw [show (1 : Int64).toInt = 1 from rfl]
  exact Int.bmod_eq_of_le (by omega) (by omega)
theorem i64_sub1 {k : Int64} (h1 : -2147483650 ≤ k.toInt) (h2 : k.toInt ≤ 2147483650) : (k - 1).toInt = k.toInt - 1 := by
  rw [Int64.toInt_sub]
  rw [show (1 : Int64).toInt = 1 from rfl]
  exact Int.bmod_eq_of_le (by omega) (by omega)
theorem sh_next {g : Nat → Nat} {h : Hp} {s l : Nat} {L : List (Int32 × List Ent)} (q : Sh g h s l L) (N : Nat) (hN : 100000 < N) (k : Int64) (h1 : -2147483650 ≤ k.toInt) (h2 : k.toInt ≤ 2147483650) (f : Int32) : ∃ x, J_X5_nextChain N s h k f = some (h, x) ∧ ((x = none ∧ ∀ z, look L z ≠ [] → sg f z.toInt < sg f k.toInt) ∨ ∃ c y, x = some c ∧ look L y ≠ [] ∧ Chq g h s c y (look L y) ∧ sg f k.toInt ≤ sg f y.toInt ∧ ∀ z, look L z ≠ [] → sg f k.toInt ≤ sg f z.toInt → sg f y.toInt ≤ sg f z.toInt) := by
  unfold sg
  by_cases c : f = 0
  · subst c
    obtain ⟨x, e1, e2⟩ := sh_dn q N hN k (i64_add1 h1 h2)
    refine ⟨x, e1, ?_⟩
    rcases e2 with ⟨a, b⟩ | ⟨c, y, a, b, d, e, f⟩
    · exact Or.inl ⟨a, fun z hz => by have := b z hz; simp; omega⟩
    · exact Or.inr ⟨c, y, a, b, d, by simp; omega, fun z hz hk => by have := f z hz (by simp at hk; omega); simp; omega⟩
  · obtain ⟨x, e1, e2⟩ := sh_up q N hN k c
    refine ⟨x, e1, ?_⟩
    simp only [if_neg c]
    exact e2
/-- how many keys of a shelf lie ahead of x -/
def cntB (f : Int32) (L : List (Int32 × List Ent)) (x : Int) : Nat := L.countP (fun y => decide (sg f y.1.toInt < sg f x))
theorem cntB_le (f : Int32) (L : List (Int32 × List Ent)) (x : Int) : cntB f L x ≤ L.length := List.countP_le_length
theorem cntB_mono (f : Int32) (L : List (Int32 × List Ent)) {x x' : Int} (h : sg f x ≤ sg f x') : cntB f L x ≤ cntB f L x' := List.countP_mono_left (fun y _ q => decide_eq_true (Int.lt_of_lt_of_le (of_decide_eq_true q) h))
theorem cntB_lt (f : Int32) : ∀ (L : List (Int32 × List Ent)) {x x' : Int} {y : Int32 × List Ent}, y ∈ L → sg f x ≤ sg f y.1.toInt → sg f y.1.toInt < sg f x' → cntB f L x + 1 ≤ cntB f L x' := by
  intro L
  induction L with
  | nil => intro x x' y hy; cases hy
  | cons z r ih =>
    intro x x' y hy h1 h2
    unfold cntB at *
    rw [List.countP_cons, List.countP_cons]
    rcases List.mem_cons.mp hy with e | e
    · subst e
      have := cntB_mono f r (x := x) (x' := x') (by omega)
      unfold cntB at this
      rw [if_neg (by simp; omega), if_pos (by simp; omega)]
      omega
    · have := ih e h1 h2
      by_cases c : sg f z.1.toInt < sg f x
      · rw [if_pos (by simp; omega), if_pos (by simp; omega)]
        omega
      · rw [if_neg (by simp; omega)]
        omega
theorem cntB_all (f : Int32) {L : List (Int32 × List Ent)} {x : Int} (h : cntB f L x = L.length) : ∀ y ∈ L, sg f y.1.toInt < sg f x := fun y hy => of_decide_eq_true (List.countP_eq_length.mp h y hy)
/-- what nearest answers -/
def IsNr (f : Int32) (vs : Int32 → Option Int64) (nx to : Int) (r : Int64) : Prop := (r = -9223372036854775808 ∧ ∀ z : Int32, sg f nx ≤ sg f z.toInt → sg f z.toInt ≤ sg f to → vs z = none) ∨ ∃ y : Int32, r = y.toInt64 ∧ sg f nx ≤ sg f y.toInt ∧ sg f y.toInt ≤ sg f to ∧ vs y ≠ none ∧ ∀ z : Int32, sg f nx ≤ sg f z.toInt → vs z ≠ none → sg f y.toInt ≤ sg f z.toInt
theorem i32_rng (y : Int32) : -2147483648 ≤ y.toInt ∧ y.toInt ≤ 2147483647 := ⟨Int32.le_toInt y, by have := Int32.toInt_lt y; omega⟩
/-- the next step of nearest: its key is passed over -/
theorem near_skip {f : Int32} {vs : Int32 → Option Int64} {nx to : Int} {r : Int64} {y : Int32} (h1 : sg f nx ≤ sg f y.toInt) (h2 : vs y = none) (h3 : ∀ z : Int32, sg f nx ≤ sg f z.toInt → vs z ≠ none → sg f y.toInt ≤ sg f z.toInt) {nx' : Int} (h4 : sg f nx' = sg f y.toInt + 1) (q : IsNr f vs nx' to r) : IsNr f vs nx to r := by
  have key : ∀ z : Int32, sg f nx ≤ sg f z.toInt → vs z ≠ none → sg f nx' ≤ sg f z.toInt := fun z a b => by
    have := h3 z a b
    rw [h4]
    rcases Int.lt_or_eq_of_le this with c | c
    · omega
    · exfalso
      have : y = z := toInt_eq (sg_le this (by omega))
      rw [← this] at b
      exact b h2
  rcases q with ⟨a, b⟩ | ⟨u, a, b, c, d, e⟩
  · refine Or.inl ⟨a, fun z p1 p2 => ?_⟩
    cases hz : vs z with
    | none => rfl
    | some w =>
      have := b z (key z p1 (by rw [hz]; exact Option.some_ne_none _)) p2
      rw [hz] at this
      exact this
  · exact Or.inr ⟨u, a, by omega, c, d, fun z p1 p2 => e z (key z p1 p2) p2⟩
theorem sh_memk {g : Nat → Nat} {h : Hp} {s l : Nat} {L : List (Int32 × List Ent)} (q : Sh g h s l L) {k : Int32} (hk : look L k ≠ []) : (k, look L k) ∈ L := by
  obtain ⟨i, hi⟩ := look_some q.2.2.2.1 hk
  exact List.mem_of_getElem? hi
