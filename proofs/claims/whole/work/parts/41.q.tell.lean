/-! versions, counts, rows, throws -/
section KVs
variable {g : Nat → Nat} {h : Hp} {p : Nat → Nat} {G : Nat → Int32} {fv : Int64} {lr : Option Nat} {B : Shf} {V : List Kv} {ts : List Nat} {D : Nat → TD} {ac cm ot : List Nat} {ct rs : Nat → Int32} {d0 : AnD} {R : List (Int32 × Int64)} {cO : Nat}
theorem kv_loop (N X : Nat) {i : Nat} (hi : i < 1000000) : ∀ (m k F : Nat) (L : List Ent) (x : Option Nat), m = i - k → k ≤ i → m < F → En g h L x → ∃ y, L_X9_keptVersion_40 N X F h (nI i) x (nI k) = some (h, y) ∧ En g h (L.drop m) y := by
  intro m
  induction m with
  | zero =>
    intro k F L x hm hk hF en
    obtain ⟨F, rfl⟩ : ∃ F', F = F' + 1 := ⟨F - 1, by omega⟩
    refine ⟨x, ?_, en⟩
    show B_X9_keptVersion_40 N _ X h (nI i) x (nI k) = _
    unfold B_X9_keptVersion_40
    refine (if_pos (by exact (ni_le (by omega) (by omega)).mpr (by omega))).trans ?_
    rfl
  | succ m ih =>
    intro k F L x hm hk hF en
    obtain ⟨F, rfl⟩ : ∃ F', F = F' + 1 := ⟨F - 1, by omega⟩
    cases L with
    | nil =>
      refine ⟨none, ?_, by rw [List.drop_nil]; rfl⟩
      show B_X9_keptVersion_40 N _ X h (nI i) x (nI k) = _
      unfold B_X9_keptVersion_40
      refine (if_neg (by exact fun z => by rw [ni_le (by omega) (by omega)] at z; omega)).trans ?_
      refine (nl_ne (by exact en)).trans ?_
      rw [show x = none from en]
      rfl
    | cons e r =>
      obtain ⟨a, a1, a2, a3, a4⟩ := en
      obtain ⟨y, s1, s2⟩ := ih (k + 1) F r _ (by omega) (by omega) (by omega) a4
      refine ⟨y, ?_, s2⟩
      show B_X9_keptVersion_40 N (L_X9_keptVersion_40 N X F) X h (nI i) x (nI k) = _
      unfold B_X9_keptVersion_40
      refine (if_neg (by exact fun z => by rw [ni_le (by omega) (by omega)] at z; omega)).trans ?_
      refine (nl_so (by exact a1)).trans ?_
      refine (ck_eq (by exact a3.1)).trans ?_
      rw [ni_inc]
      exact s1
/-- version i of a key that is kept -/
def kvE (L : List Ent) (hz x : Int32) : Option Ent := if 0 ≤ x.toInt ∧ x.toInt < keptN hz L then L[x.toInt.toNat]? else none
theorem keptN_le (hz : Int32) (L : List Ent) : keptN hz L ≤ L.length := by
  unfold keptN
  have h1 : (takeW hz L).length + (dropW hz L).length = L.length := by
    unfold takeW dropW
    rw [← List.length_append, List.takeWhile_append_dropWhile]
  cases e : dropW hz L with
  | nil => rw [e] at h1; simp at h1 ⊢; omega
  | cons a r =>
    rw [e, List.length_cons] at h1
    show (takeW hz L).length + (if _ then _ else _) ≤ _
    split <;> omega
theorem kr_keptV (q : Kr g h p G fv lr B V ts D ac cm ot ct rs d0 R cO) (hac : ∀ i ∈ ac, i < ts.length) (N : Nat) (hN : 100000 < N) (k x : Int32) : ∃ y, J_X9_keptVersion N (p 11) h k x = some (h, y) ∧ Eo h y (kvE (look B k) (hzn D ac cm) x) := by
  obtain ⟨z, e1, e2⟩ := sh_find q.2.1.2.1 N hN k
  have start : ∀ {r : Option (Hp × Option Nat)}, B_X9_keptVersion_8 N (p 11) h x z = r → J_X9_keptVersion N (p 11) h k x = r := by
    intro r hr
    unfold J_X9_keptVersion B_X9_keptVersion_0
    refine (dr_e (by exact q.1.2.2.2.2.1) (by exact q.2.1.2.1.1)).trans ?_
    refine (bnd (by exact e1)).trans ?_
    exact hr
  rcases e2 with ⟨x1, x2⟩ | ⟨c, x1, x2, x3, -⟩
  · refine ⟨none, start ?_, Or.inl ⟨rfl, ?_⟩⟩
    · unfold B_X9_keptVersion_8
      refine (nl_ne (by exact x1)).trans ?_
      rfl
    · unfold kvE
      rw [x2]
      split <;> simp
  · have hl := x3.2.2.2.2
    have hkl := keptN_le (hzn D ac cm) (look B k)
    by_cases c0 : x < 0
    · have c0' := c0
      rw [Int32.lt_iff_toInt_lt, i0] at c0'
      refine ⟨none, start ?_, Or.inl ⟨rfl, ?_⟩⟩
      · unfold B_X9_keptVersion_8
        refine (nl_so (by exact x1)).trans ?_
        refine (if_pos (by exact c0)).trans ?_
        rfl
      · unfold kvE
        rw [if_neg (by omega)]
    · have c0' : 0 ≤ x.toInt := by rw [Int32.lt_iff_toInt_lt, i0] at c0; omega
      have ex := ni_of c0'
      have hxb : x.toInt.toNat < 2147483648 := by have := i32_rng x; omega
      have start2 : ∀ {r : Option (Hp × Option Nat)}, B_X9_keptVersion_26 N (p 11) h x (some c) x (nI (keptN (hzn D ac cm) (look B k))) = r → J_X9_keptVersion N (p 11) h k x = r := by
        intro r hr
        refine start ?_
        unfold B_X9_keptVersion_8
        refine (nl_so (by exact x1)).trans ?_
        refine (if_neg (by exact c0)).trans ?_
        refine (bnd (by exact kr_hzn q hac N)).trans ?_
        unfold B_X9_keptVersion_23
        refine (dr_e (by exact rfl) (by exact x3.1)).trans ?_
        refine (bnd (by exact ch_kept x3 N hN (hzn D ac cm))).trans ?_
        exact hr
      by_cases c1 : x.toInt.toNat < keptN (hzn D ac cm) (look B k)
      · obtain ⟨y, s1, s2⟩ := kv_loop (g := g) (h := h) N (p 11) (i := x.toInt.toNat) (by omega) x.toInt.toNat 0 N (look B k) _ rfl (Nat.zero_le _) (by omega) x3.2.2.2.1
        refine ⟨y, start2 ?_, ?_⟩
        · unfold B_X9_keptVersion_26
          refine (if_pos (by rw [ex]; exact (ni_lt hxb (by omega)).mpr c1)).trans ?_
          refine (dr_e (by exact rfl) (by exact x3.1)).trans ?_
          rw [ex]
          exact s1
        · unfold kvE
          rw [if_pos (by omega)]
          have := s2.eo
          rw [List.head?_drop] at this
          exact this
      · refine ⟨none, start2 ?_, Or.inl ⟨rfl, ?_⟩⟩
        · unfold B_X9_keptVersion_26
          refine (if_neg (by rw [ex]; exact fun z => c1 ((ni_lt hxb (by omega)).mp z))).trans ?_
          rfl
        · unfold kvE
          rw [if_neg (by omega)]
def verV (o : Option Ent) (w : Int32) : Int32 := match o with
  | none => -1
  | some e => if w = 0 then e.1 else if w = 1 then e.2.2.1 else if w = 2 then e.2.1 else -1
def verL (o : Option Ent) : Int64 := match o with
  | none => 0
  | some e => if e.2.2.1 = 0 then 0 else e.2.2.2
theorem kr_version (q : Kr g h p G fv lr B V ts D ac cm ot ct rs d0 R cO) (hac : ∀ i ∈ ac, i < ts.length) (N : Nat) (hN : 100000 < N) (k x w : Int32) : J_X9_version N (p 11) h k x w = some (h, verV (kvE (look B k) (hzn D ac cm) x) w) := by
  obtain ⟨y, e1, e2⟩ := kr_keptV q hac N hN k x
  unfold J_X9_version B_X9_version_0
  refine (bnd (by exact e1)).trans ?_
  unfold B_X9_version_6
  rcases e2 with ⟨y1, y2⟩ | ⟨a, e, y1, y2, y3⟩
  · refine (nl_ne (by exact y1)).trans ?_
    rw [y2]
    rfl
  · refine (nl_so (by exact y1)).trans ?_
    rw [y2]
    show _ = some (h, if w = 0 then e.1 else if w = 1 then e.2.2.1 else if w = 2 then e.2.1 else -1)
    by_cases c0 : w = 0
    · rw [if_pos c0, if_pos c0]
      refine (ck_eq (by exact y3.1)).trans ?_
      rw [y3.2.1]
    rw [if_neg c0, if_neg c0]
    by_cases c1 : w = 1
    · rw [if_pos c1, if_pos c1]
      refine (ck_eq (by exact y3.1)).trans ?_
      rw [y3.2.2.2.1]
      rcases y3.2.2.2.2.2 with z | z
      · rw [z]; rfl
      · rw [z]; rfl
    rw [if_neg c1, if_neg c1]
    by_cases c2 : w = 2
    · rw [if_pos c2, if_pos c2]
      refine (ck_eq (by exact y3.1)).trans ?_
      rw [y3.2.2.1]
    rw [if_neg c2, if_neg c2]
theorem kr_versionV (q : Kr g h p G fv lr B V ts D ac cm ot ct rs d0 R cO) (hac : ∀ i ∈ ac, i < ts.length) (N : Nat) (hN : 100000 < N) (k x : Int32) : J_X9_versionValue N (p 11) h k x = some (h, verL (kvE (look B k) (hzn D ac cm) x)) := by
  obtain ⟨y, e1, e2⟩ := kr_keptV q hac N hN k x
  unfold J_X9_versionValue B_X9_versionValue_0
  refine (bnd (by exact e1)).trans ?_
  unfold B_X9_versionValue_6
  rcases e2 with ⟨y1, y2⟩ | ⟨a, e, y1, y2, y3⟩
  · refine (nl_ne (by exact y1)).trans ?_
    rw [y2]
    rfl
  · refine (nl_so (by exact y1)).trans ?_
    rw [y2]
    show _ = some (h, if e.2.2.1 = 0 then 0 else e.2.2.2)
    refine (ck_eq (by exact y3.1)).trans ?_
    rw [y3.2.2.2.1, y3.2.2.2.2.1]
    by_cases c : e.2.2.1 = 0
    · rw [if_pos c, if_pos c]; rfl
    · rw [if_neg c, if_neg c]; rfl
/-! rows -/
theorem kr_rowKey (q : Kr g h p G fv lr B V ts D ac cm ot ct rs d0 R cO) (N : Nat) {x : Int32} {y : Int32 × Int64} (h0 : 0 ≤ x.toInt) (hx : R[x.toInt.toNat]? = some y) : J_X9_rowKey N (p 11) h x = some (h, y.1) ∧ J_X9_rowValue N (p 11) h x = some (h, y.2) := by
  have k10 := q.2.2.2.2.2.2.2.2.2.1
  have rr := q.1.2.2.2.2.2.2.2.2.2.2.2.2.1
  unfold KR at k10
  cases hl : lr with
  | none => rw [hl] at k10; rw [show R = [] from k10] at hx; cases hx
  | some a =>
    rw [hl] at k10 rr
    obtain ⟨-, ka, va, e, e1, an⟩ := k10
    have hlt := (List.getElem?_eq_some_iff.mp hx).1
    have hh := an_has an N x
    rw [if_pos ⟨h0, by show x.toInt < (e.2.2.1.length : Int); rw [e1]; omega⟩] at hh
    have gt := an_get (d := (e.1, e.2.1, e.2.2.1, none)) an (i := x.toInt.toNat) (y := y) (by show e.2.2.1[_]? = _; rw [e1]; exact hx)
    have xl : ¬ x < 0 := by rw [Int32.lt_iff_toInt_lt, i0]; omega
    have l1 := an.2.2.2.2.2.2.2.2.1
    have l2 := an.2.2.2.2.2.2.2.2.2.1
    have cl : x.toNatClampNeg = x.toInt.toNat := rfl
    constructor
    · unfold J_X9_rowKey B_X9_rowKey_0
      refine (nl_so (by exact rr)).trans ?_
      refine (dr_e (by exact rr) (by exact an.1)).trans ?_
      refine (bnd (by exact hh)).trans ?_
      unfold B_X9_rowKey_15
      refine (if_neg (by show ¬ (1 : Int32) = 0; decide)).trans ?_
      refine (dr_e (by exact rr) (by exact an.1)).trans ?_
      refine (dr_e (by exact an.2.2.1) (by exact an.2.2.2.2.1)).trans ?_
      rw [l1, cl]
      refine (ck_eq (by exact fun z => z.elim xl (fun y => by rw [e1] at y; omega))).trans ?_
      rw [gt.1]
    · unfold J_X9_rowValue B_X9_rowValue_0
      refine (nl_so (by exact rr)).trans ?_
      refine (dr_e (by exact rr) (by exact an.1)).trans ?_
      refine (bnd (by exact hh)).trans ?_
      unfold B_X9_rowValue_15
      refine (if_neg (by show ¬ (1 : Int32) = 0; decide)).trans ?_
      refine (dr_e (by exact rr) (by exact an.1)).trans ?_
      refine (dr_e (by exact an.2.2.2.1) (by exact an.2.2.2.2.2.1)).trans ?_
      rw [l2, cl]
      refine (ck_eq (by exact fun z => z.elim xl (fun y => by rw [e1] at y; omega))).trans ?_
      rw [gt.2]
theorem kr_rowX (q : Kr g h p G fv lr B V ts D ac cm ot ct rs d0 R cO) (N : Nat) {x : Int32} (hx : ¬ (0 ≤ x.toInt ∧ x.toInt < R.length)) : J_xX9_rowKey N (p 11) h x = some (h, "java/util/NoSuchElementException") ∧ J_xX9_rowValue N (p 11) h x = some (h, "java/util/NoSuchElementException") := by
  have k10 := q.2.2.2.2.2.2.2.2.2.1
  have rr := q.1.2.2.2.2.2.2.2.2.2.2.2.2.1
  unfold KR at k10
  cases hl : lr with
  | none =>
    rw [hl] at rr
    constructor
    · unfold J_xX9_rowKey B_xX9_rowKey_0
      refine (nl_ne (by exact rr)).trans ?_
      rfl
    · unfold J_xX9_rowValue B_xX9_rowValue_0
      refine (nl_ne (by exact rr)).trans ?_
      rfl
  | some a =>
    rw [hl] at k10 rr
    obtain ⟨-, ka, va, e, e1, an⟩ := k10
    have hh := an_has an N x
    rw [if_neg (show ¬ (0 ≤ x.toInt ∧ x.toInt < (e.2.2.1.length : Int)) by rw [e1]; exact hx)] at hh
    constructor
    · unfold J_xX9_rowKey B_xX9_rowKey_0
      refine (nl_so (by exact rr)).trans ?_
      refine (dr_e (by exact rr) (by exact an.1)).trans ?_
      refine (bnd (by exact hh)).trans ?_
      unfold B_xX9_rowKey_15
      refine (if_pos (by rfl)).trans ?_
      rfl
    · unfold J_xX9_rowValue B_xX9_rowValue_0
      refine (nl_so (by exact rr)).trans ?_
      refine (dr_e (by exact rr) (by exact an.1)).trans ?_
      refine (bnd (by exact hh)).trans ?_
      unfold B_xX9_rowValue_15
      refine (if_pos (by rfl)).trans ?_
      rfl
/-! throws -/
/-- x is no number of one that is active -/
def NoAct (ts : List Nat) (D : Nat → TD) (x : Int32) : Prop := ∀ i, i < ts.length → x = nI (i + 1) → (D i).1 1006 ≠ 1
theorem kr_actX (q : Kr g h p G fv lr B V ts D ac cm ot ct rs d0 R cO) (N : Nat) {x : Int32} (na : NoAct ts D x) : J_xX9_activeOne N (p 11) h x = some (h, "java/lang/IllegalStateException") := by
  unfold J_xX9_activeOne B_xX9_activeOne_0
  refine (bnd (by exact kr_numbered q N x)).trans ?_
  unfold B_xX9_activeOne_5
  cases e : num ts x with
  | none =>
    refine (nl_ne (by exact rfl)).trans ?_
    rfl
  | some t =>
    obtain ⟨m, m1, m2, m3⟩ := num_some e
    have tt := q.2.2.2.2.2.2.2.2.2.2.1 _ _ m3
    have hl := (List.getElem?_eq_some_iff.mp m3).1
    refine (nl_so (by exact rfl)).trans ?_
    refine (ck_eq (by exact tt.1)).trans ?_
    refine (if_neg (by rw [tt.2.2.1]; exact na (m - 1) hl (by rw [m2]; congr 1; omega))).trans ?_
    rfl
theorem orX_l {α : Type} {a b : Option α} {x : α} (e : a = some x) : orX a b = some x := by rw [e]; rfl
theorem orX_r {α : Type} {a b : Option α} (e : a = none) : orX a b = b := by rw [e]; rfl
/-- an active one doesn't throw -/
theorem kr_actN (q : Kr g h p G fv lr B V ts D ac cm ot ct rs d0 R cO) (N : Nat) {x : Int32} {i t : Nat} (hx : x = nI (i + 1)) (hi : ts[i]? = some t) (hs : (D i).1 1006 = 1) : J_xX9_activeOne N (p 11) h x = none := by
  have hl := q.2.2.1.2.2.1
  have hlt := (List.getElem?_eq_some_iff.mp hi).1
  have e : num ts x = some t := by rw [hx, num_nI (by omega) (by omega)]; exact hi
  have tr := q.2.2.2.2.2.2.2.2.2.2.1 i t hi
  unfold J_xX9_activeOne B_xX9_activeOne_0
  refine (bnd (kr_numbered q N x)).trans ?_
  unfold B_xX9_activeOne_5
  refine (nl_so (by exact e)).trans ?_
  refine (ck_eq (by exact tr.1)).trans ?_
  refine (if_pos (by rw [tr.2.2.1]; exact hs)).trans ?_
  rfl
theorem kr_X (q : Kr g h p G fv lr B V ts D ac cm ot ct rs d0 R cO) (N : Nat) {x : Int32} (na : NoAct ts D x) (a b c : Int32) (l : Int64) : J_xX9_read N (p 11) h x a = some (h, "java/lang/IllegalStateException") ∧ J_xX9_near N (p 11) h x a b = some (h, "java/lang/IllegalStateException") ∧ J_xX9_scan N (p 11) h x a b c = some (h, "java/lang/IllegalStateException") ∧ J_xX9_write N (p 11) h x a l = some (h, "java/lang/IllegalStateException") ∧ J_xX9_remove N (p 11) h x a = some (h, "java/lang/IllegalStateException") ∧ J_xX9_save N (p 11) h x = some (h, "java/lang/IllegalStateException") ∧ J_xX9_undo N (p 11) h x a = some (h, "java/lang/IllegalStateException") ∧ J_xX9_commit N (p 11) h x = some (h, "java/lang/IllegalStateException") ∧ J_xX9_abort N (p 11) h x = some (h, "java/lang/IllegalStateException") := by
  have e := kr_actX q N na
  have e2 : J_xX9_writingOne N (p 11) h x = some (h, "java/lang/IllegalStateException") := orX_l e
  exact ⟨orX_l e, orX_l e, orX_l e, orX_l e2, orX_l e2, orX_l e, orX_l e, orX_l e, orX_l e⟩
theorem kr_roX (q : Kr g h p G fv lr B V ts D ac cm ot ct rs d0 R cO) (N : Nat) {x : Int32} {i t : Nat} (hx : x = nI (i + 1)) (hi : ts[i]? = some t) (hs : (D i).1 1006 = 1) (hk : (D i).1 1005 ≠ 0) (a : Int32) (l : Int64) : J_xX9_write N (p 11) h x a l = some (h, "java/lang/UnsupportedOperationException") ∧ J_xX9_remove N (p 11) h x a = some (h, "java/lang/UnsupportedOperationException") := by
  have tr := q.2.2.2.2.2.2.2.2.2.2.1 i t hi
  have e2 : J_xX9_writingOne N (p 11) h x = some (h, "java/lang/UnsupportedOperationException") := by
    unfold J_xX9_writingOne B_xX9_writingOne_0
    rw [orX_r (kr_actN q N hx hi hs)]
    refine (bnd (by exact kr_active q N hx hi hs)).trans ?_
    unfold B_xX9_writingOne_5
    refine (dr_e (by exact rfl) (by exact tr.1)).trans ?_
    refine (if_neg (by rw [tr.2.2.1]; exact hk)).trans ?_
    rfl
  exact ⟨orX_l e2, orX_l e2⟩
theorem kr_scanX (q : Kr g h p G fv lr B V ts D ac cm ot ct rs d0 R cO) (N : Nat) {x : Int32} {i t : Nat} (hx : x = nI (i + 1)) (hi : ts[i]? = some t) (hs : (D i).1 1006 = 1) (a b c : Int32) (hn : ¬ (a ≤ b ∧ ¬ c < 1 ∧ c ≤ 100)) : J_xX9_scan N (p 11) h x a b c = some (h, "java/lang/IllegalArgumentException") := by
  unfold J_xX9_scan B_xX9_scan_0
  rw [orX_r (kr_actN q N hx hi hs)]
  refine (bnd (by exact kr_active q N hx hi hs)).trans ?_
  unfold B_xX9_scan_5 B_xX9_scan_35
  by_cases c1 : a ≤ b
  · rw [if_pos c1]
    by_cases c2 : c < 1
    · rw [if_pos c2]
    · rw [if_neg c2, if_neg (fun z => hn ⟨c1, c2, z⟩)]
  · rw [if_neg c1]
theorem kr_undoX (q : Kr g h p G fv lr B V ts D ac cm ot ct rs d0 R cO) (N : Nat) {x : Int32} {i t : Nat} (hx : x = nI (i + 1)) (hi : ts[i]? = some t) (hs : (D i).1 1006 = 1) (n : Int32) (hn : ¬ (1 ≤ n.toInt ∧ n.toInt ≤ (D i).2.2.2.2.1.length)) : J_xX9_undo N (p 11) h x n = some (h, "java/lang/IndexOutOfBoundsException") := by
  have tt := q.2.2.2.2.2.2.2.2.2.2.1 i t hi
  unfold J_xX9_undo B_xX9_undo_0
  rw [orX_r (kr_actN q N hx hi hs)]
  refine (bnd (by exact kr_active q N hx hi hs)).trans ?_
  unfold B_xX9_undo_5
  refine (dr_e (by exact rfl) (by exact tt.1)).trans ?_
  refine (dr_e (by exact tt.2.2.2.1.1) (by exact tt.2.2.2.1.2.2.1.1.1)).trans ?_
  refine (bnd (by exact vw_hasPlace tt.2.2.2.1.2.2.1.1 N n)).trans ?_
  unfold B_xX9_undo_14
  rw [if_neg hn]
  refine (if_pos (by rfl)).trans ?_
  rfl
end KVs
