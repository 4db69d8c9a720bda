/-! a looking -/
def ixm (cm : List Nat) (e : Ent) : Nat := (cm[e.1.toInt.toNat - 1]?).getD 0
def ovs (B : Shf) (st hi : Int32) (i : Nat) : List Ent := ((B.drop i).takeWhile (fun y => decide (y.1 ≤ hi))).flatMap (fun y => takeW st y.2)
def Grn (h h' : Hp) (l n : Nat) : Prop := h'.su + 4 * cap h l ≤ h.su + 4 * cap h' l ∧ cap h l ≤ cap h' l ∧ cap h' l ≤ max (cap h l) (2 * n + 10) ∧ h'.nx + cap h l ≤ h.nx + cap h' l
theorem Grn.rf (h : Hp) (l n : Nat) : Grn h h l n := ⟨Nat.le_refl _, Nat.le_refl _, Nat.le_max_left _ _, Nat.le_refl _⟩
theorem Grn.tr {h1 h2 h3 : Hp} {l n : Nat} (a : Grn h1 h2 l n) (b : Grn h2 h3 l n) : Grn h1 h3 l n := by
  unfold Grn at *
  omega
theorem Gro.n {h h' : Hp} {l m n : Nat} (a : Gro h h' l m) (hn : m ≤ n) : Grn h h' l n := by
  unfold Gro at a
  unfold Grn
  omega
/-- the stamps are moments -/
def StM (cm : List Nat) (L : List Ent) : Prop := ∀ e ∈ L, ∃ m, 1 ≤ m ∧ m ≤ cm.length ∧ e.1 = nI m
section KG
variable {g : Nat → Nat} {h : Hp} {p : Nat → Nat} {G : Nat → Int32} {fv : Int64} {lr : Option Nat} {B : Shf} {V : List Kv} {ts : List Nat} {D : Nat → TD} {ac cm ot : List Nat} {ct rs : Nat → Int32} {d0 : AnD} {R : List (Int32 × Int64)} {cO : Nat}
theorem ixm_get (ts cm : List Nat) {e : Ent} {m : Nat} (h1 : 1 ≤ m) (h2 : m ≤ cm.length) (h3 : e.1 = nI m) (h4 : m < 2147483648) : num (cm.map (adr ts)) e.1 = some (adr ts (ixm cm e)) ∧ ixm cm e ∈ cm := by
  have hg : cm[m - 1]? = some cm[m - 1] := List.getElem?_eq_getElem (by omega)
  have e2 : ixm cm e = cm[m - 1] := by
    unfold ixm
    rw [h3, nI_toInt (by omega)]
    show (cm[m - 1]?).getD 0 = _
    rw [hg]
    rfl
  rw [h3, num_nI h1 h4, e2]
  exact ⟨map_get (ts := ts) hg, List.mem_of_getElem? hg⟩
theorem go_in (N : Nat) (hcm : ∀ i ∈ cm, i < ts.length) (hcl : cm.length < 100000) {i t n : Nat} (hi : ts[i]? = some t) (hh x4 : Int32) (k18 : Hp → Option Nat → Int32 → Int32 → Option (Hp × Unit)) (hn : n < 90000) : ∀ (L : List Ent) (F : Nat) (x : Option Nat) (g : Nat → Nat) (h : Hp) (ot : List Nat) (cO : Nat), L.length < F → En g h L x → StM cm L → Kr g h p G fv lr B V ts D ac cm ot ct rs d0 R cO → Wf g h → ot.length + (takeW ((D i).1 1001) L).length ≤ n → ∃ h' g', L_X9_gatherOverwriters_65 N k18 (p 11) F h (some t) hh x4 x = k18 h' (some t) hh (x4 + 1) ∧ Kr g' h' p G fv lr B V ts D ac cm (ot ++ (takeW ((D i).1 1001) L).map (ixm cm)) ct rs d0 R (cap h' (p 10)) ∧ Fr g g' (p 10) h h' ∧ Grn h h' (p 10) n := by
  intro L
  induction L with
  | nil =>
    intro F x g h ot cO hF en st q w hl
    obtain ⟨F, rfl⟩ : ∃ F', F = F' + 1 := ⟨F - 1, by omega⟩
    refine ⟨h, g, ?_, by rw [takeW_nil, List.map_nil, List.append_nil, q.2.2.2.2.2.1.1.2]; exact q, Fr.rf w _, Grn.rf _ _ _⟩
    show B_X9_gatherOverwriters_65 N k18 _ (p 11) h (some t) hh x4 x = _
    unfold B_X9_gatherOverwriters_65
    refine (nl_ne (by exact en)).trans ?_
    rfl
  | cons e r ih =>
    intro F x g h ot cO hF en st q w hl
    obtain ⟨F, rfl⟩ : ∃ F', F = F' + 1 := ⟨F - 1, by omega⟩
    have tt := q.2.2.2.2.2.2.2.2.2.2.1 i t hi
    obtain ⟨a, a1, a2, a3, a4⟩ := en
    rw [takeW_c] at hl ⊢
    by_cases c : (D i).1 1001 < e.1
    · rw [if_pos c] at hl ⊢
      obtain ⟨m, m1, m2, m3⟩ := st e List.mem_cons_self
      obtain ⟨z1, z2⟩ := ixm_get ts cm m1 m2 m3 (by omega)
      have hj := adr_get (hcm _ z2)
      have tj := q.2.2.2.2.2.2.2.2.2.2.1 _ _ hj
      rw [List.length_cons] at hl
      have hlo : (ot.map (adr ts)).length ≤ n := by rw [List.length_map]; omega
      obtain ⟨h2, g2, e1, e2, e3, e4⟩ := al_add q.2.2.2.2.2.1.2 w (Or.inr (Or.inr tj.1)) (by omega) N
      rw [show ot.map (adr ts) ++ [adr ts (ixm cm e)] = (ot ++ [ixm cm e]).map (adr ts) by rw [List.map_append]; rfl] at e2
      have q2 := q.oth w e3 e2
      have ef := a3.fr a2 w e3 (by rw [q.2.2.2.2.2.1.2.1]; decide)
      have en2 : En g2 h2 r (h2.fr 704 a) := by rw [ef.2.1]; exact a4.fr w e3 (by rw [q.2.2.2.2.2.1.2.1]; decide)
      obtain ⟨h3, g3, r1, r2, r3, r4⟩ := ih F (h2.fr 704 a) g2 h2 (ot ++ [ixm cm e]) _ (by rw [List.length_cons] at hF; omega) en2 (fun x hx => st x (List.mem_cons_of_mem _ hx)) q2 e3.wf (by rw [List.length_append]; show _ + 1 + _ ≤ n; omega)
      refine ⟨h3, g3, ?_, ?_, e3.tr w r3, (e4.n hlo).tr r4⟩
      · show B_X9_gatherOverwriters_65 N k18 (L_X9_gatherOverwriters_65 N k18 (p 11) F) (p 11) h (some t) hh x4 x = _
        unfold B_X9_gatherOverwriters_65
        refine (nl_so (by exact a1)).trans ?_
        refine (ck_eq (by exact a3.1)).trans ?_
        refine (dr_e (by exact rfl) (by exact tt.1)).trans ?_
        rw [a3.2.1, tt.2.2.1]
        refine (if_neg (by exact fun z => by rw [Int32.le_iff_toInt_le] at z; rw [Int32.lt_iff_toInt_lt] at c; omega)).trans ?_
        refine (bnd (by exact kr_withMoment q hcm N e.1)).trans ?_
        unfold B_X9_gatherOverwriters_91
        refine (nl_so (by exact z1)).trans ?_
        refine (dr_e (by exact q.1.2.2.2.2.2.2.2.2.2.2.2.1) (by exact q.2.2.2.2.2.1.2.1)).trans ?_
        refine (bnd (by exact e1)).trans ?_
        unfold B_X9_gatherOverwriters_107 B_X9_gatherOverwriters_108
        refine (dr_e (by exact rfl) (by exact ef.1.1)).trans ?_
        exact r1
      · rw [List.append_assoc] at r2
        exact r2
    · rw [if_neg c] at hl ⊢
      refine ⟨h, g, ?_, by rw [List.map_nil, List.append_nil, q.2.2.2.2.2.1.1.2]; exact q, Fr.rf w _, Grn.rf _ _ _⟩
      show B_X9_gatherOverwriters_65 N k18 _ (p 11) h (some t) hh x4 x = _
      unfold B_X9_gatherOverwriters_65
      refine (nl_so (by exact a1)).trans ?_
      refine (ck_eq (by exact a3.1)).trans ?_
      refine (dr_e (by exact rfl) (by exact tt.1)).trans ?_
      rw [a3.2.1, tt.2.2.1]
      refine (if_pos (by rw [Int32.le_iff_toInt_le]; rw [Int32.lt_iff_toInt_lt] at c; omega)).trans ?_
      rfl
theorem ovs_end (B : Shf) (st hi : Int32) {i : Nat} (h : B.length ≤ i) : ovs B st hi i = [] := by
  unfold ovs
  rw [List.drop_eq_nil_of_le h]
  rfl
theorem ovs_c {B : Shf} (st hi : Int32) {i : Nat} {y : Int32 × List Ent} (h : B[i]? = some y) : ovs B st hi i = if y.1 ≤ hi then takeW st y.2 ++ ovs B st hi (i + 1) else [] := by
  unfold ovs
  obtain ⟨h1, h2⟩ := List.getElem?_eq_some_iff.mp h
  rw [List.drop_eq_getElem_cons h1, h2]
  by_cases c : y.1 ≤ hi
  · rw [if_pos c, List.takeWhile_cons_of_pos (by simpa using c)]
    rfl
  · rw [if_neg c, List.takeWhile_cons_of_neg (by simpa using c)]
    rfl
theorem go_out (N : Nat) (hN : 100000 < N) (hcm : ∀ i ∈ cm, i < ts.length) (hcl : cm.length < 100000) {i t n : Nat} (hi : ts[i]? = some t) (hh : Int32) (hn : n < 90000) (hst : ∀ y ∈ B, StM cm y.2) : ∀ (m k F : Nat) (g : Nat → Nat) (h : Hp) (ot : List Nat) (cO : Nat), m = B.length - k → m < F → Kr g h p G fv lr B V ts D ac cm ot ct rs d0 R cO → Wf g h → ot.length + (ovs B ((D i).1 1001) hh k).length ≤ n → k < 100000 → ∃ h' g', L_X9_gatherOverwriters_18 N (p 11) F h (some t) hh (nI k) = some (h', ()) ∧ Kr g' h' p G fv lr B V ts D ac cm (ot ++ (ovs B ((D i).1 1001) hh k).map (ixm cm)) ct rs d0 R (cap h' (p 10)) ∧ Fr g g' (p 10) h h' ∧ Grn h h' (p 10) n := by
  intro m
  induction m with
  | zero =>
    intro k F g h ot cO hm hF q w hl hk
    obtain ⟨F, rfl⟩ : ∃ F', F = F' + 1 := ⟨F - 1, by omega⟩
    have hB := sh_len q.2.1.2.1
    refine ⟨h, g, ?_, by rw [ovs_end B _ _ (by omega), List.map_nil, List.append_nil, q.2.2.2.2.2.1.1.2]; exact q, Fr.rf w _, Grn.rf _ _ _⟩
    show B_X9_gatherOverwriters_18 N _ (p 11) h (some t) hh (nI k) = _
    unfold B_X9_gatherOverwriters_18
    refine (dr_e (by exact q.1.2.2.2.2.1) (by exact q.2.1.2.1.1)).trans ?_
    refine (bnd (by exact sh_size q.2.1.2.1 N)).trans ?_
    unfold B_X9_gatherOverwriters_27
    refine (if_pos (by exact (ni_le (by omega) (by omega)).mpr (by omega))).trans ?_
    rfl
  | succ m ih =>
    intro k F g h ot cO hm hF q w hl hk
    obtain ⟨F, rfl⟩ : ∃ F', F = F' + 1 := ⟨F - 1, by omega⟩
    have hB := sh_len q.2.1.2.1
    have hlt : k < B.length := by omega
    have hy : B[k]? = some B[k] := List.getElem?_eq_getElem hlt
    obtain ⟨c, e1, e2, -⟩ := sh_chainAt q.2.1.2.1 N hy
    have e3 := hst _ (List.mem_of_getElem? hy)
    rw [ovs_c _ _ hy] at hl ⊢
    generalize B[k] = y at hy e2 e3 hl ⊢
    by_cases z : y.1 ≤ hh
    · rw [if_pos z] at hl ⊢
      rw [List.length_append] at hl
      obtain ⟨h2, g2, r1, r2, r3, r4⟩ := go_in N hcm hcl hi hh (nI k) (L_X9_gatherOverwriters_18 N (p 11) F) hn y.2 N (h.fr 601 c) g h ot cO (by have := e2.2.2.2.2; omega) e2.2.2.2.1 e3 q w (by omega)
      obtain ⟨h3, g3, s1, s2, s3, s4⟩ := ih (k + 1) F g2 h2 _ _ (by omega) (by omega) r2 r3.wf (by rw [List.length_append, List.length_map]; omega) (by omega)
      refine ⟨h3, g3, ?_, by rw [List.map_append, ← List.append_assoc]; exact s2, r3.tr w s3, r4.tr s4⟩
      show B_X9_gatherOverwriters_18 N (L_X9_gatherOverwriters_18 N (p 11) F) (p 11) h (some t) hh (nI k) = _
      unfold B_X9_gatherOverwriters_18
      refine (dr_e (by exact q.1.2.2.2.2.1) (by exact q.2.1.2.1.1)).trans ?_
      refine (bnd (by exact sh_size q.2.1.2.1 N)).trans ?_
      unfold B_X9_gatherOverwriters_27
      refine (if_neg (by exact fun z => by rw [ni_le (by omega) (by omega)] at z; omega)).trans ?_
      refine (dr_e (by exact q.1.2.2.2.2.1) (by exact q.2.1.2.1.1)).trans ?_
      refine (bnd (by exact e1)).trans ?_
      unfold B_X9_gatherOverwriters_39
      refine (nl_so (by exact rfl)).trans ?_
      refine (ck_eq (by exact e2.1)).trans ?_
      rw [e2.2.2.1]
      refine (if_pos (by exact z)).trans ?_
      refine r1.trans ?_
      rw [ni_inc]
      exact s1
    · rw [if_neg z] at hl ⊢
      refine ⟨h, g, ?_, by rw [List.map_nil, List.append_nil, q.2.2.2.2.2.1.1.2]; exact q, Fr.rf w _, Grn.rf _ _ _⟩
      show B_X9_gatherOverwriters_18 N _ (p 11) h (some t) hh (nI k) = _
      unfold B_X9_gatherOverwriters_18
      refine (dr_e (by exact q.1.2.2.2.2.1) (by exact q.2.1.2.1.1)).trans ?_
      refine (bnd (by exact sh_size q.2.1.2.1 N)).trans ?_
      unfold B_X9_gatherOverwriters_27
      refine (if_neg (by exact fun z => by rw [ni_le (by omega) (by omega)] at z; omega)).trans ?_
      refine (dr_e (by exact q.1.2.2.2.2.1) (by exact q.2.1.2.1.1)).trans ?_
      refine (bnd (by exact e1)).trans ?_
      unfold B_X9_gatherOverwriters_39
      refine (nl_so (by exact rfl)).trans ?_
      refine (ck_eq (by exact e2.1)).trans ?_
      rw [e2.2.2.1]
      refine (if_neg (by exact z)).trans ?_
      rfl
theorem kr_gatherO (q : Kr g h p G fv lr B V ts D ac cm ot ct rs d0 R cO) (w : Wf g h) (N : Nat) (hN : 100000 < N) (hcm : ∀ i ∈ cm, i < ts.length) {i t n : Nat} (hi : ts[i]? = some t) (lo hh : Int32) (hn : n < 90000) (hst : ∀ y ∈ B, StM cm y.2) (hov : ∀ k, (ovs B ((D i).1 1001) hh k).length ≤ n) : ∃ h' g' k, J_X9_gatherOverwriters N (p 11) h (some t) lo hh = some (h', ()) ∧ IsIx B lo.toInt k ∧ Kr g' h' p G fv lr B V ts D ac cm ((ovs B ((D i).1 1001) hh k).map (ixm cm)) ct rs d0 R (cap h' (p 10)) ∧ Fr g g' (p 10) h h' ∧ Grn h h' (p 10) n := by
  have hcl : cm.length < 100000 := by have := q.2.2.2.2.1.2.2.1; rw [List.length_map] at this; exact this
  obtain ⟨h1, e1, e2, e3, e4, e5, e6⟩ := al_clear q.2.2.2.2.2.1.2 w N hN
  have q1 := q.oth w e3 (ot' := []) e2
  obtain ⟨k, i1, i2⟩ := sh_index q1.2.1.2.1 N hN lo.toInt64
  rw [toI64] at i2
  have hB := sh_len q.2.1.2.1
  have hk := i2.1
  obtain ⟨h2, g2, r1, r2, r3, r4⟩ := go_out N hN hcm hcl hi hh hn hst (B.length - k) k N g h1 [] _ rfl (by omega) q1 e3.wf (by rw [List.length_nil, Nat.zero_add]; exact hov k) (by omega)
  refine ⟨h2, g2, k, ?_, i2, r2, e3.tr w r3, ?_⟩
  · unfold J_X9_gatherOverwriters B_X9_gatherOverwriters_0
    refine (dr_e (by exact q.1.2.2.2.2.2.2.2.2.2.2.2.1) (by exact q.2.2.2.2.2.1.2.1)).trans ?_
    refine (bnd (by exact e1)).trans ?_
    unfold B_X9_gatherOverwriters_7
    refine (dr_e (by exact q1.1.2.2.2.2.1) (by exact q1.2.1.2.1.1)).trans ?_
    refine (bnd (by exact i1)).trans ?_
    unfold B_X9_gatherOverwriters_16
    exact r1
  · unfold Grn at *
    omega
/-- the one that may not be preceded, with the least moment -/
def Fb (D : Nat → TD) (F : Nat → Int32) (xs : List Nat) (r : Option Nat) : Prop := (r = none ∧ ∀ j ∈ xs, ¬ mayNotF F ((D j).1 1008)) ∨ ∃ k, r = some k ∧ k ∈ xs ∧ mayNotF F ((D k).1 1008) ∧ ∀ j ∈ xs, mayNotF F ((D j).1 1008) → (D k).1 1007 ≤ (D j).1 1007
theorem fb_loop (q : Kr g h p G fv lr B V ts D ac cm ot ct rs d0 R cO) (N : Nat) (hot : ∀ j ∈ ot, j < ts.length) (hol : ot.length < 100000) {i t : Nat} (hi : ts[i]? = some t) : ∀ (m k F : Nat) (r : Option Nat), m = ot.length - k → k ≤ ot.length → m < F → Fb D (D i).1 (ot.take k) r → ∃ r', L_X9_forbiddenOverwriter_4 N (p 11) F h (some t) (r.map (adr ts)) (nI k) = some (h, r'.map (adr ts)) ∧ Fb D (D i).1 ot r' := by
  have tt := q.2.2.2.2.2.2.2.2.2.2.1 i t hi
  intro m
  induction m with
  | zero =>
    intro k F r hm hk hF fb
    obtain ⟨F, rfl⟩ : ∃ F', F = F' + 1 := ⟨F - 1, by omega⟩
    rw [List.take_of_length_le (by omega)] at fb
    refine ⟨r, ?_, fb⟩
    show B_X9_forbiddenOverwriter_4 N _ (p 11) h (some t) _ (nI k) = _
    unfold B_X9_forbiddenOverwriter_4
    refine (dr_e (by exact q.1.2.2.2.2.2.2.2.2.2.2.2.1) (by exact q.2.2.2.2.2.1.2.1)).trans ?_
    refine (bnd (by exact al_size q.2.2.2.2.2.1.2 N)).trans ?_
    unfold B_X9_forbiddenOverwriter_12
    rw [List.length_map]
    refine (if_pos (by exact (ni_le (by omega) (by omega)).mpr (by omega))).trans ?_
    rfl
  | succ m ih =>
    intro k F r hm hk hF fb
    obtain ⟨F, rfl⟩ : ∃ F', F = F' + 1 := ⟨F - 1, by omega⟩
    have hlt : k < ot.length := by omega
    have hj : ot[k]? = some ot[k] := List.getElem?_eq_getElem hlt
    have hjm := List.mem_of_getElem? hj
    have tk : ot.take (k + 1) = ot.take k ++ [ot[k]] := by rw [List.take_succ, hj]; rfl
    generalize ot[k] = j at hj hjm tk
    have tj := q.2.2.2.2.2.2.2.2.2.2.1 _ _ (adr_get (hot j hjm))
    obtain ⟨v, v1, v2⟩ := tx_mayNot tt N ((D j).1 1008)
    have start : ∀ {z : Option (Hp × Option Nat)}, B_X9_forbiddenOverwriter_37 N (L_X9_forbiddenOverwriter_4 N (p 11) F) (p 11) h (some t) (r.map (adr ts)) (nI k) (some (adr ts j)) v = z → L_X9_forbiddenOverwriter_4 N (p 11) (F + 1) h (some t) (r.map (adr ts)) (nI k) = z := by
      intro z hz
      show B_X9_forbiddenOverwriter_4 N (L_X9_forbiddenOverwriter_4 N (p 11) F) (p 11) h (some t) _ (nI k) = _
      unfold B_X9_forbiddenOverwriter_4
      refine (dr_e (by exact q.1.2.2.2.2.2.2.2.2.2.2.2.1) (by exact q.2.2.2.2.2.1.2.1)).trans ?_
      refine (bnd (by exact al_size q.2.2.2.2.2.1.2 N)).trans ?_
      unfold B_X9_forbiddenOverwriter_12
      rw [List.length_map]
      refine (if_neg (by exact fun z => by rw [ni_le (by omega) (by omega)] at z; omega)).trans ?_
      refine (dr_e (by exact q.1.2.2.2.2.2.2.2.2.2.2.2.1) (by exact q.2.2.2.2.2.1.2.1)).trans ?_
      refine (bnd (by exact al_get q.2.2.2.2.2.1.2 N (map_get (ts := ts) hj))).trans ?_
      unfold B_X9_forbiddenOverwriter_23
      refine (dr_e (by exact rfl) (by exact tj.1)).trans ?_
      refine (dr_e (by exact rfl) (by exact tt.1)).trans ?_
      rw [tj.2.2.1]
      refine (bnd (by exact v1)).trans ?_
      exact hz
    have mem : ∀ x, x ∈ ot.take (k + 1) ↔ x ∈ ot.take k ∨ x = j := fun x => by rw [tk, List.mem_append, List.mem_singleton]
    rcases v2 with ⟨w1, w2⟩ | ⟨w1, w2⟩
    · -- may not
      have take : ∀ (fb2 : Fb D (D i).1 (ot.take (k + 1)) (some j)), ∃ r', B_X9_forbiddenOverwriter_56 N (L_X9_forbiddenOverwriter_4 N (p 11) F) (p 11) h (some t) (nI k) (some (adr ts j)) = some (h, r'.map (adr ts)) ∧ Fb D (D i).1 ot r' := by
        intro fb2
        obtain ⟨r', s1, s2⟩ := ih (k + 1) F (some j) (by omega) (by omega) (by omega) fb2
        refine ⟨r', ?_, s2⟩
        unfold B_X9_forbiddenOverwriter_56 B_X9_forbiddenOverwriter_59
        rw [ni_inc]
        exact s1
      rcases fb with ⟨f1, f2⟩ | ⟨b, f1, f2, f3, f4⟩
      · obtain ⟨r', s1, s2⟩ := take (Or.inr ⟨j, rfl, (mem j).mpr (Or.inr rfl), w2, fun x hx hm => ((mem x).mp hx).elim (fun y => absurd hm (f2 x y)) (fun y => by rw [y]; exact Int32.le_refl _)⟩)
        refine ⟨r', start ?_, s2⟩
        unfold B_X9_forbiddenOverwriter_37
        refine (if_neg (by rw [w1]; decide)).trans ?_
        refine (nl_ne (by exact by rw [f1]; rfl)).trans ?_
        exact s1
      · have tb := q.2.2.2.2.2.2.2.2.2.2.1 _ _ (adr_get (hot b (List.mem_of_mem_take f2)))
        by_cases c : (D b).1 1007 ≤ (D j).1 1007
        · obtain ⟨r', s1, s2⟩ := ih (k + 1) F (some b) (by omega) (by omega) (by omega) (Or.inr ⟨b, rfl, (mem b).mpr (Or.inl f2), f3, fun x hx hm => ((mem x).mp hx).elim (fun y => f4 x y hm) (fun y => by rw [y]; exact c)⟩)
          refine ⟨r', start ?_, s2⟩
          unfold B_X9_forbiddenOverwriter_37
          refine (if_neg (by rw [w1]; decide)).trans ?_
          refine (nl_so (by exact by rw [f1]; rfl)).trans ?_
          refine (dr_e (by exact rfl) (by exact tj.1)).trans ?_
          refine (ck_eq (by exact tb.1)).trans ?_
          rw [tb.2.2.1, tj.2.2.1]
          refine (if_pos (by exact c)).trans ?_
          unfold B_X9_forbiddenOverwriter_59
          rw [ni_inc]
          exact s1
        · have c' : (D j).1 1007 ≤ (D b).1 1007 := by
            rw [Int32.le_iff_toInt_le] at c ⊢
            omega
          obtain ⟨r', s1, s2⟩ := take (Or.inr ⟨j, rfl, (mem j).mpr (Or.inr rfl), w2, fun x hx hm => ((mem x).mp hx).elim (fun y => Int32.le_trans c' (f4 x y hm)) (fun y => by rw [y]; exact Int32.le_refl _)⟩)
          refine ⟨r', start ?_, s2⟩
          unfold B_X9_forbiddenOverwriter_37
          refine (if_neg (by rw [w1]; decide)).trans ?_
          refine (nl_so (by exact by rw [f1]; rfl)).trans ?_
          refine (dr_e (by exact rfl) (by exact tj.1)).trans ?_
          refine (ck_eq (by exact tb.1)).trans ?_
          rw [tb.2.2.1, tj.2.2.1]
          refine (if_neg (by exact c)).trans ?_
          exact s1
    · have fb2 : Fb D (D i).1 (ot.take (k + 1)) r := by
        rcases fb with ⟨f1, f2⟩ | ⟨b, f1, f2, f3, f4⟩
        · exact Or.inl ⟨f1, fun x hx => ((mem x).mp hx).elim (f2 x) (fun y => by rw [y]; exact w2)⟩
        · exact Or.inr ⟨b, f1, (mem b).mpr (Or.inl f2), f3, fun x hx hm => ((mem x).mp hx).elim (fun y => f4 x y hm) (fun y => absurd hm (by rw [y]; exact w2))⟩
      obtain ⟨r', s1, s2⟩ := ih (k + 1) F r (by omega) (by omega) (by omega) fb2
      refine ⟨r', start ?_, s2⟩
      unfold B_X9_forbiddenOverwriter_37
      refine (if_pos (by exact w1)).trans ?_
      unfold B_X9_forbiddenOverwriter_59
      rw [ni_inc]
      exact s1
theorem kr_forbid (q : Kr g h p G fv lr B V ts D ac cm ot ct rs d0 R cO) (N : Nat) (hN : 100000 < N) (hot : ∀ j ∈ ot, j < ts.length) {i t : Nat} (hi : ts[i]? = some t) : ∃ r, J_X9_forbiddenOverwriter N (p 11) h (some t) = some (h, r.map (adr ts)) ∧ Fb D (D i).1 ot r := by
  have hol : ot.length < 100000 := by have := q.2.2.2.2.2.1.2.2.1; rw [List.length_map] at this; exact this
  exact fb_loop q N hot hol hi ot.length 0 N none rfl (Nat.zero_le _) (by omega) (Or.inl ⟨rfl, fun j hj => by simp at hj⟩)
end KG
