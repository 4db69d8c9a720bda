/-! commit: conflict, readers, danger -/
section KF
variable {g : Nat → Nat} {h : Hp} {p : Nat → Nat} {G : Nat → Int32} {fv : Int64} {lr : Option Nat} {B : Shf} {V : List Kv} {ts : List Nat} {D : Nat → TD} {ac cm ot : List Nat} {ct rs : Nat → Int32} {d0 : AnD} {R : List (Int32 × Int64)} {cO : Nat}
/-- the first key written that others have written over: its place k, its first later entry e -/
def CfR (A B : Shf) (st : Int32) (r : Option (Int32 × Ent)) : Prop := (r = none ∧ ∀ y ∈ A, takeW st (look B y.1) = []) ∨ ∃ (k : Nat) (y : Int32 × List Ent) (e : Ent), r = some (y.1, e) ∧ A[k]? = some y ∧ (takeW st (look B y.1)).getLast? = some e ∧ ∀ (j : Nat) (z : Int32 × List Ent), j < k → A[j]? = some z → takeW st (look B z.1) = []
theorem cf_loop (q : Kr g h p G fv lr B V ts D ac cm ot ct rs d0 R cO) (w : Wf g h) (N : Nat) (hN : 100000 < N) {i t : Nat} (hi : ts[i]? = some t) : ∀ (m k F : Nat), m = (D i).2.2.1.length - k → k ≤ (D i).2.2.1.length → m < F → (∀ (j : Nat) (z : Int32 × List Ent), j < k → (D i).2.2.1[j]? = some z → takeW ((D i).1 1001) (look B z.1) = []) → ∃ h' r, L_X9_isInConflict_10 N (p 11) F h (some t) (some (D i).2.1.2.1) (nI k) = some (h', if r = none then 0 else 1) ∧ CfR (D i).2.2.1 B ((D i).1 1001) r ∧ Kr g h' p G fv lr B V ts D ac cm ot ct (match r with | none => rs | some (y, e) => va_up (va_up (va_up (va_up rs 0 1) 1 ((D i).1 1000)) 2 e.2.1) 3 y) d0 R cO ∧ Wf g h' ∧ h'.nx = h.nx ∧ h'.su = h.su := by
  have tt := q.2.2.2.2.2.2.2.2.2.2.1 i t hi
  have sh := tt.2.2.2.1.2.2.1.2
  have sB := q.2.1.2.1
  have hA := sh_len sh
  intro m
  induction m with
  | zero =>
    intro k F hm hk hF hp
    obtain ⟨F, rfl⟩ : ∃ F', F = F' + 1 := ⟨F - 1, by omega⟩
    refine ⟨h, none, ?_, Or.inl ⟨rfl, fun y hy => ?_⟩, q, w, rfl, rfl⟩
    · show B_X9_isInConflict_10 N _ (p 11) h (some t) _ (nI k) = _
      unfold B_X9_isInConflict_10
      refine (dr_e (by exact rfl) (by exact sh.1)).trans ?_
      refine (bnd (by exact sh_size sh N)).trans ?_
      unfold B_X9_isInConflict_15
      refine (if_pos (by exact (ni_le (by omega) (by omega)).mpr (by omega))).trans ?_
      rfl
    · obtain ⟨j, hj⟩ := mem_iff_get.mp hy
      exact hp j y (by have := (List.getElem?_eq_some_iff.mp hj).1; omega) hj
  | succ m ih =>
    intro k F hm hk hF hp
    obtain ⟨F, rfl⟩ : ∃ F', F = F' + 1 := ⟨F - 1, by omega⟩
    have hlt : k < (D i).2.2.1.length := by omega
    have hy : (D i).2.2.1[k]? = some (D i).2.2.1[k] := List.getElem?_eq_getElem hlt
    obtain ⟨c, e1, e2, -⟩ := sh_chainAt sh N hy
    generalize (D i).2.2.1[k] = y at hy e2
    obtain ⟨x, f1, f2⟩ := sh_find sB N hN y.1
    have start : ∀ {z : Option (Hp × Int32)}, B_X9_isInConflict_45 N (L_X9_isInConflict_10 N (p 11) F) (p 11) h (some t) (some (D i).2.1.2.1) (nI k) (some c) x = z → L_X9_isInConflict_10 N (p 11) (F + 1) h (some t) (some (D i).2.1.2.1) (nI k) = z := by
      intro z hz
      show B_X9_isInConflict_10 N (L_X9_isInConflict_10 N (p 11) F) (p 11) h (some t) _ (nI k) = _
      unfold B_X9_isInConflict_10
      refine (dr_e (by exact rfl) (by exact sh.1)).trans ?_
      refine (bnd (by exact sh_size sh N)).trans ?_
      unfold B_X9_isInConflict_15
      refine (if_neg (by exact fun z => by rw [ni_le (by omega) (by omega)] at z; omega)).trans ?_
      refine (dr_e (by exact rfl) (by exact sh.1)).trans ?_
      refine (bnd (by exact e1)).trans ?_
      unfold B_X9_isInConflict_23
      refine (nl_so (by exact rfl)).trans ?_
      refine (ck_eq (by exact e2.1)).trans ?_
      refine (dr_e (by exact q.1.2.2.2.2.1) (by exact sB.1)).trans ?_
      rw [e2.2.2.1]
      refine (bnd (by exact f1)).trans ?_
      exact hz
    have next : takeW ((D i).1 1001) (look B y.1) = [] → ∃ h' r, B_X9_isInConflict_93 N (L_X9_isInConflict_10 N (p 11) F) (p 11) h (some t) (some (D i).2.1.2.1) (nI k) = some (h', if r = none then 0 else 1) ∧ CfR (D i).2.2.1 B ((D i).1 1001) r ∧ Kr g h' p G fv lr B V ts D ac cm ot ct (match r with | none => rs | some (y, e) => va_up (va_up (va_up (va_up rs 0 1) 1 ((D i).1 1000)) 2 e.2.1) 3 y) d0 R cO ∧ Wf g h' ∧ h'.nx = h.nx ∧ h'.su = h.su := by
      intro hz
      obtain ⟨h', r, s1, s2⟩ := ih (k + 1) F (by omega) (by omega) (by omega) (fun j z hj hjz => by
        by_cases c0 : j = k
        · rw [c0, hy] at hjz
          injection hjz with hjz
          rw [← hjz]; exact hz
        · exact hp j z (by omega) hjz)
      refine ⟨h', r, ?_, s2⟩
      unfold B_X9_isInConflict_93
      rw [ni_inc]
      exact s1
    rcases f2 with ⟨x1, x2⟩ | ⟨c2, x1, x2, x3, -⟩
    · obtain ⟨h', r, s1, s2⟩ := next (by rw [x2]; rfl)
      refine ⟨h', r, start ?_, s2⟩
      unfold B_X9_isInConflict_45
      refine (nl_ne (by exact x1)).trans ?_
      unfold B_X9_isInConflict_65
      refine (nl_ne (by exact rfl)).trans ?_
      exact s1
    · obtain ⟨z, z1, z2⟩ := ch_first x3 N hN ((D i).1 1001)
      rcases z2 with ⟨y1, y2⟩ | ⟨a, e, y1, y2, y3, y4⟩
      · obtain ⟨h', r, s1, s2⟩ := next y1
        refine ⟨h', r, start ?_, s2⟩
        unfold B_X9_isInConflict_45
        refine (nl_so (by exact x1)).trans ?_
        refine (dr_e (by exact rfl) (by exact tt.1)).trans ?_
        refine (ck_eq (by exact x3.1)).trans ?_
        rw [tt.2.2.1]
        refine (bnd (by exact z1)).trans ?_
        unfold B_X9_isInConflict_65
        refine (nl_ne (by exact y2)).trans ?_
        exact s1
      · obtain ⟨h', s1, s2, s3, s4, s5⟩ := kr_blame q w N 1 ((D i).1 1000) e.2.1 y.1
        refine ⟨h', some (y.1, e), start ?_, Or.inr ⟨k, y, e, rfl, hy, y4, hp⟩, s2, s3.wf, s4, s5⟩
        unfold B_X9_isInConflict_45
        refine (nl_so (by exact x1)).trans ?_
        refine (dr_e (by exact rfl) (by exact tt.1)).trans ?_
        refine (ck_eq (by exact x3.1)).trans ?_
        rw [tt.2.2.1]
        refine (bnd (by exact z1)).trans ?_
        unfold B_X9_isInConflict_65
        refine (nl_so (by exact y1)).trans ?_
        refine (dr_e (by exact rfl) (by exact tt.1)).trans ?_
        refine (ck_eq (by exact y2.1)).trans ?_
        refine (dr_e (by exact rfl) (by exact e2.1)).trans ?_
        rw [tt.2.2.1, y2.2.2.1, e2.2.2.1]
        refine (bnd (by exact s1)).trans ?_
        rfl
theorem kr_conf (q : Kr g h p G fv lr B V ts D ac cm ot ct rs d0 R cO) (w : Wf g h) (N : Nat) (hN : 100000 < N) {i t : Nat} (hi : ts[i]? = some t) : ∃ h' r, J_X9_isInConflict N (p 11) h (some t) = some (h', if r = none then 0 else 1) ∧ CfR (D i).2.2.1 B ((D i).1 1001) r ∧ Kr g h' p G fv lr B V ts D ac cm ot ct (match r with | none => rs | some (y, e) => va_up (va_up (va_up (va_up rs 0 1) 1 ((D i).1 1000)) 2 e.2.1) 3 y) d0 R cO ∧ Wf g h' ∧ h'.nx = h.nx ∧ h'.su = h.su := by
  have tt := q.2.2.2.2.2.2.2.2.2.2.1 i t hi
  have hA := sh_len tt.2.2.2.1.2.2.1.2
  obtain ⟨h', r, s1, s2⟩ := cf_loop q w N hN hi (D i).2.2.1.length 0 N rfl (Nat.zero_le _) (by omega) (fun j z hj => by omega)
  refine ⟨h', r, ?_, s2⟩
  unfold J_X9_isInConflict B_X9_isInConflict_0
  refine (dr_e (by exact rfl) (by exact tt.1)).trans ?_
  refine (dr_e (by exact tt.2.2.2.1.1) (by exact tt.2.2.2.1.2.2.1.1.1)).trans ?_
  rw [tt.2.2.2.1.2.2.1.1.2.2.1]
  exact s1
/-- j has read a key that A holds -/
def Rd (D : Nat → TD) (A : Shf) (j : Nat) : Prop := (D j).1 1005 ≠ 2 ∧ ∃ y ∈ A, InS (D j).2.2.2.2.2.2.1 y.1
theorem gr_loop (q : Kr g h p G fv lr B V ts D ac cm ot ct rs d0 R cO) (w : Wf g h) (N : Nat) (hN : 100000 < N) {i t j u : Nat} (hi : ts[i]? = some t) (hj : ts[j]? = some u) (hol : ot.length < 90000) : ∀ (m k F : Nat), m = (D i).2.2.1.length - k → k ≤ (D i).2.2.1.length → m < F → (∀ (x : Nat) (z : Int32 × List Ent), x < k → (D i).2.2.1[x]? = some z → ¬ ((D j).1 1005 ≠ 2 ∧ InS (D j).2.2.2.2.2.2.1 z.1)) → ∃ h' g' ot', L_X9_gatherIfReader_21 N (p 11) F h (some u) (some (D i).2.1.2.1) (nI k) = some (h', ()) ∧ ((ot' = ot ∧ ¬ Rd D (D i).2.2.1 j) ∨ (ot' = ot ++ [j] ∧ Rd D (D i).2.2.1 j)) ∧ Kr g' h' p G fv lr B V ts D ac cm ot' ct rs d0 R (cap h' (p 10)) ∧ Wf g' h' ∧ Grn h h' (p 10) ot.length := by
  have tt := q.2.2.2.2.2.2.2.2.2.2.1 i t hi
  have tu := q.2.2.2.2.2.2.2.2.2.2.1 j u hj
  have sh := tt.2.2.2.1.2.2.1.2
  have hA := sh_len sh
  intro m
  induction m with
  | zero =>
    intro k F hm hk hF hp
    obtain ⟨F, rfl⟩ : ∃ F', F = F' + 1 := ⟨F - 1, by omega⟩
    refine ⟨h, g, ot, ?_, Or.inl ⟨rfl, fun z => ?_⟩, by rw [q.2.2.2.2.2.1.1.2]; exact q, w, Grn.rf _ _ _⟩
    · show B_X9_gatherIfReader_21 N _ (p 11) h (some u) _ (nI k) = _
      unfold B_X9_gatherIfReader_21
      refine (dr_e (by exact rfl) (by exact sh.1)).trans ?_
      refine (bnd (by exact sh_size sh N)).trans ?_
      unfold B_X9_gatherIfReader_27
      refine (if_pos (by exact (ni_le (by omega) (by omega)).mpr (by omega))).trans ?_
      rfl
    · obtain ⟨z1, y, hy, hy2⟩ := z
      obtain ⟨x, hx⟩ := mem_iff_get.mp hy
      exact hp x y (by have := (List.getElem?_eq_some_iff.mp hx).1; omega) hx ⟨z1, hy2⟩
  | succ m ih =>
    intro k F hm hk hF hp
    obtain ⟨F, rfl⟩ : ∃ F', F = F' + 1 := ⟨F - 1, by omega⟩
    have hlt : k < (D i).2.2.1.length := by omega
    have hy : (D i).2.2.1[k]? = some (D i).2.2.1[k] := List.getElem?_eq_getElem hlt
    obtain ⟨c, e1, e2, -⟩ := sh_chainAt sh N hy
    generalize (D i).2.2.1[k] = y at hy e2
    obtain ⟨v, v1, v2⟩ := tx_hasRead tu N hN y.1
    have start : ∀ {z : Option (Hp × Unit)}, B_X9_gatherIfReader_52 N (L_X9_gatherIfReader_21 N (p 11) F) (p 11) h (some u) (some (D i).2.1.2.1) (nI k) v = z → L_X9_gatherIfReader_21 N (p 11) (F + 1) h (some u) (some (D i).2.1.2.1) (nI k) = z := by
      intro z hz
      show B_X9_gatherIfReader_21 N (L_X9_gatherIfReader_21 N (p 11) F) (p 11) h (some u) _ (nI k) = _
      unfold B_X9_gatherIfReader_21
      refine (dr_e (by exact rfl) (by exact sh.1)).trans ?_
      refine (bnd (by exact sh_size sh N)).trans ?_
      unfold B_X9_gatherIfReader_27
      refine (if_neg (by exact fun z => by rw [ni_le (by omega) (by omega)] at z; omega)).trans ?_
      refine (dr_e (by exact rfl) (by exact sh.1)).trans ?_
      refine (bnd (by exact e1)).trans ?_
      unfold B_X9_gatherIfReader_36
      refine (nl_so (by exact rfl)).trans ?_
      refine (ck_eq (by exact e2.1)).trans ?_
      refine (dr_e (by exact rfl) (by exact tu.1)).trans ?_
      rw [e2.2.2.1]
      refine (bnd (by exact v1)).trans ?_
      exact hz
    rcases v2 with ⟨w1, w2⟩ | ⟨w1, w2⟩
    · obtain ⟨h2, g2, a1, a2, a3, a4⟩ := al_add q.2.2.2.2.2.1.2 w (x := u) (Or.inr (Or.inr tu.1)) (by rw [List.length_map]; exact hol) N
      rw [show ot.map (adr ts) ++ [u] = (ot ++ [j]).map (adr ts) by rw [List.map_append, List.map_singleton, adr_eq hj]] at a2
      have q2 := q.oth w a3 a2
      refine ⟨h2, g2, ot ++ [j], start ?_, Or.inr ⟨rfl, w2.1, y, List.mem_of_getElem? hy, w2.2⟩, q2, a3.wf, by have := a4.n (n := ot.length) (by rw [List.length_map]; exact Nat.le_refl _); exact this⟩
      unfold B_X9_gatherIfReader_52
      refine (if_neg (by rw [w1]; decide)).trans ?_
      refine (dr_e (by exact q.1.2.2.2.2.2.2.2.2.2.2.2.1) (by exact q.2.2.2.2.2.1.2.1)).trans ?_
      refine (bnd (by exact a1)).trans ?_
      rfl
    · obtain ⟨h', g', ot', s1, s2⟩ := ih (k + 1) F (by omega) (by omega) (by omega) (fun x z hx hxz => by
        by_cases c0 : x = k
        · rw [c0, hy] at hxz
          injection hxz with hxz
          rw [← hxz]; exact w2
        · exact hp x z (by omega) hxz)
      refine ⟨h', g', ot', start ?_, s2⟩
      unfold B_X9_gatherIfReader_52
      refine (if_pos (by exact w1)).trans ?_
      unfold B_X9_gatherIfReader_65
      rw [ni_inc]
      exact s1
theorem kr_gir (q : Kr g h p G fv lr B V ts D ac cm ot ct rs d0 R cO) (w : Wf g h) (N : Nat) (hN : 100000 < N) {i t j u : Nat} (hi : ts[i]? = some t) (hj : ts[j]? = some u) (hol : ot.length < 90000) : ∃ h' g' ot', J_X9_gatherIfReader N (p 11) h (some u) (some t) = some (h', ()) ∧ ((ot' = ot ∧ ¬ (j ≠ i ∧ Rd D (D i).2.2.1 j)) ∨ (ot' = ot ++ [j] ∧ j ≠ i ∧ Rd D (D i).2.2.1 j)) ∧ Kr g' h' p G fv lr B V ts D ac cm ot' ct rs d0 R (cap h' (p 10)) ∧ Wf g' h' ∧ Grn h h' (p 10) ot.length := by
  have tt := q.2.2.2.2.2.2.2.2.2.2.1 i t hi
  have hA := sh_len tt.2.2.2.1.2.2.1.2
  by_cases c : u = t
  · have e : j = i := (List.getElem?_inj (List.getElem?_eq_some_iff.mp hj).1 q.2.2.2.2.2.2.2.2.2.2.2.1).mp (by rw [hj, hi, c])
    refine ⟨h, g, ot, ?_, Or.inl ⟨rfl, fun z => z.1 e⟩, by rw [q.2.2.2.2.2.1.1.2]; exact q, w, Grn.rf _ _ _⟩
    unfold J_X9_gatherIfReader B_X9_gatherIfReader_0
    refine (nl_so (by exact rfl)).trans ?_
    refine (if_pos (by rw [c])).trans ?_
    rfl
  · have e : j ≠ i := fun z => c (by rw [z, hi] at hj; injection hj with hj; exact hj.symm)
    obtain ⟨h', g', ot', s1, s2, s3⟩ := gr_loop q w N hN hi hj hol (D i).2.2.1.length 0 N rfl (Nat.zero_le _) (by omega) (fun x z hx => by omega)
    refine ⟨h', g', ot', ?_, s2.imp (fun z => ⟨z.1, fun y => z.2 y.2⟩) (fun z => ⟨z.1, e, z.2⟩), s3⟩
    unfold J_X9_gatherIfReader B_X9_gatherIfReader_0
    refine (nl_so (by exact rfl)).trans ?_
    refine (if_neg (by exact fun z => by injection z with z; exact c z)).trans ?_
    refine (dr_e (by exact rfl) (by exact tt.1)).trans ?_
    refine (dr_e (by exact tt.2.2.2.1.1) (by exact tt.2.2.2.1.2.2.1.1.1)).trans ?_
    rw [tt.2.2.2.1.2.2.1.1.2.2.1]
    exact s1
end KF
