/-- all of them, in the order ord, from place i on -/
def RepA (D : Nat → TD) (cm : List Nat) : List Nat → Nat → List Kv → Nat → List Kv → Nat → Prop
  | [], _, W, m, W', m' => W' = W ∧ m' = m
  | x :: r, i, W, m, W', m' => ∃ j L A m1, cm[x]? = some j ∧ RepT W (nI i) ((D j).1 1000) (D j).2.2.2.2.2.2.2 [] [] 0 m L m1 ∧ Srt A ∧ (∀ y ∈ A, y.2 ≠ []) ∧ BkL A L ∧ RepA D cm r (i + 1) (W ++ inst A (nI (i + 1)) ((D j).1 1000)) m1 W' m'
/-- the keys whose values differ -/
def thr1 (L : List Ent) : Option Int64 := visE L.head?
theorem inst_len (A : Shf) (m ow : Int32) : (inst A m ow).length = A.length := by unfold inst; rw [List.length_map]
section DJ
variable {p : Nat → Nat} {G : Nat → Int32} {fv : Int64} {lr : Option Nat} {B : Shf} {V : List Kv} {ts : List Nat} {D : Nat → TD} {ac cm ot : List Nat} {ct rs : Nat → Int32} {R : List (Int32 × Int64)} {cO : Nat}
theorem ok_loop {g : Nat → Nat} {h : Hp} {d0 : AnD} {au ah od n S lS : Nat} {BS : Shf} {W : List Kv} (q : Kr g h p G fv lr B V ts D ac cm ot ct rs d0 R cO) (a : Au g h au (p 0) (p 4) n ah od) (sh : Sh g h S lS BS) (bS : BkL BS W) (N : Nat) (hN : 100000 < N) : ∀ (c k m F : Nat), c = B.length - k → k ≤ B.length → c < F → L_X1_otherKeys_4 N au F h (some S) (nI m) (nI k) = some (h, nI (m + (B.drop k).countP (fun y => decide (thr1 y.2 ≠ thr1 (look BS y.1))))) := by
  have sB := q.2.1.2.1
  have hB := sh_len sB
  intro c
  induction c with
  | zero =>
    intro k m F hc hk hF
    obtain ⟨F, rfl⟩ : ∃ F', F = F' + 1 := ⟨F - 1, by omega⟩
    show B_X1_otherKeys_4 N _ au h (some S) (nI m) (nI k) = _
    unfold B_X1_otherKeys_4
    refine (dr_e (by exact a.2.2.1) (by exact sB.1)).trans ?_
    refine (bnd (by exact sh_size sB N)).trans ?_
    unfold B_X1_otherKeys_12
    refine (if_pos (by exact (ni_le (by omega) (by omega)).mpr (by omega))).trans ?_
    rw [List.drop_eq_nil_of_le (by omega)]
    rfl
  | succ c ih =>
    intro k m F hc hk hF
    obtain ⟨F, rfl⟩ : ∃ F', F = F' + 1 := ⟨F - 1, by omega⟩
    have hlt : k < B.length := by omega
    have hy : B[k]? = some B[k] := List.getElem?_eq_getElem hlt
    have dk : B.drop k = B[k] :: B.drop (k + 1) := List.drop_eq_getElem_cons hlt
    obtain ⟨c1, e1, e2, -⟩ := sh_chainAt sB N hy
    generalize B[k] = y at hy dk e2
    obtain ⟨x, f1, f2⟩ := sh_find sh N hN y.1
    have same := ih (k + 1) m F (by omega) (by omega) (by omega)
    have more := ih (k + 1) (m + 1) F (by omega) (by omega) (by omega)
    have start : ∀ {z : Option (Hp × Int32)}, B_X1_otherKeys_43 N (L_X1_otherKeys_4 N au F) au h (some S) (nI m) (nI k) (some c1) x = z → L_X1_otherKeys_4 N au (F + 1) h (some S) (nI m) (nI k) = z := by
      intro z hz
      show B_X1_otherKeys_4 N (L_X1_otherKeys_4 N au F) au h (some S) (nI m) (nI k) = _
      unfold B_X1_otherKeys_4
      refine (dr_e (by exact a.2.2.1) (by exact sB.1)).trans ?_
      refine (bnd (by exact sh_size sB N)).trans ?_
      unfold B_X1_otherKeys_12
      refine (if_neg (by exact fun z => by rw [ni_le (by omega) (by omega)] at z; omega)).trans ?_
      refine (dr_e (by exact a.2.2.1) (by exact sB.1)).trans ?_
      refine (bnd (by exact e1)).trans ?_
      unfold B_X1_otherKeys_23
      refine (nl_so (by exact rfl)).trans ?_
      refine (ck_eq (by exact e2.1)).trans ?_
      refine (dr_e (by exact rfl) (by exact sh.1)).trans ?_
      rw [e2.2.2.1]
      refine (bnd (by exact f1)).trans ?_
      exact hz
    -- the two entries
    have eo1 := e2.2.2.2.1.eo
    have top2 : ∃ u, Eo h u (look BS y.1).head? ∧ B_X1_otherKeys_59 N (L_X1_otherKeys_4 N au F) au h (some S) (nI m) (nI k) x (h.fr 601 c1) = B_X1_otherKeys_75 N (L_X1_otherKeys_4 N au F) au h (some S) (nI m) (nI k) (h.fr 601 c1) u := by
      rcases f2 with ⟨x1, x2⟩ | ⟨c2, x1, x2, x3, -⟩
      · refine ⟨none, Or.inl ⟨rfl, by rw [x2]; rfl⟩, ?_⟩
        unfold B_X1_otherKeys_59
        refine (nl_ne (by exact x1)).trans ?_
        rfl
      · refine ⟨h.fr 601 c2, x3.2.2.2.1.eo, ?_⟩
        unfold B_X1_otherKeys_59
        refine (nl_so (by exact x1)).trans ?_
        refine (ck_eq (by exact x3.1)).trans ?_
        rfl
    obtain ⟨u, u1, u2⟩ := top2
    have goal2 : B_X1_otherKeys_75 N (L_X1_otherKeys_4 N au F) au h (some S) (nI m) (nI k) (h.fr 601 c1) u = if thr1 y.2 ≠ thr1 (look BS y.1) then L_X1_otherKeys_4 N au F h (some S) (nI (m + 1)) (nI (k + 1)) else L_X1_otherKeys_4 N au F h (some S) (nI m) (nI (k + 1)) := by
      have s95 : ∀ (b : Int32) (o : Option Int64), ((b = 0 ∧ o = none) ∨ (b = 1 ∧ ∃ a1 e, h.fr 601 c1 = some a1 ∧ Ef h a1 e ∧ o = some e.2.2.2)) → B_X1_otherKeys_95 N (L_X1_otherKeys_4 N au F) au h (some S) (nI m) (nI k) (h.fr 601 c1) u b = if o ≠ thr1 (look BS y.1) then L_X1_otherKeys_4 N au F h (some S) (nI (m + 1)) (nI (k + 1)) else L_X1_otherKeys_4 N au F h (some S) (nI m) (nI (k + 1)) := by
        intro b o hb
        unfold thr1 B_X1_otherKeys_95 B_X1_otherKeys_114 B_X1_otherKeys_115 B_X1_otherKeys_148 B_X1_otherKeys_151
        rw [ni_inc, ni_inc]
        rcases u1 with ⟨x1, x2⟩ | ⟨a2, e2', x1, x2, x3⟩
        · refine (nl_ne (by exact x1)).trans ?_
          rw [x2]
          show _ = if o ≠ none then _ else _
          rcases hb with ⟨b1, b2⟩ | ⟨b1, a1, e, b2, b3, b4⟩
          · rw [b1, b2, if_pos rfl, if_pos rfl, if_neg (fun z => z rfl)]
          · rw [b1, b4, if_neg (by decide), if_pos (by simp)]
        · refine (nl_so (by exact x1)).trans ?_
          refine (ck_eq (by exact x3.1)).trans ?_
          rw [x2, x3.2.2.2.1]
          show _ = if o ≠ (if e2'.2.2.1 = 0 then none else some e2'.2.2.2) then _ else _
          by_cases z : e2'.2.2.1 = 0
          · rw [if_pos z, if_pos z]
            rcases hb with ⟨b1, b2⟩ | ⟨b1, a1, e, b2, b3, b4⟩
            · rw [b1, b2, if_pos rfl, if_pos rfl, if_neg (fun z => z rfl)]
            · rw [b1, b4, if_neg (by decide), if_pos (by simp)]
          · rw [if_neg z, if_neg z]
            rcases hb with ⟨b1, b2⟩ | ⟨b1, a1, e, b2, b3, b4⟩
            · rw [b1, b2, if_neg (by decide), if_pos (by simp)]
            · rw [b1, b4, if_pos rfl, if_neg (by decide), if_neg (by decide)]
              refine (dr_e (by exact b2) (by exact b3.1)).trans ?_
              refine (dr_e (by exact rfl) (by exact x3.1)).trans ?_
              rw [b3.2.2.2.2.1, x3.2.2.2.2.1]
              by_cases e3 : e.2.2.2 = e2'.2.2.2
              · refine (if_pos (by exact lg_cmp_ez.mpr e3)).trans ?_
                rw [if_neg (fun z => z (by rw [e3]))]
              · refine (if_neg (by exact fun z => e3 (lg_cmp_ez.mp z))).trans ?_
                rw [if_pos (fun z => e3 (Option.some.inj z))]
      unfold B_X1_otherKeys_75 B_X1_otherKeys_94
      rcases eo1 with ⟨x1, x2⟩ | ⟨a1, e, x1, x2, x3⟩
      · refine (nl_ne (by exact x1)).trans ?_
        have := s95 0 none (Or.inl ⟨rfl, rfl⟩)
        rw [this]
        unfold thr1
        rw [x2]
        rfl
      · refine (nl_so (by exact x1)).trans ?_
        refine (ck_eq (by exact x3.1)).trans ?_
        rw [x3.2.2.2.1, ← x1]
        have t1 : thr1 y.2 = if e.2.2.1 = 0 then none else some e.2.2.2 := by unfold thr1; rw [x2]; rfl
        rw [t1]
        by_cases z : e.2.2.1 = 0
        · rw [if_pos z, if_pos z]
          exact s95 0 none (Or.inl ⟨rfl, rfl⟩)
        · rw [if_neg z, if_neg z]
          exact s95 1 _ (Or.inr ⟨rfl, a1, e, x1, x3, rfl⟩)
    refine start ?_
    unfold B_X1_otherKeys_43
    refine (nl_so (by exact rfl)).trans ?_
    refine (ck_eq (by exact e2.1)).trans ?_
    refine u2.trans ?_
    rw [goal2, dk, List.countP_cons]
    by_cases z : thr1 y.2 ≠ thr1 (look BS y.1)
    · rw [if_pos z, if_pos (decide_eq_true z), more]
      congr 3
      omega
    · rw [if_neg z, if_neg (fun w => z (of_decide_eq_true w)), same]
      rfl
end DJ
