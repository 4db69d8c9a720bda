/-! what is told -/
def hzn (D : Nat → TD) (ac cm : List Nat) : Int32 := match ac with
  | [] => nI cm.length
  | i :: _ => (D i).1 1001
def rnF (D : Nat → TD) (i : Nat) : Nat := if (D i).1 1005 = 2 then 0 else (D i).2.2.2.2.2.2.1.length
def toldV (hz : Int32) (x : TD) (w : Int32) : Int32 := if w = 0 then x.1 1006 else if ¬ x.1 1006 = 1 ∧ ¬ (x.1 1006 = 2 ∧ hz < x.1 1007) then -1 else if w = 1 then x.1 1001 else if w = 2 then x.1 1007 else if w = 3 then x.1 1008 else if w = 4 then (if x.1 1009 = 0 then 0 else 1) else if w = 5 then nI x.2.2.1.length else if w = 6 then nI (if x.1 1005 = 2 then 0 else x.2.2.2.2.2.2.1.length) else if w = 7 then x.1 1005 else if w = 8 then nI x.2.2.2.2.1.length else -1
section KTt
variable {g : Nat → Nat} {h : Hp} {p : Nat → Nat} {G : Nat → Int32} {fv : Int64} {lr : Option Nat} {B : Shf} {V : List Kv} {ts : List Nat} {D : Nat → TD} {ac cm ot : List Nat} {ct rs : Nat → Int32} {d0 : AnD} {R : List (Int32 × Int64)} {cO : Nat}
theorem kr_hzn (q : Kr g h p G fv lr B V ts D ac cm ot ct rs d0 R cO) (hac : ∀ i ∈ ac, i < ts.length) (N : Nat) : J_X9_horizon N (p 11) h = some (h, hzn D ac cm) := by
  rw [kr_horizon q hac N]
  cases ac <;> rfl
theorem kr_isKept (q : Kr g h p G fv lr B V ts D ac cm ot ct rs d0 R cO) (hac : ∀ i ∈ ac, i < ts.length) (N : Nat) {i t : Nat} (hi : ts[i]? = some t) : J_X9_isKept N (p 11) h (some t) = some (h, if (D i).1 1006 = 2 ∧ hzn D ac cm < (D i).1 1007 then 1 else 0) := by
  have tt := q.2.2.2.2.2.2.2.2.2.2.1 i t hi
  unfold J_X9_isKept B_X9_isKept_0
  refine (dr_e (by exact rfl) (by exact tt.1)).trans ?_
  rw [tt.2.2.1 1006, tt.2.2.1 1007]
  by_cases c : (D i).1 1006 = 2
  · rw [if_pos c]
    refine (bnd (by exact kr_hzn q hac N)).trans ?_
    unfold B_X9_isKept_16 B_X9_isKept_23 B_X9_isKept_24
    by_cases c2 : hzn D ac cm < (D i).1 1007
    · rw [if_pos (show (D i).1 1006 = 2 ∧ hzn D ac cm < (D i).1 1007 from ⟨c, c2⟩)]
      refine (if_neg (by rw [Int32.le_iff_toInt_le]; rw [Int32.lt_iff_toInt_lt] at c2; show ¬ _ ≤ (hzn D ac cm).toInt; omega)).trans ?_
      rfl
    · rw [if_neg (show ¬ ((D i).1 1006 = 2 ∧ hzn D ac cm < (D i).1 1007) from fun z => c2 z.2)]
      refine (if_pos (by rw [Int32.le_iff_toInt_le]; rw [Int32.lt_iff_toInt_lt] at c2; show _ ≤ (hzn D ac cm).toInt; omega)).trans ?_
      rfl
  · rw [if_neg c, if_neg (fun z => c z.1)]
    rfl
theorem kr_told (q : Kr g h p G fv lr B V ts D ac cm ot ct rs d0 R cO) (hac : ∀ i ∈ ac, i < ts.length) (N : Nat) (x w : Int32) : J_X9_told N (p 11) h x w = some (h, if 1 ≤ x.toInt ∧ x.toInt ≤ ts.length then toldV (hzn D ac cm) (D (x.toInt.toNat - 1)) w else -1) := by
  unfold J_X9_told B_X9_told_0
  refine (bnd (by exact kr_numbered q N x)).trans ?_
  unfold B_X9_told_5
  by_cases c : 1 ≤ x.toInt ∧ x.toInt ≤ ts.length
  · rw [if_pos c]
    have hi : ts[x.toInt.toNat - 1]? = some (adr ts (x.toInt.toNat - 1)) := adr_get (by omega)
    have e : num ts x = some (adr ts (x.toInt.toNat - 1)) := by unfold num; rw [if_pos c.1]; exact hi
    generalize x.toInt.toNat - 1 = i at hi e
    have tt := q.2.2.2.2.2.2.2.2.2.2.1 i _ hi
    have f := tt.2.2.1
    refine (nl_so (by exact e)).trans ?_
    unfold toldV
    by_cases c0 : w = 0
    · rw [if_pos c0, if_pos c0]
      refine (ck_eq (by exact tt.1)).trans ?_
      rw [f]
    · rw [if_neg c0, if_neg c0]
      refine (ck_eq (by exact tt.1)).trans ?_
      have rest : B_X9_told_39 N (p 11) h w (some (adr ts i)) = some (h, if w = 1 then (D i).1 1001 else if w = 2 then (D i).1 1007 else if w = 3 then (D i).1 1008 else if w = 4 then (if (D i).1 1009 = 0 then 0 else 1) else if w = 5 then nI (D i).2.2.1.length else if w = 6 then nI (if (D i).1 1005 = 2 then 0 else (D i).2.2.2.2.2.2.1.length) else if w = 7 then (D i).1 1005 else if w = 8 then nI (D i).2.2.2.2.1.length else -1) := by
        unfold B_X9_told_39
        by_cases c1 : w = 1
        · rw [if_pos c1, if_pos c1]
          refine (dr_e (by exact rfl) (by exact tt.1)).trans ?_
          rw [f]
        rw [if_neg c1, if_neg c1]
        by_cases c2 : w = 2
        · rw [if_pos c2, if_pos c2]
          refine (dr_e (by exact rfl) (by exact tt.1)).trans ?_
          rw [f]
        rw [if_neg c2, if_neg c2]
        by_cases c3 : w = 3
        · rw [if_pos c3, if_pos c3]
          refine (dr_e (by exact rfl) (by exact tt.1)).trans ?_
          rw [f]
        rw [if_neg c3, if_neg c3]
        by_cases c4 : w = 4
        · rw [if_pos c4, if_pos c4]
          refine (dr_e (by exact rfl) (by exact tt.1)).trans ?_
          rw [f]
          by_cases z : (D i).1 1009 = 0
          · rw [if_pos z, if_pos z]; rfl
          · rw [if_neg z, if_neg z]; rfl
        rw [if_neg c4, if_neg c4]
        by_cases c5 : w = 5
        · rw [if_pos c5, if_pos c5]
          refine (dr_e (by exact rfl) (by exact tt.1)).trans ?_
          refine (dr_e (by exact tt.2.2.2.1.1) (by exact tt.2.2.2.1.2.2.1.1.1)).trans ?_
          refine (dr_e (by exact tt.2.2.2.1.2.2.1.1.2.2.1) (by exact tt.2.2.2.1.2.2.1.2.1)).trans ?_
          refine (bnd (by exact sh_size tt.2.2.2.1.2.2.1.2 N)).trans ?_
          rfl
        rw [if_neg c5, if_neg c5]
        by_cases c6 : w = 6
        · rw [if_pos c6, if_pos c6]
          refine (dr_e (by exact rfl) (by exact tt.1)).trans ?_
          refine (bnd (by exact tx_runs tt N)).trans ?_
          by_cases z : (D i).1 1005 = 2
          · rw [if_pos z, if_pos z]; rfl
          · rw [if_neg z, if_neg z]; rfl
        rw [if_neg c6, if_neg c6]
        by_cases c7 : w = 7
        · rw [if_pos c7, if_pos c7]
          refine (dr_e (by exact rfl) (by exact tt.1)).trans ?_
          rw [f]
        rw [if_neg c7, if_neg c7]
        by_cases c8 : w = 8
        · rw [if_pos c8, if_pos c8]
          refine (dr_e (by exact rfl) (by exact tt.1)).trans ?_
          refine (dr_e (by exact tt.2.2.2.1.1) (by exact tt.2.2.2.1.2.2.1.1.1)).trans ?_
          rw [tt.2.2.2.1.2.2.1.1.2.2.2.2.2.2.2.2.2.2.2.2.1]
        rw [if_neg c8, if_neg c8]
      rw [f]
      by_cases a1 : (D i).1 1006 = 1
      · rw [if_pos a1, if_neg (fun z => z.1 a1)]
        exact rest
      · rw [if_neg a1]
        have ek := kr_isKept q hac N hi
        by_cases a2 : (D i).1 1006 = 2 ∧ hzn D ac cm < (D i).1 1007
        · rw [if_pos a2] at ek
          rw [if_neg (show ¬ (¬ (D i).1 1006 = 1 ∧ ¬ ((D i).1 1006 = 2 ∧ hzn D ac cm < (D i).1 1007)) from fun z => z.2 a2)]
          refine (bnd (by exact ek)).trans ?_
          unfold B_X9_told_34
          refine (if_neg (by show ¬ (1 : Int32) = 0; decide)).trans ?_
          exact rest
        · rw [if_neg a2] at ek
          rw [if_pos (show ¬ (D i).1 1006 = 1 ∧ ¬ ((D i).1 1006 = 2 ∧ hzn D ac cm < (D i).1 1007) from ⟨a1, a2⟩)]
          refine (bnd (by exact ek)).trans ?_
          unfold B_X9_told_34
          refine (if_pos (by rfl)).trans ?_
          rfl
  · rw [if_neg c]
    have e : num ts x = none := by
      unfold num
      by_cases c1 : 1 ≤ x.toInt
      · rw [if_pos c1]
        exact List.getElem?_eq_none (by omega)
      · rw [if_neg c1]
    refine (nl_ne (by exact e)).trans ?_
    rfl
end KTt
