theorem inR_mem {B : Shf} (hs : Srt B) {lo hh : Int32} {k : Nat} (ix : IsIx B lo.toInt k) (y : Int32 × List Ent) : y ∈ inR B hh k ↔ y ∈ B ∧ lo.toInt ≤ y.1.toInt ∧ y.1.toInt ≤ hh.toInt := by
  have key : ∀ (c k : Nat), c = B.length - k → ∀ y, y ∈ inR B hh k ↔ ∃ j : Nat, k ≤ j ∧ B[j]? = some y ∧ y.1.toInt ≤ hh.toInt := by
    intro c
    induction c with
    | zero =>
      intro k hc y
      unfold inR
      rw [List.drop_eq_nil_of_le (by omega)]
      constructor
      · intro z; cases z
      · rintro ⟨j, h1, h2, -⟩
        have := (List.getElem?_eq_some_iff.mp h2).1
        omega
    | succ c ih =>
      intro k hc y
      have hy : B[k]? = some B[k] := List.getElem?_eq_getElem (by omega)
      rw [inR_c hh hy]
      generalize B[k] = z at hy
      by_cases e : z.1 ≤ hh
      · rw [if_pos e, List.mem_cons, ih (k + 1) (by omega)]
        rw [Int32.le_iff_toInt_le] at e
        constructor
        · rintro (r | ⟨j, j1, j2, j3⟩)
          · exact ⟨k, Nat.le_refl _, by rw [r]; exact hy, by rw [r]; exact e⟩
          · exact ⟨j, by omega, j2, j3⟩
        · rintro ⟨j, j1, j2, j3⟩
          by_cases e2 : j = k
          · rw [e2, hy] at j2; injection j2 with j2; exact Or.inl j2.symm
          · exact Or.inr ⟨j, by omega, j2, j3⟩
      · rw [if_neg e]
        rw [Int32.le_iff_toInt_le] at e
        constructor
        · intro z; cases z
        · rintro ⟨j, j1, j2, j3⟩
          exfalso
          by_cases e2 : j = k
          · rw [e2, hy] at j2; injection j2 with j2; rw [← j2] at j3; omega
          · have := hs k j z y (by omega) hy j2
            rw [Int32.lt_iff_toInt_lt] at this
            omega
  rw [key _ k rfl y]
  constructor
  · rintro ⟨j, j1, j2, j3⟩
    exact ⟨List.mem_of_getElem? j2, ix.2.2 j y j1 j2, j3⟩
  · rintro ⟨h1, h2, h3⟩
    obtain ⟨j, hj⟩ := mem_iff_get.mp h1
    refine ⟨j, Nat.le_of_not_lt (fun z => ?_), hj, h3⟩
    have := ix.2.1 j y z hj
    omega
section DR2
variable {g0 : Nat → Nat} {h0 : Hp} {p : Nat → Nat} {G : Nat → Int32} {fv : Int64} {lr : Option Nat} {B : Shf} {V : List Kv} {ts : List Nat} {D : Nat → TD} {ac cm ot : List Nat} {ct rs : Nat → Int32} {d0 : AnD} {R : List (Int32 × Int64)} {cO : Nat} {au ah od : Nat}
theorem au_drawL (q0 : Kr g0 h0 p G fv lr B V ts D ac cm ot ct rs d0 R cO) (w0 : Wf g0 h0) (N : Nat) (hN : 100000 < N) (hcl : cm.length < 100000) (hst : ∀ y ∈ B, StM cm y.2) {i t mo : Nat} (hi : ts[i]? = some t) (hmo : (D i).1 1007 = nI (mo + 1)) (hml : mo < cm.length) (lo hh : Int32) {g : Nat → Nat} {h : Hp} {M : Nat → Nat → Prop} (a : Ag g0 g h0 h p cm au ah od M) : ∃ h', J_X1_drawLooking N au h (some t) lo hh = some (h', ()) ∧ Ag g0 g h0 h' p cm au ah od (fun a b => M a b ∨ ∃ y ∈ B, lo.toInt ≤ y.1.toInt ∧ y.1.toInt ≤ hh.toInt ∧ LkP ((D i).1 1001) ((D i).1 1007) y.2 a b) ∧ h'.nx = h.nx ∧ h'.su = h.su := by
  have q := q0.new w0 (Nat.le_refl _) a.1
  have sB := q.2.1.2.1
  have hB := sh_len sB
  obtain ⟨k, i1, i2⟩ := sh_index sB N hN lo.toInt64
  rw [toI64] at i2
  obtain ⟨h', r1, r2, r3, r4⟩ := dl_loop q0 w0 N hN hcl hst hi hmo hml hh (B.length - k) k N g h M rfl (by have := i2.1; omega) (by omega) a
  refine ⟨h', ?_, ⟨r2.1, r2.2.1, r2.2.2.1, r2.2.2.2.cg (fun a b => or_congr Iff.rfl ?_)⟩, r3, r4⟩
  · unfold J_X1_drawLooking B_X1_drawLooking_0
    refine (dr_e (by exact a.2.2.1.2.2.1) (by exact sB.1)).trans ?_
    refine (bnd (by exact i1)).trans ?_
    exact r1
  · constructor
    · rintro ⟨y, hy, z⟩
      obtain ⟨z1, z2, z3⟩ := (inR_mem sB.2.2.2.1 i2 y).mp hy
      exact ⟨y, z1, z2, z3, z⟩
    · rintro ⟨y, z1, z2, z3, z⟩
      exact ⟨y, (inR_mem sB.2.2.2.1 i2 y).mpr ⟨z1, z2, z3⟩, z⟩
theorem ls_in (q0 : Kr g0 h0 p G fv lr B V ts D ac cm ot ct rs d0 R cO) (w0 : Wf g0 h0) (N : Nat) (hN : 100000 < N) (hcl : cm.length < 100000) (hst : ∀ y ∈ B, StM cm y.2) {i t mo : Nat} (hi : ts[i]? = some t) (hmo : (D i).1 1007 = nI (mo + 1)) (hml : mo < cm.length) (k2 : Hp → Int32 → Option (Hp × Unit)) (x1 : Int32) : ∀ (c k F : Nat) (g : Nat → Nat) (h : Hp) (M : Nat → Nat → Prop), c = (D i).2.2.2.2.2.2.1.length - k → k ≤ (D i).2.2.2.2.2.2.1.length → c < F → Ag g0 g h0 h p cm au ah od M → ∃ h', L_X1_drawLookings_24 N k2 au F h x1 (some t) (nI k) = k2 h' (x1 + 1) ∧ Ag g0 g h0 h' p cm au ah od (fun a b => M a b ∨ ∃ y ∈ B, InS ((D i).2.2.2.2.2.2.1.drop k) y.1 ∧ LkP ((D i).1 1001) ((D i).1 1007) y.2 a b) ∧ h'.nx = h.nx ∧ h'.su = h.su := by
  intro c
  induction c with
  | zero =>
    intro k F g h M hc hk hF a
    obtain ⟨F, rfl⟩ : ∃ F', F = F' + 1 := ⟨F - 1, by omega⟩
    have q := q0.new w0 (Nat.le_refl _) a.1
    have tt := q.2.2.2.2.2.2.2.2.2.2.1 i t hi
    obtain ⟨-, -, -, -, ⟨s1, s2, s3, s4⟩, -⟩ := id tt
    have l1 := s3.2.2.2.2.2.2.2.2.2.2.1
    have l2 := s3.2.2.2.2.2.2.2.2.2.2.2.1
    refine ⟨h, ?_, ⟨a.1, a.2.1, a.2.2.1, a.2.2.2.cg (fun a b => ⟨Or.inl, fun z => z.elim id (fun ⟨y, hy, ⟨s, hs, _⟩, _⟩ => by rw [List.drop_eq_nil_of_le (by omega)] at hs; cases hs)⟩)⟩, rfl, rfl⟩
    show B_X1_drawLookings_24 N k2 _ au h x1 (some t) (nI k) = _
    unfold B_X1_drawLookings_24
    refine (dr_e (by exact rfl) (by exact tt.1)).trans ?_
    refine (dr_e (by exact s1) (by exact s3.1)).trans ?_
    rw [s3.2.2.2.2.2.2.2.2.2.2.2.2.1]
    refine (if_pos (by exact (ni_le (by omega) (by omega)).mpr (by omega))).trans ?_
    rfl
  | succ c ih =>
    intro k F g h M hc hk hF a
    obtain ⟨F, rfl⟩ : ∃ F', F = F' + 1 := ⟨F - 1, by omega⟩
    have q := q0.new w0 (Nat.le_refl _) a.1
    have tt := q.2.2.2.2.2.2.2.2.2.2.1 i t hi
    obtain ⟨-, -, -, -, ⟨s1, s2, s3, s4⟩, -⟩ := id tt
    obtain ⟨a1, a2, a3, a4, a5, a6, a7, a8, a9, a10, a11, a12, a13, a14⟩ := id s3
    have hlt : k < (D i).2.2.2.2.2.2.1.length := by omega
    have hy : (D i).2.2.2.2.2.2.1[k]? = some (D i).2.2.2.2.2.2.1[k] := List.getElem?_eq_getElem hlt
    have dk : (D i).2.2.2.2.2.2.1.drop k = (D i).2.2.2.2.2.2.1[k] :: (D i).2.2.2.2.2.2.1.drop (k + 1) := List.drop_eq_getElem_cons hlt
    obtain ⟨v1, v2⟩ := a14 _ _ hy
    generalize (D i).2.2.2.2.2.2.1[k] = s at hy dk v1 v2
    obtain ⟨h2, b1, b2, b3, b4⟩ := au_drawL q0 w0 N hN hcl hst hi hmo hml s.1 s.2 a
    obtain ⟨h3, r1, r2, r3, r4⟩ := ih (k + 1) F g h2 _ (by omega) (by omega) (by omega) b2
    refine ⟨h3, ?_, ⟨r2.1, r2.2.1, r2.2.2.1, r2.2.2.2.cg (fun a b => ?_)⟩, r3.trans b3, r4.trans b4⟩
    · show B_X1_drawLookings_24 N k2 (L_X1_drawLookings_24 N k2 au F) au h x1 (some t) (nI k) = _
      unfold B_X1_drawLookings_24
      refine (dr_e (by exact rfl) (by exact tt.1)).trans ?_
      refine (dr_e (by exact s1) (by exact s3.1)).trans ?_
      rw [a13]
      refine (if_neg (by exact fun z => by rw [ni_le (by omega) (by omega)] at z; omega)).trans ?_
      refine (dr_e (by exact s1) (by exact s3.1)).trans ?_
      refine (dr_e (by exact a2) (by exact a4)).trans ?_
      refine (ck_ix (show _ < h.al (D i).2.1.2.2.2.2.2.1 by omega) (show h.al (D i).2.1.2.2.2.2.2.1 < _ by omega)).trans ?_
      refine (dr_e (by exact s1) (by exact s3.1)).trans ?_
      refine (dr_e (by exact a3) (by exact a5)).trans ?_
      refine (ck_ix (show _ < h.al (D i).2.1.2.2.2.2.2.2.1 by omega) (show h.al (D i).2.1.2.2.2.2.2.2.1 < _ by omega)).trans ?_
      rw [ni_clp (by omega), v1, v2]
      refine (bnd (by exact b1)).trans ?_
      unfold B_X1_drawLookings_58
      rw [ni_inc]
      exact r1
    · rw [or_assoc, dk]
      refine or_congr Iff.rfl ⟨?_, ?_⟩
      · rintro (⟨y, y1, y2, y3, z⟩ | ⟨y, y1, ⟨u, u1, u2⟩, z⟩)
        · exact ⟨y, y1, ⟨s, List.mem_cons_self, y2, y3⟩, z⟩
        · exact ⟨y, y1, ⟨u, List.mem_cons_of_mem _ u1, u2⟩, z⟩
      · rintro ⟨y, y1, ⟨u, u1, u2⟩, z⟩
        rcases List.mem_cons.mp u1 with e | e
        · rw [e] at u2
          exact Or.inl ⟨y, y1, u2.1, u2.2, z⟩
        · exact Or.inr ⟨y, y1, ⟨u, e, u2⟩, z⟩
theorem ls_out (q0 : Kr g0 h0 p G fv lr B V ts D ac cm ot ct rs d0 R cO) (w0 : Wf g0 h0) (N : Nat) (hN : 100000 < N) (hcl : cm.length < 100000) (hst : ∀ y ∈ B, StM cm y.2) (hcm : ∀ i ∈ cm, i < ts.length) (hmo : ∀ m i, cm[m]? = some i → (D i).1 1007 = nI (m + 1)) : ∀ (c k F : Nat) (g : Nat → Nat) (h : Hp) (M : Nat → Nat → Prop), c = cm.length - k → k ≤ cm.length → c < F → Ag g0 g h0 h p cm au ah od M → ∃ h', L_X1_drawLookings_2 N au F h (nI k) = some (h', ()) ∧ Ag g0 g h0 h' p cm au ah od (fun a b => M a b ∨ ∃ i ∈ cm.drop k, ∃ y ∈ B, InS (D i).2.2.2.2.2.2.1 y.1 ∧ LkP ((D i).1 1001) ((D i).1 1007) y.2 a b) ∧ h'.nx = h.nx ∧ h'.su = h.su := by
  intro c
  induction c with
  | zero =>
    intro k F g h M hc hk hF a
    obtain ⟨F, rfl⟩ : ∃ F', F = F' + 1 := ⟨F - 1, by omega⟩
    refine ⟨h, ?_, ⟨a.1, a.2.1, a.2.2.1, a.2.2.2.cg (fun a b => ⟨Or.inl, fun z => z.elim id (fun ⟨i, hi, _⟩ => by rw [List.drop_eq_nil_of_le (by omega)] at hi; cases hi)⟩)⟩, rfl, rfl⟩
    show B_X1_drawLookings_2 N _ au h (nI k) = _
    unfold B_X1_drawLookings_2
    rw [a.2.2.1.2.2.2.2.1]
    refine (if_pos (by exact (ni_le (by omega) (by omega)).mpr (by omega))).trans ?_
    rfl
  | succ c ih =>
    intro k F g h M hc hk hF a
    obtain ⟨F, rfl⟩ : ∃ F', F = F' + 1 := ⟨F - 1, by omega⟩
    have q := q0.new w0 (Nat.le_refl _) a.1
    have hlt : k < cm.length := by omega
    have hj : cm[k]? = some cm[k] := List.getElem?_eq_getElem hlt
    have dk : cm.drop k = cm[k] :: cm.drop (k + 1) := List.drop_eq_getElem_cons hlt
    have hjm := List.mem_of_getElem? hj
    generalize cm[k] = i at hj dk hjm
    have hi := adr_get (hcm i hjm)
    have tt := q.2.2.2.2.2.2.2.2.2.2.1 _ _ hi
    have l1 := tt.2.2.2.2.1.2.2.1.2.2.2.2.2.2.2.2.2.2.1
    have l2 := tt.2.2.2.2.1.2.2.1.2.2.2.2.2.2.2.2.2.2.2.1
    obtain ⟨h2, b1, b2, b3, b4⟩ := ls_in q0 w0 N hN hcl hst hi (hmo k i hj) hlt (L_X1_drawLookings_2 N au F) (nI k) (D i).2.2.2.2.2.2.1.length 0 N g h M rfl (Nat.zero_le _) (by omega) a
    obtain ⟨h3, r1, r2, r3, r4⟩ := ih (k + 1) F g h2 _ (by omega) (by omega) (by omega) b2
    refine ⟨h3, ?_, ⟨r2.1, r2.2.1, r2.2.2.1, r2.2.2.2.cg (fun a b => ?_)⟩, r3.trans b3, r4.trans b4⟩
    · show B_X1_drawLookings_2 N (L_X1_drawLookings_2 N au F) au h (nI k) = _
      unfold B_X1_drawLookings_2
      rw [a.2.2.1.2.2.2.2.1]
      refine (if_neg (by exact fun z => by rw [ni_le (by omega) (by omega)] at z; omega)).trans ?_
      refine (dr_e (by exact a.2.2.1.2.2.2.1) (by exact q.2.2.2.2.1.2.1)).trans ?_
      refine (bnd (by exact al_get q.2.2.2.2.1.2 N (map_get (ts := ts) hj))).trans ?_
      unfold B_X1_drawLookings_18
      refine (dr_e (by exact rfl) (by exact tt.1)).trans ?_
      refine b1.trans ?_
      rw [ni_inc]
      exact r1
    · rw [or_assoc, dk, List.drop_zero]
      refine or_congr Iff.rfl ⟨?_, ?_⟩
      · rintro (z | ⟨j, hj, z⟩)
        · exact ⟨i, List.mem_cons_self, z⟩
        · exact ⟨j, List.mem_cons_of_mem _ hj, z⟩
      · rintro ⟨j, hj, z⟩
        rcases List.mem_cons.mp hj with e | e
        · rw [e] at z; exact Or.inl z
        · exact Or.inr ⟨j, e, z⟩
/-- who comes ahead of whom -/
def Ahd (B : Shf) (D : Nat → TD) (cm : List Nat) (x y : Nat) : Prop := (∃ z ∈ B, DrP z.2 x y) ∨ ∃ i ∈ cm, ∃ z ∈ B, InS (D i).2.2.2.2.2.2.1 z.1 ∧ LkP ((D i).1 1001) ((D i).1 1007) z.2 x y
end DR2
