/-! what is drawn -/
/-- stamp m is that of place x -/
def Sp (m : Int32) (x : Nat) : Prop := m = nI (x + 1) ∧ x < 100000
theorem Sp.uq {m : Int32} {x y : Nat} (a : Sp m x) (b : Sp m y) : x = y := by
  have := (ni_inj (by have := a.2; omega) (by have := b.2; omega)).mp (a.1.symm.trans b.1)
  omega
def DrP : List Ent → Nat → Nat → Prop
  | e1 :: e2 :: r => fun x y => (Sp e2.1 x ∧ Sp e1.1 y ∧ x ≠ y) ∨ DrP (e2 :: r) x y
  | _ => fun _ _ => False
def LkP (st mo : Int32) (L : List Ent) (x y : Nat) : Prop := (∃ e, (dropW st L).head? = some e ∧ Sp e.1 x ∧ Sp mo y ∧ x ≠ y) ∨ ∃ e, (takeW st L).getLast? = some e ∧ Sp mo x ∧ Sp e.1 y ∧ x ≠ y
theorem sp_iff {m1 m2 : Int32} {x y : Nat} (hx : Sp m1 x) (hy : Sp m2 y) (a b : Nat) : (a = x ∧ b = y ∧ x ≠ y) ↔ (Sp m1 a ∧ Sp m2 b ∧ a ≠ b) := by
  constructor
  · rintro ⟨rfl, rfl, z⟩; exact ⟨hx, hy, z⟩
  · rintro ⟨z1, z2, z3⟩
    have e1 := z1.uq hx
    have e2 := z2.uq hy
    exact ⟨e1, e2, by rw [← e1, ← e2]; exact z3⟩
theorem Mx.cg {h : Hp} {ah n : Nat} {M M' : Nat → Nat → Prop} (m : Mx h ah n M) (e : ∀ a b, M a b ↔ M' a b) : Mx h ah n M' := ⟨fun a b z => m.1 a b ((e a b).mpr z), fun b i j hb hi hj => (m.2 b i j hb hi hj).trans (e _ _)⟩
section DR
variable {g0 : Nat → Nat} {h0 : Hp} {p : Nat → Nat} {G : Nat → Int32} {fv : Int64} {lr : Option Nat} {B : Shf} {V : List Kv} {ts : List Nat} {D : Nat → TD} {ac cm ot : List Nat} {ct rs : Nat → Int32} {d0 : AnD} {R : List (Int32 × Int64)} {cO : Nat} {au ah od : Nat}
/-- the audit goes on: h lies behind h0, where Kr holds -/
def Ag (g0 g : Nat → Nat) (h0 h : Hp) (p : Nat → Nat) (cm : List Nat) (au ah od : Nat) (M : Nat → Nat → Prop) : Prop := Fr g0 g h0.nx h0 h ∧ h0.nx ≤ au ∧ Au g h au (p 0) (p 4) cm.length ah od ∧ Mx h ah cm.length M
theorem Ag.dr {g : Nat → Nat} {h : Hp} {M : Nat → Nat → Prop} (a : Ag g0 g h0 h p cm au ah od M) (w0 : Wf g0 h0) (N : Nat) {x y : Nat} (hx : x < cm.length) (hy : y < cm.length) : ∃ h', J_X1_draw N au h (nI (x + 1)) (nI (y + 1)) = some (h', ()) ∧ Ag g0 g h0 h' p cm au ah od (fun a b => M a b ∨ (a = x ∧ b = y ∧ x ≠ y)) ∧ h'.nx = h.nx ∧ h'.su = h.su ∧ Fr g g au h h' := by
  obtain ⟨h', e1, e2, e3, e4, e5, e6, -⟩ := au_draw a.2.2.1 a.1.wf a.2.2.2 N hx hy
  exact ⟨h', e1, ⟨a.1.trn w0 e4 a.2.1, a.2.1, e2, e3⟩, e5, e6, e4⟩
theorem dv_in (w0 : Wf g0 h0) (N : Nat) (hcl : cm.length < 100000) (k2 : Hp → Int32 → Option (Hp × Unit)) (x1 : Int32) : ∀ (L : List Ent) (F : Nat) (x : Option Nat) (g : Nat → Nat) (h : Hp) (M : Nat → Nat → Prop), L.length < F → En g h L x → StM cm L → Ag g0 g h0 h p cm au ah od M → ∃ h', L_X1_drawVersions_35 N k2 au F h x1 x = k2 h' (x1 + 1) ∧ Ag g0 g h0 h' p cm au ah od (fun a b => M a b ∨ DrP L a b) ∧ h'.nx = h.nx ∧ h'.su = h.su := by
  intro L
  induction L with
  | nil =>
    intro F x g h M hF en st a
    obtain ⟨F, rfl⟩ : ∃ F', F = F' + 1 := ⟨F - 1, by omega⟩
    refine ⟨h, ?_, ⟨a.1, a.2.1, a.2.2.1, a.2.2.2.cg (fun a b => ⟨Or.inl, fun z => z.elim id (fun z => z.elim)⟩)⟩, rfl, rfl⟩
    show B_X1_drawVersions_35 N k2 _ au h x1 x = _
    unfold B_X1_drawVersions_35
    refine (nl_ne (by exact en)).trans ?_
    rfl
  | cons e r ih =>
    intro F x g h M hF en st a
    obtain ⟨F, rfl⟩ : ∃ F', F = F' + 1 := ⟨F - 1, by omega⟩
    obtain ⟨b, b1, b2, b3, b4⟩ := en
    cases r with
    | nil =>
      refine ⟨h, ?_, ⟨a.1, a.2.1, a.2.2.1, a.2.2.2.cg (fun a b => ⟨Or.inl, fun z => z.elim id (fun z => z.elim)⟩)⟩, rfl, rfl⟩
      show B_X1_drawVersions_35 N k2 _ au h x1 x = _
      unfold B_X1_drawVersions_35
      refine (nl_so (by exact b1)).trans ?_
      refine (ck_eq (by exact b3.1)).trans ?_
      refine (nl_ne (by exact b4)).trans ?_
      rfl
    | cons e2 r2 =>
      obtain ⟨c, c1, c2, c3, c4⟩ := id b4
      obtain ⟨m1, u1, u2, u3⟩ := st e List.mem_cons_self
      obtain ⟨m2, v1, v2, v3⟩ := st e2 (List.mem_cons_of_mem _ List.mem_cons_self)
      obtain ⟨m1, rfl⟩ : ∃ k, m1 = k + 1 := ⟨m1 - 1, by omega⟩
      obtain ⟨m2, rfl⟩ : ∃ k, m2 = k + 1 := ⟨m2 - 1, by omega⟩
      obtain ⟨h2, d1, d2, d3, d4, d5⟩ := a.dr w0 N (show m2 < cm.length by omega) (show m1 < cm.length by omega)
      have k4 := a.2.2.1.1
      have hp7 : h.kd au ≠ 7 := by rw [k4]; decide
      have ef := b3.fr b2 a.1.wf d5 hp7
      have en2 : En g h2 (e2 :: r2) (h2.fr 704 b) := by rw [ef.2.1]; exact b4.fr a.1.wf d5 hp7
      obtain ⟨h3, r1, r2', r3, r4⟩ := ih F (h2.fr 704 b) g h2 _ (by rw [List.length_cons] at hF; omega) en2 (fun x hx => st x (List.mem_cons_of_mem _ hx)) d2
      refine ⟨h3, ?_, ⟨r2'.1, r2'.2.1, r2'.2.2.1, r2'.2.2.2.cg (fun a b => ?_)⟩, r3.trans d3, r4.trans d4⟩
      · show B_X1_drawVersions_35 N k2 (L_X1_drawVersions_35 N k2 au F) au h x1 x = _
        unfold B_X1_drawVersions_35
        refine (nl_so (by exact b1)).trans ?_
        refine (ck_eq (by exact b3.1)).trans ?_
        refine (nl_so (by exact c1)).trans ?_
        refine (dr_e (by exact c1) (by exact c3.1)).trans ?_
        rw [c3.2.1, b3.2.1, u3, v3]
        refine (bnd (by exact d1)).trans ?_
        unfold B_X1_drawVersions_61
        refine (dr_e (by exact rfl) (by exact ef.1.1)).trans ?_
        exact r1
      · show _ ↔ M a b ∨ ((Sp e2.1 a ∧ Sp e.1 b ∧ a ≠ b) ∨ DrP (e2 :: r2) a b)
        rw [or_assoc]
        exact or_congr Iff.rfl (or_congr (sp_iff ⟨v3, by omega⟩ ⟨u3, by omega⟩ a b) Iff.rfl)
theorem dv_out (q0 : Kr g0 h0 p G fv lr B V ts D ac cm ot ct rs d0 R cO) (w0 : Wf g0 h0) (N : Nat) (hN : 100000 < N) (hcl : cm.length < 100000) (hst : ∀ y ∈ B, StM cm y.2) : ∀ (c k F : Nat) (g : Nat → Nat) (h : Hp) (M : Nat → Nat → Prop), c = B.length - k → k ≤ B.length → c < F → Ag g0 g h0 h p cm au ah od M → ∃ h', L_X1_drawVersions_2 N au F h (nI k) = some (h', ()) ∧ Ag g0 g h0 h' p cm au ah od (fun a b => M a b ∨ ∃ y ∈ B.drop k, DrP y.2 a b) ∧ h'.nx = h.nx ∧ h'.su = h.su := by
  intro c
  induction c with
  | zero =>
    intro k F g h M hc hk hF a
    obtain ⟨F, rfl⟩ : ∃ F', F = F' + 1 := ⟨F - 1, by omega⟩
    have q := q0.new w0 (Nat.le_refl _) a.1
    have sB := q.2.1.2.1
    have hB := sh_len sB
    refine ⟨h, ?_, ⟨a.1, a.2.1, a.2.2.1, a.2.2.2.cg (fun a b => ⟨Or.inl, fun z => z.elim id (fun ⟨y, hy, _⟩ => by rw [List.drop_eq_nil_of_le (by omega)] at hy; cases hy)⟩)⟩, rfl, rfl⟩
    show B_X1_drawVersions_2 N _ au h (nI k) = _
    unfold B_X1_drawVersions_2
    refine (dr_e (by exact a.2.2.1.2.2.1) (by exact sB.1)).trans ?_
    refine (bnd (by exact sh_size sB N)).trans ?_
    unfold B_X1_drawVersions_10
    refine (if_pos (by exact (ni_le (by omega) (by omega)).mpr (by omega))).trans ?_
    rfl
  | succ c ih =>
    intro k F g h M hc hk hF a
    obtain ⟨F, rfl⟩ : ∃ F', F = F' + 1 := ⟨F - 1, by omega⟩
    have q := q0.new w0 (Nat.le_refl _) a.1
    have sB := q.2.1.2.1
    have hB := sh_len sB
    have hlt : k < B.length := by omega
    have hy : B[k]? = some B[k] := List.getElem?_eq_getElem hlt
    have dk : B.drop k = B[k] :: B.drop (k + 1) := List.drop_eq_getElem_cons hlt
    obtain ⟨c1, e1, e2, -⟩ := sh_chainAt sB N hy
    have e3 := hst _ (List.mem_of_getElem? hy)
    generalize B[k] = y at hy dk e2 e3
    obtain ⟨h2, b1, b2, b3, b4⟩ := dv_in w0 N hcl (L_X1_drawVersions_2 N au F) (nI k) y.2 N (h.fr 601 c1) g h M (by have := e2.2.2.2.2; omega) e2.2.2.2.1 e3 a
    obtain ⟨h3, r1, r2, r3, r4⟩ := ih (k + 1) F g h2 _ (by omega) (by omega) (by omega) b2
    refine ⟨h3, ?_, ⟨r2.1, r2.2.1, r2.2.2.1, r2.2.2.2.cg (fun a b => ?_)⟩, r3.trans b3, r4.trans b4⟩
    · show B_X1_drawVersions_2 N (L_X1_drawVersions_2 N au F) au h (nI k) = _
      unfold B_X1_drawVersions_2
      refine (dr_e (by exact a.2.2.1.2.2.1) (by exact sB.1)).trans ?_
      refine (bnd (by exact sh_size sB N)).trans ?_
      unfold B_X1_drawVersions_10
      refine (if_neg (by exact fun z => by rw [ni_le (by omega) (by omega)] at z; omega)).trans ?_
      refine (dr_e (by exact a.2.2.1.2.2.1) (by exact sB.1)).trans ?_
      refine (bnd (by exact e1)).trans ?_
      unfold B_X1_drawVersions_21
      refine (nl_so (by exact rfl)).trans ?_
      refine (ck_eq (by exact e2.1)).trans ?_
      unfold B_X1_drawVersions_34
      refine b1.trans ?_
      rw [ni_inc]
      exact r1
    · rw [or_assoc, dk]
      refine or_congr Iff.rfl ⟨?_, ?_⟩
      · rintro (z | ⟨y2, hy2, z⟩)
        · exact ⟨y, List.mem_cons_self, z⟩
        · exact ⟨y2, List.mem_cons_of_mem _ hy2, z⟩
      · rintro ⟨y2, hy2, z⟩
        rcases List.mem_cons.mp hy2 with e | e
        · rw [e] at z; exact Or.inl z
        · exact Or.inr ⟨y2, e, z⟩
/-- one looking: of i, the keys from place k on up to hh -/
def inR (B : Shf) (hh : Int32) (k : Nat) : Shf := (B.drop k).takeWhile (fun y => decide (y.1 ≤ hh))
theorem inR_c {B : Shf} (hh : Int32) {i : Nat} {y : Int32 × List Ent} (h : B[i]? = some y) : inR B hh i = if y.1 ≤ hh then y :: inR B hh (i + 1) else [] := by
  unfold inR
  obtain ⟨h1, h2⟩ := List.getElem?_eq_some_iff.mp h
  rw [List.drop_eq_getElem_cons h1, h2]
  by_cases c : y.1 ≤ hh
  · rw [if_pos c, List.takeWhile_cons_of_pos (by simpa using c)]
  · rw [if_neg c, List.takeWhile_cons_of_neg (by simpa using c)]
theorem dl_loop (q0 : Kr g0 h0 p G fv lr B V ts D ac cm ot ct rs d0 R cO) (w0 : Wf g0 h0) (N : Nat) (hN : 100000 < N) (hcl : cm.length < 100000) (hst : ∀ y ∈ B, StM cm y.2) {i t mo : Nat} (hi : ts[i]? = some t) (hmo : (D i).1 1007 = nI (mo + 1)) (hml : mo < cm.length) (hh : Int32) : ∀ (c k F : Nat) (g : Nat → Nat) (h : Hp) (M : Nat → Nat → Prop), c = B.length - k → k < 100000 → c < F → Ag g0 g h0 h p cm au ah od M → ∃ h', L_X1_drawLooking_11 N au F h (some t) hh (nI k) = some (h', ()) ∧ Ag g0 g h0 h' p cm au ah od (fun a b => M a b ∨ ∃ y ∈ inR B hh k, LkP ((D i).1 1001) ((D i).1 1007) y.2 a b) ∧ h'.nx = h.nx ∧ h'.su = h.su := by
  intro c
  induction c with
  | zero =>
    intro k F g h M hc hk hF a
    obtain ⟨F, rfl⟩ : ∃ F', F = F' + 1 := ⟨F - 1, by omega⟩
    have q := q0.new w0 (Nat.le_refl _) a.1
    have sB := q.2.1.2.1
    have hB := sh_len sB
    refine ⟨h, ?_, ⟨a.1, a.2.1, a.2.2.1, a.2.2.2.cg (fun a b => ⟨Or.inl, fun z => z.elim id (fun ⟨y, hy, _⟩ => by unfold inR at hy; rw [List.drop_eq_nil_of_le (by omega)] at hy; cases hy)⟩)⟩, rfl, rfl⟩
    show B_X1_drawLooking_11 N _ au h (some t) hh (nI k) = _
    unfold B_X1_drawLooking_11
    refine (dr_e (by exact a.2.2.1.2.2.1) (by exact sB.1)).trans ?_
    refine (bnd (by exact sh_size sB N)).trans ?_
    unfold B_X1_drawLooking_20
    refine (if_pos (by exact (ni_le (by omega) (by omega)).mpr (by omega))).trans ?_
    rfl
  | succ c ih =>
    intro k F g h M hc hk hF a
    obtain ⟨F, rfl⟩ : ∃ F', F = F' + 1 := ⟨F - 1, by omega⟩
    have q := q0.new w0 (Nat.le_refl _) a.1
    have sB := q.2.1.2.1
    have hB := sh_len sB
    have tt := q.2.2.2.2.2.2.2.2.2.2.1 i t hi
    have hlt : k < B.length := by omega
    have hy : B[k]? = some B[k] := List.getElem?_eq_getElem hlt
    obtain ⟨c1, e1, e2, -⟩ := sh_chainAt sB N hy
    have e3 := hst _ (List.mem_of_getElem? hy)
    have ir := inR_c hh hy
    generalize B[k] = y at hy e2 e3 ir
    have start : ∀ {z : Option (Hp × Unit)}, B_X1_drawLooking_32 N (L_X1_drawLooking_11 N au F) au h (some t) hh (nI k) (some c1) = z → L_X1_drawLooking_11 N au (F + 1) h (some t) hh (nI k) = z := by
      intro z hz
      show B_X1_drawLooking_11 N (L_X1_drawLooking_11 N au F) au h (some t) hh (nI k) = _
      unfold B_X1_drawLooking_11
      refine (dr_e (by exact a.2.2.1.2.2.1) (by exact sB.1)).trans ?_
      refine (bnd (by exact sh_size sB N)).trans ?_
      unfold B_X1_drawLooking_20
      refine (if_neg (by exact fun z => by rw [ni_le (by omega) (by omega)] at z; omega)).trans ?_
      refine (dr_e (by exact a.2.2.1.2.2.1) (by exact sB.1)).trans ?_
      refine (bnd (by exact e1)).trans ?_
      exact hz
    by_cases z : y.1 ≤ hh
    · rw [if_pos z] at ir
      obtain ⟨u, u1, u2⟩ := ch_upTo e2 N hN ((D i).1 1001)
      -- the version seen
      have stepA : ∃ h2, B_X1_drawLooking_60 N (L_X1_drawLooking_11 N au F) au h (some t) hh (nI k) (some c1) u = B_X1_drawLooking_80 N (L_X1_drawLooking_11 N au F) au h2 (some t) hh (nI k) (some c1) ∧ Ag g0 g h0 h2 p cm au ah od (fun a b => M a b ∨ ∃ e, (dropW ((D i).1 1001) y.2).head? = some e ∧ Sp e.1 a ∧ Sp ((D i).1 1007) b ∧ a ≠ b) ∧ h2.nx = h.nx ∧ h2.su = h.su ∧ Fr g g au h h2 := by
        rcases u2.eo with ⟨x1, x2⟩ | ⟨b, e, x1, x2, x3⟩
        · refine ⟨h, ?_, ⟨a.1, a.2.1, a.2.2.1, a.2.2.2.cg (fun a b => ⟨Or.inl, fun z => z.elim id (fun ⟨e, he, _⟩ => by rw [x2] at he; cases he)⟩)⟩, rfl, rfl, Fr.rf a.1.wf au⟩
          unfold B_X1_drawLooking_60
          refine (nl_ne (by exact x1)).trans ?_
          rfl
        · have hm : e ∈ dropW ((D i).1 1001) y.2 := List.mem_of_mem_head? x2
          obtain ⟨m1, v1, v2, v3⟩ := e3 e ((List.dropWhile_suffix _).subset hm)
          obtain ⟨m1, rfl⟩ : ∃ k, m1 = k + 1 := ⟨m1 - 1, by omega⟩
          obtain ⟨h2, f1, f2, f3, f4, f5⟩ := a.dr w0 N (show m1 < cm.length by omega) hml
          refine ⟨h2, ?_, ⟨f2.1, f2.2.1, f2.2.2.1, f2.2.2.2.cg (fun a b => or_congr Iff.rfl ?_)⟩, f3, f4, f5⟩
          · unfold B_X1_drawLooking_60
            refine (nl_so (by exact x1)).trans ?_
            refine (ck_eq (by exact x3.1)).trans ?_
            refine (dr_e (by exact rfl) (by exact tt.1)).trans ?_
            rw [tt.2.2.1, x3.2.1, v3, hmo]
            refine (bnd (by exact f1)).trans ?_
            rfl
          · rw [sp_iff (m1 := e.1) (m2 := (D i).1 1007) ⟨v3, by omega⟩ ⟨hmo, by omega⟩]
            exact ⟨fun z => ⟨e, x2, z⟩, fun ⟨e', he, z⟩ => by rw [x2] at he; injection he with he; rw [he]; exact z⟩
      obtain ⟨h2, s1, s2, s3, s4, s5⟩ := stepA
      have q2 := q0.new w0 (Nat.le_refl _) s2.1
      have tt2 := q2.2.2.2.2.2.2.2.2.2.2.1 i t hi
      have hp7 : h.kd au ≠ 7 := by rw [a.2.2.1.1]; decide
      have e22 := e2.fr a.1.wf s5 hp7 (by
        have g1 := a.2.2.1.2.1
        have nn : ¬ Un g au (p 0) := nun_root q.2.1.1 (ne_kd sB.1 a.2.2.1.1 (by decide))
        exact nun (ne_kd e2.1 a.2.2.1.1 (by decide)) (by rw [e2.2.1]; exact nn))
      obtain ⟨u', w1, w2⟩ := ch_first e22 N hN ((D i).1 1001)
      have stepB : ∃ h3, B_X1_drawLooking_80 N (L_X1_drawLooking_11 N au F) au h2 (some t) hh (nI k) (some c1) = L_X1_drawLooking_11 N au F h3 (some t) hh (nI (k + 1)) ∧ Ag g0 g h0 h3 p cm au ah od (fun a b => (M a b ∨ ∃ e, (dropW ((D i).1 1001) y.2).head? = some e ∧ Sp e.1 a ∧ Sp ((D i).1 1007) b ∧ a ≠ b) ∨ ∃ e, (takeW ((D i).1 1001) y.2).getLast? = some e ∧ Sp ((D i).1 1007) a ∧ Sp e.1 b ∧ a ≠ b) ∧ h3.nx = h2.nx ∧ h3.su = h2.su := by
        rcases w2 with ⟨x1, x2⟩ | ⟨b, e, x1, x2, x3, x4⟩
        · refine ⟨h2, ?_, ⟨s2.1, s2.2.1, s2.2.2.1, s2.2.2.2.cg (fun a b => ⟨Or.inl, fun z => z.elim id (fun ⟨e, he, _⟩ => by rw [x1] at he; cases he)⟩)⟩, rfl, rfl⟩
          unfold B_X1_drawLooking_80
          refine (dr_e (by exact rfl) (by exact tt2.1)).trans ?_
          refine (dr_e (by exact rfl) (by exact e22.1)).trans ?_
          rw [tt2.2.2.1]
          refine (bnd (by exact w1)).trans ?_
          unfold B_X1_drawLooking_89
          refine (nl_ne (by exact x2)).trans ?_
          unfold B_X1_drawLooking_109
          rw [ni_inc]
        · have hm : e ∈ takeW ((D i).1 1001) y.2 := List.mem_of_getLast? x4
          obtain ⟨m1, v1, v2, v3⟩ := e3 e ((List.takeWhile_prefix _).subset hm)
          obtain ⟨m1, rfl⟩ : ∃ k, m1 = k + 1 := ⟨m1 - 1, by omega⟩
          obtain ⟨h3, f1, f2, f3, f4, f5⟩ := s2.dr w0 N hml (show m1 < cm.length by omega)
          refine ⟨h3, ?_, ⟨f2.1, f2.2.1, f2.2.2.1, f2.2.2.2.cg (fun a b => or_congr Iff.rfl ?_)⟩, f3, f4⟩
          · unfold B_X1_drawLooking_80
            refine (dr_e (by exact rfl) (by exact tt2.1)).trans ?_
            refine (dr_e (by exact rfl) (by exact e22.1)).trans ?_
            rw [tt2.2.2.1]
            refine (bnd (by exact w1)).trans ?_
            unfold B_X1_drawLooking_89
            refine (nl_so (by exact x1)).trans ?_
            refine (dr_e (by exact rfl) (by exact tt2.1)).trans ?_
            refine (ck_eq (by exact x2.1)).trans ?_
            rw [tt2.2.2.1, x2.2.1, v3, hmo]
            refine (bnd (by exact f1)).trans ?_
            unfold B_X1_drawLooking_109
            rw [ni_inc]
          · rw [sp_iff (m1 := (D i).1 1007) (m2 := e.1) ⟨hmo, by omega⟩ ⟨v3, by omega⟩]
            exact ⟨fun z => ⟨e, x4, z⟩, fun ⟨e', he, z⟩ => by rw [x4] at he; injection he with he; rw [he]; exact z⟩
      obtain ⟨h3, f1, f2, f3, f4⟩ := stepB
      obtain ⟨h4, r1, r2, r3, r4⟩ := ih (k + 1) F g h3 _ (by omega) (by omega) (by omega) f2
      refine ⟨h4, start ?_, ⟨r2.1, r2.2.1, r2.2.2.1, r2.2.2.2.cg (fun a b => ?_)⟩, (r3.trans f3).trans s3, (r4.trans f4).trans s4⟩
      · unfold B_X1_drawLooking_32
        refine (nl_so (by exact rfl)).trans ?_
        refine (ck_eq (by exact e2.1)).trans ?_
        rw [e2.2.2.1]
        refine (if_pos (by exact z)).trans ?_
        refine (dr_e (by exact rfl) (by exact tt.1)).trans ?_
        rw [tt.2.2.1]
        refine (bnd (by exact u1)).trans ?_
        refine s1.trans ?_
        refine f1.trans ?_
        exact r1
      · rw [ir, or_assoc, or_assoc]
        refine or_congr Iff.rfl ⟨?_, ?_⟩
        · rintro (z | z | ⟨y2, hy2, z⟩)
          · exact ⟨y, List.mem_cons_self, Or.inl z⟩
          · exact ⟨y, List.mem_cons_self, Or.inr z⟩
          · exact ⟨y2, List.mem_cons_of_mem _ hy2, z⟩
        · rintro ⟨y2, hy2, z⟩
          rcases List.mem_cons.mp hy2 with e | e
          · rw [e] at z
            exact z.elim Or.inl (fun z => Or.inr (Or.inl z))
          · exact Or.inr (Or.inr ⟨y2, e, z⟩)
    · rw [if_neg z] at ir
      refine ⟨h, start ?_, ⟨a.1, a.2.1, a.2.2.1, a.2.2.2.cg (fun a b => ⟨Or.inl, fun z => z.elim id (fun ⟨y, hy, _⟩ => by rw [ir] at hy; cases hy)⟩)⟩, rfl, rfl⟩
      unfold B_X1_drawLooking_32
      refine (nl_so (by exact rfl)).trans ?_
      refine (ck_eq (by exact e2.1)).trans ?_
      rw [e2.2.2.1]
      refine (if_neg (by exact z)).trans ?_
      rfl
end DR
