/-! both sides in one heap -/
def RfE (M : Nat) (h h' : Hp) : Prop := (∀ k, k ≤ 34 → h'.bi (M + k) = h.bi (M + k)) ∧ (∀ k, k ≤ 34 → h'.bw (M + k) = h.bw (M + k)) ∧ (∀ f, f ≠ 1300 → f < 1351 → h'.gi f M = h.gi f M) ∧ ∀ f, f ≠ 1300 → f < 1351 → h'.gl f M = h.gl f M
theorem RfE.rf (M : Nat) (h : Hp) : RfE M h h := ⟨fun _ _ => rfl, fun _ _ => rfl, fun _ _ _ => rfl, fun _ _ _ => rfl⟩
theorem RfE.tr {M : Nat} {h1 h2 h3 : Hp} (a : RfE M h1 h2) (b : RfE M h2 h3) : RfE M h1 h3 := ⟨fun k z => (b.1 k z).trans (a.1 k z), fun k z => (b.2.1 k z).trans (a.2.1 k z), fun f z y => (b.2.2.1 f z y).trans (a.2.2.1 f z y), fun f z y => (b.2.2.2 f z y).trans (a.2.2.2 f z y)⟩
theorem RfE.sy {M : Nat} {h1 h2 : Hp} (a : RfE M h1 h2) : RfE M h2 h1 := ⟨fun k z => (a.1 k z).symm, fun k z => (a.2.1 k z).symm, fun f z y => (a.2.2.1 f z y).symm, fun f z y => (a.2.2.2 f z y).symm⟩
theorem RfE.cls {M : Nat} {h h' : Hp} (f : Fc h h') (hn : M + 46 < h.nx) : RfE M h h' := ⟨fun k hk => f.2.2.2.2.1 _ (by omega), fun k hk => f.2.2.2.2.2 _ (by omega), fun g _ _ => f.2.1 g M (by omega), fun g _ _ => f.2.2.1 g M (by omega)⟩
theorem RfE.saw (M : Nat) (h : Hp) (O i : Nat) (v : Int64) : RfE M h (h.saw O i v) := ⟨fun _ _ => rfl, fun _ _ => rfl, fun _ _ _ => rfl, fun _ _ _ => rfl⟩
theorem RfE.thr (M : Nat) (h : Hp) (n : Nat) : RfE M h (h.thr n) := ⟨fun _ _ => rfl, fun _ _ => rfl, fun _ _ _ => rfl, fun _ _ _ => rfl⟩
/-- a change of what is used anew by every call -/
theorem RfE.ro {M : Nat} {h h' : Hp} {A G : List Nat} (f : RfO A G M h h') (hA : ∀ x ∈ A, 35 ≤ x) (hG : ∀ x ∈ G, x = 1300 ∨ 1351 ≤ x) : RfE M h h' := ⟨fun k hk => f.bi (fun z => by have := hA k z; omega), fun k hk => f.bw (fun z => by have := hA k z; omega), fun g h1 h2 => f.gi (fun z => by have := hG g z; omega), fun g h1 h2 => f.gl (fun z => by have := hG g z; omega)⟩
theorem Rk.cls {M : Nat} {h h' : Hp} (q : Rk h M) (m : Mo h h') (f : Fc h h') (hn : M + 46 < h.nx) : Rk h' M := by
  refine ⟨(m.1 M (by omega)).trans q.1, fun x hx => ?_⟩
  have hl : x.2.1 ≤ 46 := by
    have : ∀ y ∈ rtab, y.2.1 ≤ 46 := by decide
    exact this x hx
  obtain ⟨a, b, c⟩ := q.2 x hx
  exact ⟨(f.2.2.2.1 _ _ (by omega)).trans a, (m.1 _ (by omega)).trans b, (m.2.2.2.2 _ (by omega)).trans c⟩
theorem Rk.saw {M : Nat} {h : Hp} (q : Rk h M) (O i : Nat) (v : Int64) : Rk (h.saw O i v) M := q
theorem Rk.thr {M : Nat} {h : Hp} (q : Rk h M) (n : Nat) : Rk (h.thr n) M := q
theorem Rn.eqv {M b c w l v k r : Nat} {h h' : Hp} (n : Rn h M b c w l v k r) (e : RfE M h h') : Rn h' M b c w l v k r := by
  unfold Rn at n ⊢
  rw [e.2.2.1 1311 (by decide) (by decide), e.2.2.1 1312 (by decide) (by decide), e.2.2.1 1319 (by decide) (by decide), e.2.2.1 1323 (by decide) (by decide), e.2.2.1 1328 (by decide) (by decide), e.2.2.1 1339 (by decide) (by decide), e.2.2.1 1342 (by decide) (by decide)]
  exact n
/-- the reference's part of a heap, laid at 0 -/
def cano (h : Hp) (M : Nat) : Hp := (0, 0, (0, 0), fun _ => 0, fun _ _ => 0, fun _ _ => 0, fun _ _ => none, fun _ => 0, fun _ _ => 0, fun _ _ => 0, fun _ _ => none, fun f _ => if f = 1300 then 0 else if f < 1351 then h.gi f M else 0, fun f _ => if f = 1300 then 0 else if f < 1351 then h.gl f M else 0, fun _ _ => none, fun k => if k ≤ 34 then h.bi (M + k) else fun _ => 0, fun k => if k ≤ 34 then h.bw (M + k) else fun _ => 0)
theorem cano_e {M : Nat} {h h' : Hp} (e : RfE M h h') : cano h' M = cano h M := by
  unfold cano
  have e1 : (fun f (_ : Nat) => if f = 1300 then 0 else if f < 1351 then h'.gi f M else 0) = (fun f (_ : Nat) => if f = 1300 then 0 else if f < 1351 then h.gi f M else 0) := funext fun f => funext fun _ => by
    by_cases z : f = 1300
    · rw [if_pos z, if_pos z]
    · rw [if_neg z, if_neg z]
      by_cases z2 : f < 1351
      · rw [if_pos z2, if_pos z2, e.2.2.1 f z z2]
      · rw [if_neg z2, if_neg z2]
  have e2 : (fun f (_ : Nat) => if f = 1300 then 0 else if f < 1351 then h'.gl f M else 0) = (fun f (_ : Nat) => if f = 1300 then 0 else if f < 1351 then h.gl f M else 0) := funext fun f => funext fun _ => by
    by_cases z : f = 1300
    · rw [if_pos z, if_pos z]
    · rw [if_neg z, if_neg z]
      by_cases z2 : f < 1351
      · rw [if_pos z2, if_pos z2, e.2.2.2 f z z2]
      · rw [if_neg z2, if_neg z2]
  have e3 : (fun k => if k ≤ 34 then h'.bi (M + k) else fun _ => 0) = (fun k => if k ≤ 34 then h.bi (M + k) else fun _ => 0) := funext fun k => by
    by_cases z : k ≤ 34
    · rw [if_pos z, if_pos z, e.1 k z]
    · rw [if_neg z, if_neg z]
  have e4 : (fun k => if k ≤ 34 then h'.bw (M + k) else fun _ => 0) = (fun k => if k ≤ 34 then h.bw (M + k) else fun _ => 0) := funext fun k => by
    by_cases z : k ≤ 34
    · rw [if_pos z, if_pos z, e.2.1 k z]
    · rw [if_neg z, if_neg z]
  rw [e1, e2, e3, e4]
theorem test_outS {M l v a n : Nat} {h h' : Hp} {x : Int32} (e : RfE M h h') (s : outS h M l v a n x) : outS h' M l v a n x := by
  have s1 : outS (cano h M) 0 l v a n x := s
  rw [← cano_e e] at s1
  exact s1
section GLU
variable {g : Nat → Nat} {h h' : Hp} {p : Nat → Nat} {G : Nat → Int32} {fv : Int64} {lr : Option Nat} {B : Shf} {V : List Kv} {ts : List Nat} {D : Nat → TD} {ac cm ot : List Nat} {ct rs : Nat → Int32} {d0 : AnD} {R : List (Int32 × Int64)} {cO : Nat}
theorem kr_ref {A Gf : List Nat} {M : Nat} (q : Kr g h p G fv lr B V ts D ac cm ot ct rs d0 R cO) (w : Wf g h) (f : RfO A Gf M h h') (fm : Fm h h') : Kr g h' p G fv lr B V ts D ac cm ot ct rs d0 R cO ∧ Wf g h' := by
  obtain ⟨f1, f2, f3, f4, f5, _⟩ := f
  have w' : Wf g h' := by
    unfold Wf
    rw [f1, f3, f4]
    exact w
  have F : Fr g g h.nx h h' := ⟨fun _ _ => rfl, fun a ha _ => ⟨fun y => fm.2.1 y a ha, fun y => fm.2.2.1 y a ha, fun y => fm.2.2.2.1 y a ha, fm.2.2.2.2.1 a ha, fm.2.2.2.2.2.1 a ha, fm.2.2.2.2.2.2 a ha⟩, ⟨fun a _ => by rw [f4], by rw [f1]; exact Nat.le_refl _, by rw [f2]; exact Nat.le_refl _, f3, fun a _ => by rw [f5]⟩, w'⟩
  exact ⟨q.new w (Nat.le_refl _) F, w'⟩
theorem kr_thr (q : Kr g h p G fv lr B V ts D ac cm ot ct rs d0 R cO) (w : Wf g h) {n : Nat} (hn : h.nx ≤ n) : Kr g (h.thr n) p G fv lr B V ts D ac cm ot ct rs d0 R cO ∧ Wf g (h.thr n) := by
  have w' : Wf g (h.thr n) := ⟨fun a ha => w.1 a (Nat.le_trans hn ha), w.2.1, Nat.lt_of_lt_of_le w.2.2.1 hn, w.2.2.2.1, fun a ha => w.2.2.2.2 a (Nat.le_trans hn ha)⟩
  have F : Fr g g h.nx h (h.thr n) := ⟨fun _ _ => rfl, fun a _ _ => ⟨fun _ => rfl, fun _ => rfl, fun _ => rfl, rfl, rfl, rfl⟩, ⟨fun _ _ => rfl, hn, Nat.le_add_right _ _, rfl, fun _ _ => rfl⟩, w'⟩
  exact ⟨q.new w (Nat.le_refl _) F, w'⟩
theorem kr_saw (q : Kr g h p G fv lr B V ts D ac cm ot ct rs d0 R cO) (w : Wf g h) {O : Nat} (hk : h.kd O = 21) (hg : g O = O) (i : Nat) (v : Int64) : Kr g (h.saw O i v) p G fv lr B V ts D ac cm ot ct rs d0 R cO ∧ Wf g (h.saw O i v) :=
  ⟨q.out w hg (Or.inr (Or.inr (Or.inr hk))) (Fr.saw w (Un.rf g O) i v), (Fr.saw w (Un.rf g O) i v).wf⟩
end GLU
