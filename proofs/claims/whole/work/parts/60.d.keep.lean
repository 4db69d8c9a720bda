/-! what a change of other rows leaves -/
def nA (A : List Nat) (k : Nat) : Bool := !(A.contains k)
def canoS (S T : Nat → Bool) (h : Hp) (M : Nat) : Hp := (0, 0, (0, 0), fun _ => 0, fun _ _ => 0, fun _ _ => 0, fun _ _ => none, fun _ => 0, fun _ _ => 0, fun _ _ => 0, fun _ _ => none, fun f _ => cond (T f) (h.gi f M) 0, fun f _ => cond (T f) (h.gl f M) 0, fun _ _ => none, fun k => cond (S k) (h.bi (M + k)) (fun _ => 0), fun k => cond (S k) (h.bw (M + k)) (fun _ => 0))
theorem canoS_e {S T : Nat → Bool} {M : Nat} {h h' : Hp} (e1 : ∀ k, S k = true → h'.bi (M + k) = h.bi (M + k)) (e2 : ∀ k, S k = true → h'.bw (M + k) = h.bw (M + k)) (e3 : ∀ f, T f = true → h'.gi f M = h.gi f M) (e4 : ∀ f, T f = true → h'.gl f M = h.gl f M) : canoS S T h' M = canoS S T h M := by
  unfold canoS
  have a1 : (fun f (_ : Nat) => cond (T f) (h'.gi f M) 0) = (fun f (_ : Nat) => cond (T f) (h.gi f M) 0) := funext fun f => funext fun _ => by
    cases z : T f with
    | true => exact e3 f z
    | false => rfl
  have a2 : (fun f (_ : Nat) => cond (T f) (h'.gl f M) 0) = (fun f (_ : Nat) => cond (T f) (h.gl f M) 0) := funext fun f => funext fun _ => by
    cases z : T f with
    | true => exact e4 f z
    | false => rfl
  have a3 : (fun k => cond (S k) (h'.bi (M + k)) (fun _ => 0)) = (fun k => cond (S k) (h.bi (M + k)) (fun _ => 0)) := funext fun k => by
    cases z : S k with
    | true => exact e1 k z
    | false => rfl
  have a4 : (fun k => cond (S k) (h'.bw (M + k)) (fun _ => 0)) = (fun k => cond (S k) (h.bw (M + k)) (fun _ => 0)) := funext fun k => by
    cases z : S k with
    | true => exact e2 k z
    | false => rfl
  rw [a1, a2, a3, a4]
theorem nA_t {A : List Nat} {k : Nat} (z : nA A k = true) : k ∉ A := by
  unfold nA at z
  intro m
  rw [List.contains_iff_mem.mpr m] at z
  cases z
/-- what doesn't speak of the rows changed stays -/
theorem RfO.keep {A G : List Nat} {M : Nat} {h h' : Hp} (X : Hp → Nat → Prop) (f : RfO A G M h h') (q : X (canoS (nA A) (nA G) h M) 0) : X (canoS (nA A) (nA G) h' M) 0 := by
  rw [canoS_e (fun k z => f.bi (nA_t z)) (fun k z => f.bw (nA_t z)) (fun k z => f.gi (nA_t z)) (fun k z => f.gl (nA_t z))]
  exact q
theorem test_k1 {M b l v : Nat} {h h' : Hp} {D : Nat → TD} (f : RfO [8, 29] [1339] M h h') (q : Ouq h M b l v D) : Ouq h' M b l v D := RfO.keep (fun h M => Ouq h M b l v D) f q
theorem test_k2 {M b w k r : Nat} {h h' : Hp} {D : Nat → TD} (f : RfO [1, 4, 7] [1339] M h h') (q : Caq h M b w k r D) : Caq h' M b w k r D := RfO.keep (fun h M => Caq h M b w k r D) f q
