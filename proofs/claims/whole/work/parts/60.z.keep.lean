/-! what agrees row by row -/
def canoB (S W T : Nat → Bool) (h : Hp) (M : Nat) : Hp := (0, 0, (0, 0), fun _ => 0, fun _ _ => 0, fun _ _ => 0, fun _ _ => none, fun _ => 0, fun _ _ => 0, fun _ _ => 0, fun _ _ => none, fun f _ => cond (T f) (h.gi f M) 0, fun f _ => cond (T f) (h.gl f M) 0, fun _ _ => none, fun k => cond (S k) (h.bi (M + k)) (fun _ => 0), fun k => cond (W k) (h.bw (M + k)) (fun _ => 0))
theorem canoB_e {S W T : Nat → Bool} {M : Nat} {h h' : Hp} (e1 : ∀ k, S k = true → h'.bi (M + k) = h.bi (M + k)) (e2 : ∀ k, W k = true → h'.bw (M + k) = h.bw (M + k)) (e3 : ∀ f, T f = true → h'.gi f M = h.gi f M) (e4 : ∀ f, T f = true → h'.gl f M = h.gl f M) : canoB S W T h' M = canoB S W T h M := by
  unfold canoB
  have a1 : (fun f (_ : Nat) => cond (T f) (h'.gi f M) 0) = (fun f (_ : Nat) => cond (T f) (h.gi f M) 0) := funext fun f => funext fun _ => by
    cases z : T f with
    | true => exact e3 f z
    | false => rfl
  have a2 : (fun f (_ : Nat) => cond (T f) (h'.gl f M) 0) = (fun f (_ : Nat) => cond (T f) (h.gl f M) 0) := funext fun f => funext fun _ => by
    cases z : T f with
    | true => exact e4 f z
    | false => rfl
  have a3 : (fun k => cond (S k) (h'.bi (M + k)) (fun _ => 0)) = (fun k => cond (S k) (h.bi (M + k)) (fun _ => 0)) := funext fun k => by
    cases z : S k with
    | true => exact e1 k z
    | false => rfl
  have a4 : (fun k => cond (W k) (h'.bw (M + k)) (fun _ => 0)) = (fun k => cond (W k) (h.bw (M + k)) (fun _ => 0)) := funext fun k => by
    cases z : W k with
    | true => exact e2 k z
    | false => rfl
  rw [a1, a2, a3, a4]
theorem only_b {M : Nat} {h h' : Hp} (S W T : List Nat) (X : Hp → Nat → Prop) (e1 : ∀ k ∈ S, h'.bi (M + k) = h.bi (M + k)) (e2 : ∀ k ∈ W, h'.bw (M + k) = h.bw (M + k)) (e3 : ∀ f ∈ T, h'.gi f M = h.gi f M ∧ h'.gl f M = h.gl f M) (q : X (canoB (yA S) (yA W) (yA T) h M) 0) : X (canoB (yA S) (yA W) (yA T) h' M) 0 := by
  rw [canoB_e (fun k z => e1 k (yA_t z)) (fun k z => e2 k (yA_t z)) (fun f z => (e3 f (yA_t z)).1) (fun f z => (e3 f (yA_t z)).2)]
  exact q
section EB
variable {h h' : Hp} {M b c w l v k r clk : Nat} {G : Nat → Int32} {fv : Int64} {V : List Kv} {D : Nat → TD} {ac cm : List Nat} {ct rs : Nat → Int32} {R : List (Int32 × Int64)}
theorem Fld.eb (e1 : ∀ k ∈ [1, 2, 3, 4, 7, 8, 9], h'.bi (M + k) = h.bi (M + k)) (q : Fld h M b D) : Fld h' M b D := only_b [1, 2, 3, 4, 7, 8, 9] [] [] (fun h M => Fld h M b D) e1 (fun _ z => nomatch z) (fun _ z => nomatch z) q
theorem Rng.eb (e1 : ∀ k ∈ [1, 2, 3, 4, 7, 8], h'.bi (M + k) = h.bi (M + k)) (q : Rng h M b c) : Rng h' M b c := only_b [1, 2, 3, 4, 7, 8] [] [] (fun h M => Rng h M b c) e1 (fun _ z => nomatch z) (fun _ z => nomatch z) q
theorem Fre.eb (e1 : ∀ k ∈ [4, 7, 8, 9, 11, 15, 29], h'.bi (M + k) = h.bi (M + k)) (q : Fre h M b w k) : Fre h' M b w k := only_b [4, 7, 8, 9, 11, 15, 29] [] [] (fun h M => Fre h M b w k) e1 (fun _ z => nomatch z) (fun _ z => nomatch z) q
theorem Lsq.eb (e1 : ∀ k ∈ [1, 4], h'.bi (M + k) = h.bi (M + k)) (q : Lsq h M b ac cm) : Lsq h' M b ac cm := only_b [1, 4] [] [] (fun h M => Lsq h M b ac cm) e1 (fun _ z => nomatch z) (fun _ z => nomatch z) q
theorem Owq.eb (e1 : ∀ k ∈ [10, 11, 12, 14, 15], h'.bi (M + k) = h.bi (M + k)) (e2 : ∀ k ∈ [13], h'.bw (M + k) = h.bw (M + k)) (q : Owq h M b w D) : Owq h' M b w D := only_b [10, 11, 12, 14, 15] [13] [] (fun h M => Owq h M b w D) e1 e2 (fun _ z => nomatch z) q
theorem Loq.eb (e1 : ∀ k ∈ [16, 17, 18], h'.bi (M + k) = h.bi (M + k)) (q : Loq h M b l D) : Loq h' M b l D := only_b [16, 17, 18] [] [] (fun h M => Loq h M b l D) e1 (fun _ z => nomatch z) (fun _ z => nomatch z) q
theorem Caq.eb (e1 : ∀ k ∈ [12, 23, 24, 25, 26, 27, 29, 30, 32, 33], h'.bi (M + k) = h.bi (M + k)) (e2 : ∀ k ∈ [28, 31, 34], h'.bw (M + k) = h.bw (M + k)) (q : Caq h M b w k r D) : Caq h' M b w k r D := only_b [12, 23, 24, 25, 26, 27, 29, 30, 32, 33] [28, 31, 34] [] (fun h M => Caq h M b w k r D) e1 e2 (fun _ z => nomatch z) q
theorem Cnq.eb (e1 : ∀ k ∈ [1], h'.bi (M + k) = h.bi (M + k)) (q : Cnq h M b ct) : Cnq h' M b ct := only_b [1] [] [] (fun h M => Cnq h M b ct) e1 (fun _ z => nomatch z) (fun _ z => nomatch z) q
theorem Whq.eb (e3 : ∀ f ∈ [1343, 1344, 1347, 1348, 1349, 1350], h'.gi f M = h.gi f M ∧ h'.gl f M = h.gl f M) (q : Whq h M G fv rs) : Whq h' M G fv rs := only_b [] [] [1343, 1344, 1347, 1348, 1349, 1350] (fun h M => Whq h M G fv rs) (fun _ z => nomatch z) (fun _ z => nomatch z) e3 q
theorem Roq.eb (e1 : ∀ k ∈ [33], h'.bi (M + k) = h.bi (M + k)) (e2 : ∀ k ∈ [34], h'.bw (M + k) = h.bw (M + k)) (e3 : ∀ f ∈ [1345, 1346], h'.gi f M = h.gi f M ∧ h'.gl f M = h.gl f M) (q : Roq h M r R) : Roq h' M r R := only_b [33] [34] [1345, 1346] (fun h M => Roq h M r R) e1 e2 e3 q
end EB
