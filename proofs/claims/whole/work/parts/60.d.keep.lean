/-! what a change of other rows leaves -/
def nA (A : List Nat) (k : Nat) : Bool := !(A.contains k)
def canoS (S T : Nat → Bool) (h : Hp) (M : Nat) : Hp := (0, 0, (0, 0), fun _ => 0, fun _ _ => 0, fun _ _ => 0, fun _ _ => none, fun _ => 0, fun _ _ => 0, fun _ _ => 0, fun _ _ => none, fun f _ => cond (T f) (h.gi f M) 0, fun f _ => cond (T f) (h.gl f M) 0, fun _ _ => none, fun k => cond (S k) (h.bi (M + k)) (fun _ => 0), fun k => cond (S k) (h.bw (M + k)) (fun _ => 0))
theorem canoS_e {S T : Nat → Bool} {M : Nat} {h h' : Hp} (e1 : ∀ k, S k = true → h'.bi (M + k) = h.bi (M + k)) (e2 : ∀ k, S k = true → h'.bw (M + k) = h.bw (M + k)) (e3 : ∀ f, T f = true → h'.gi f M = h.gi f M) (e4 : ∀ f, T f = true → h'.gl f M = h.gl f M) : canoS S T h' M = canoS S T h M := by
  unfold canoS
  have a1 : (fun f (_ : Nat) => cond (T f) (h'.gi f M) 0) = (fun f (_ : Nat) => cond (T f) (h.gi f M) 0) := funext fun f => funext fun _ => by
    cases z : T f with
    | true => exact e3 f z
    | false => rfl
  have a2 : (fun f (_ : Nat) => cond (T f) (h'.gl f M) 0) = (fun f (_ : Nat) => cond (T f) (h.gl f M) 0) := funext fun f => funext fun _ => by
    cases z : T f with
    | true => exact e4 f z
    | false => rfl
  have a3 : (fun k => cond (S k) (h'.bi (M + k)) (fun _ => 0)) = (fun k => cond (S k) (h.bi (M + k)) (fun _ => 0)) := funext fun k => by
    cases z : S k with
    | true => exact e1 k z
    | false => rfl
  have a4 : (fun k => cond (S k) (h'.bw (M + k)) (fun _ => 0)) = (fun k => cond (S k) (h.bw (M + k)) (fun _ => 0)) := funext fun k => by
    cases z : S k with
    | true => exact e2 k z
    | false => rfl
  rw [a1, a2, a3, a4]
theorem nA_t {A : List Nat} {k : Nat} (z : nA A k = true) : k ∉ A := by
  unfold nA at z
  intro m
  rw [List.contains_iff_mem.mpr m] at z
  cases z
/-- what doesn't speak of the rows changed stays -/
theorem RfO.keep {A G : List Nat} {M : Nat} {h h' : Hp} (X : Hp → Nat → Prop) (f : RfO A G M h h') (q : X (canoS (nA A) (nA G) h M) 0) : X (canoS (nA A) (nA G) h' M) 0 := by
  rw [canoS_e (fun k z => f.bi (nA_t z)) (fun k z => f.bw (nA_t z)) (fun k z => f.gi (nA_t z)) (fun k z => f.gl (nA_t z))]
  exact q
def yA (A : List Nat) (k : Nat) : Bool := A.contains k
theorem yA_t {A : List Nat} {k : Nat} (z : yA A k = true) : k ∈ A := List.contains_iff_mem.mp z
theorem RfO.only {A G : List Nat} {M : Nat} {h h' : Hp} (S T : List Nat) (X : Hp → Nat → Prop) (f : RfO A G M h h') (hA : ∀ x ∈ S, x ∉ A) (hG : ∀ x ∈ T, x ∉ G) (q : X (canoS (yA S) (yA T) h M) 0) : X (canoS (yA S) (yA T) h' M) 0 := by
  rw [canoS_e (fun k z => f.bi (hA k (yA_t z))) (fun k z => f.bw (hA k (yA_t z))) (fun k z => f.gi (hG k (yA_t z))) (fun k z => f.gl (hG k (yA_t z)))]
  exact q
section KEEP
variable {A Gf : List Nat} {h h' : Hp} {M b c w l v k r clk : Nat} {G : Nat → Int32} {fv : Int64} {V : List Kv} {ts : List Nat} {D : Nat → TD} {ac cm : List Nat} {ct rs : Nat → Int32} {R : List (Int32 × Int64)}
theorem Fld.ro (f : RfO A Gf M h h') (hA : ∀ x ∈ [1, 2, 3, 4, 7, 8, 9], x ∉ A) (q : Fld h M b D) : Fld h' M b D := RfO.only [1, 2, 3, 4, 7, 8, 9] [] (fun h M => Fld h M b D) f hA (fun _ z => nomatch z) q
theorem Rng.ro (f : RfO A Gf M h h') (hA : ∀ x ∈ [1, 2, 3, 4, 7, 8], x ∉ A) (q : Rng h M b c) : Rng h' M b c := RfO.only [1, 2, 3, 4, 7, 8] [] (fun h M => Rng h M b c) f hA (fun _ z => nomatch z) q
theorem Fre.ro (f : RfO A Gf M h h') (hA : ∀ x ∈ [4, 7, 8, 9, 11, 15, 29], x ∉ A) (q : Fre h M b w k) : Fre h' M b w k := RfO.only [4, 7, 8, 9, 11, 15, 29] [] (fun h M => Fre h M b w k) f hA (fun _ z => nomatch z) q
theorem Lsq.ro (f : RfO A Gf M h h') (hA : ∀ x ∈ [1, 4], x ∉ A) (q : Lsq h M b ac cm) : Lsq h' M b ac cm := RfO.only [1, 4] [] (fun h M => Lsq h M b ac cm) f hA (fun _ z => nomatch z) q
theorem Ouq.ro (f : RfO A Gf M h h') (hA : ∀ x ∈ [1, 3, 4, 7, 16, 17, 18, 19, 20], x ∉ A) (q : Ouq h M b l v D) : Ouq h' M b l v D := RfO.only [1, 3, 4, 7, 16, 17, 18, 19, 20] [] (fun h M => Ouq h M b l v D) f hA (fun _ z => nomatch z) q
theorem Owq.ro (f : RfO A Gf M h h') (hA : ∀ x ∈ [10, 11, 12, 13, 14, 15], x ∉ A) (q : Owq h M b w D) : Owq h' M b w D := RfO.only [10, 11, 12, 13, 14, 15] [] (fun h M => Owq h M b w D) f hA (fun _ z => nomatch z) q
theorem Loq.ro (f : RfO A Gf M h h') (hA : ∀ x ∈ [16, 17, 18], x ∉ A) (q : Loq h M b l D) : Loq h' M b l D := RfO.only [16, 17, 18] [] (fun h M => Loq h M b l D) f hA (fun _ z => nomatch z) q
theorem Veq.ro (f : RfO A Gf M h h') (hA : ∀ x ∈ [1, 4, 12, 14, 19, 20, 21, 22], x ∉ A) (q : Veq h M b w v V) : Veq h' M b w v V := RfO.only [1, 4, 12, 14, 19, 20, 21, 22] [] (fun h M => Veq h M b w v V) f hA (fun _ z => nomatch z) q
theorem Caq.ro (f : RfO A Gf M h h') (hA : ∀ x ∈ [12, 23, 24, 25, 26, 27, 28, 29, 30, 31, 32, 33, 34], x ∉ A) (q : Caq h M b w k r D) : Caq h' M b w k r D := RfO.only [12, 23, 24, 25, 26, 27, 28, 29, 30, 31, 32, 33, 34] [] (fun h M => Caq h M b w k r D) f hA (fun _ z => nomatch z) q
theorem Cnq.ro (f : RfO A Gf M h h') (hA : ∀ x ∈ [1], x ∉ A) (q : Cnq h M b ct) : Cnq h' M b ct := RfO.only [1] [] (fun h M => Cnq h M b ct) f hA (fun _ z => nomatch z) q
theorem Whq.ro (f : RfO A Gf M h h') (hG : ∀ x ∈ [1343, 1344, 1347, 1348, 1349, 1350], x ∉ Gf) (q : Whq h M G fv rs) : Whq h' M G fv rs := RfO.only [] [1343, 1344, 1347, 1348, 1349, 1350] (fun h M => Whq h M G fv rs) f (fun _ z => nomatch z) hG q
theorem Roq.ro (f : RfO A Gf M h h') (hA : ∀ x ∈ [33, 34], x ∉ A) (hG : ∀ x ∈ [1345, 1346], x ∉ Gf) (q : Roq h M r R) : Roq h' M r R := RfO.only [33, 34] [1345, 1346] (fun h M => Roq h M r R) f hA hG q
theorem Saq.ro (f : RfO A Gf M h h') (hA : ∀ x ∈ [1, 2, 3, 4, 5, 6, 7, 16, 17, 18, 19, 20], x ∉ A) (hG : ∀ x ∈ [1313], x ∉ Gf) (q : Saq h M b l v clk D) : Saq h' M b l v clk D := RfO.only [1, 2, 3, 4, 5, 6, 7, 16, 17, 18, 19, 20] [1313] (fun h M => Saq h M b l v clk D) f hA hG q
end KEEP
