/-! the coupling of class and reference -/
abbrev tA (x : TD) : Shf := x.2.2.1
abbrev tL (x : TD) : List Kv := x.2.2.2.1
abbrev tP (x : TD) : List Nat := x.2.2.2.2.1
abbrev tN (x : TD) : Nat := x.2.2.2.2.2.1
abbrev tS (x : TD) : List Iv := x.2.2.2.2.2.2.1
abbrev tC (x : TD) : List (Nat × Ck) := x.2.2.2.2.2.2.2
def F2 {α β : Type} (R : α → β → Prop) : List α → List β → Prop
  | [], [] => True
  | a :: as, b :: bs => R a b ∧ F2 R as bs
  | _, _ => False
/-- the fields of a transaction -/
def Fld (h : Hp) (M b : Nat) (D : Nat → TD) : Prop := ∀ i, i < b → (D i).1 1000 = nI (i + 1) ∧ (D i).1 1001 = h.bi (M + 3) (i + 1) ∧ (D i).1 1005 = (if h.bi (M + 2) (i + 1) = 0 then 0 else h.bi (M + 7) (i + 1) + 1) ∧ (D i).1 1006 = h.bi (M + 1) (i + 1) ∧ (D i).1 1007 = h.bi (M + 4) (i + 1) ∧ (D i).1 1009 = h.bi (M + 8) (i + 1) ∧ h.bi (M + 9) (i + 1) = nI (tP (D i)).length
/-- what the reference's rows hold -/
def Rng (h : Hp) (M b c : Nat) : Prop := (∀ t t', 1 ≤ t → t ≤ t' → t' ≤ b → h.bi (M + 3) t ≤ h.bi (M + 3) t') ∧ ∀ t, 1 ≤ t → t ≤ b → (h.bi (M + 2) t = 0 ∨ h.bi (M + 2) t = 1) ∧ (h.bi (M + 7) t = 0 ∨ h.bi (M + 7) t = 1 ∨ h.bi (M + 7) t = 2) ∧ (h.bi (M + 2) t = 0 → h.bi (M + 7) t = 0) ∧ (h.bi (M + 8) t = 0 ∨ h.bi (M + 8) t = 1) ∧ ∃ s, h.bi (M + 3) t = nI s ∧ s ≤ c ∧ (((h.bi (M + 1) t = 1 ∨ h.bi (M + 1) t = 3 ∨ h.bi (M + 1) t = 4 ∨ h.bi (M + 1) t = 5) ∧ h.bi (M + 4) t = 0) ∨ (h.bi (M + 1) t = 2 ∧ ∃ m, h.bi (M + 4) t = nI m ∧ s < m ∧ m ≤ c))
/-- rows not used yet -/
def Fre (h : Hp) (M b w k : Nat) : Prop := (∀ t, b < t → t < 514 → h.bi (M + 4) t = 0 ∧ h.bi (M + 7) t = 0 ∧ h.bi (M + 8) t = 0 ∧ h.bi (M + 9) t = 0) ∧ (∀ j, w ≤ j → j < 514 → h.bi (M + 15) j = 0) ∧ (∀ j, j < w → h.bi (M + 15) j = 0 ∨ h.bi (M + 15) j = 1) ∧ (∀ j, k ≤ j → j < 514 → h.bi (M + 29) j = 0) ∧ ∀ j, j < w → ∃ u, 1 ≤ u ∧ u ≤ b ∧ h.bi (M + 11) j = nI u
/-- those at work, those committed -/
def Lsq (h : Hp) (M b : Nat) (ac cm : List Nat) : Prop := (∀ i, i ∈ ac ↔ i < b ∧ h.bi (M + 1) (i + 1) = 1) ∧ (∀ m i, cm[m]? = some i → i < b ∧ h.bi (M + 1) (i + 1) = 2 ∧ h.bi (M + 4) (i + 1) = nI (m + 1)) ∧ ∀ i, i < b → h.bi (M + 1) (i + 1) = 2 → ∃ m : Nat, cm[m]? = some i
def Ouq (h : Hp) (M b l v : Nat) (D : Nat → TD) : Prop := ∀ i, i < b → (h.bi (M + 1) (i + 1) = 1 ∨ h.bi (M + 1) (i + 1) = 2) → outS h M l v (i + 1) (b + 1) ((D i).1 1008)
def ownI (h : Hp) (M w t : Nat) : List Nat := (List.range w).filter (fun j => decide (h.bi (M + 11) j = nI t ∧ h.bi (M + 15) j = 0))
/-- own writes and places -/
def OwnR (h : Hp) (M w t : Nat) (L : List Kv) (P : List Nat) (n : Nat) : Prop := F2 (fun (x : Kv) (j : Nat) => x.1 = h.bi (M + 12) j ∧ x.2.2.1 = nI t ∧ x.2.2.2.1 = h.bi (M + 14) j ∧ x.2.2.2.2 = h.bw (M + 13) j ∧ ∀ (q p : Nat), P[q]? = some p → ∃ a, h.bi (M + 10) (10 * t + q) = nI a ∧ a ≤ w ∧ (x.2.1 ≤ nI p ↔ j < a)) L (ownI h M w t) ∧ (∀ (q p : Nat), P[q]? = some p → p ≤ n ∧ ∃ a, h.bi (M + 10) (10 * t + q) = nI a ∧ a ≤ w) ∧ P.length ≤ 10
def Owq (h : Hp) (M b w : Nat) (D : Nat → TD) : Prop := ∀ i, i < b → OwnR h M w (i + 1) (tL (D i)) (tP (D i)) (tN (D i))
def Loq (h : Hp) (M b l : Nat) (D : Nat → TD) : Prop := (∀ i, i < b → ∀ key, InS (tS (D i)) key ↔ ∃ j, j < l ∧ h.bi (M + 16) j = nI (i + 1) ∧ h.bi (M + 17) j ≤ key ∧ key ≤ h.bi (M + 18) j) ∧ LkOk h M l ∧ LtOk h M b l
def Veq (h : Hp) (M b w v : Nat) (V : List Kv) : Prop := V.length = v ∧ WvB h M w v ∧ ∀ (j : Nat) (x : Kv), V[j]? = some x → x.1 = h.bi (M + 19) j ∧ x.2.1 = vMo h M j ∧ x.2.2.1 = h.bi (M + 20) j ∧ x.2.2.2.1 = h.bi (M + 22) j ∧ x.2.2.2.2 = h.bw (M + 21) j ∧ (∃ u, 1 ≤ u ∧ u ≤ b ∧ h.bi (M + 20) j = nI u ∧ h.bi (M + 1) u = 2) ∧ ∃ e, e < w ∧ h.bi (M + 12) e = h.bi (M + 19) j
def Cnq (h : Hp) (M b : Nat) (ct : Nat → Int32) : Prop := ∀ s, 1 ≤ s → s ≤ 5 → ct s = nI (cntQ (fun u => 1 ≤ u ∧ h.bi (M + 1) u = nI s) (b + 1))
def Whq (h : Hp) (M : Nat) (G : Nat → Int32) (fv : Int64) (rs : Nat → Int32) : Prop := rs 0 = h.gi 1347 M ∧ rs 1 = h.gi 1348 M ∧ rs 2 = h.gi 1349 M ∧ rs 3 = h.gi 1350 M ∧ G 1209 = h.gi 1344 M ∧ fv = h.gl 1343 M
def Roq (h : Hp) (M r : Nat) (R : List (Int32 × Int64)) : Prop := ∃ sf, h.gi 1345 M = nI sf ∧ h.gi 1346 M = nI R.length ∧ R.length ≤ 100 ∧ sf + R.length ≤ r ∧ ∀ (i : Nat) (y : Int32 × Int64), R[i]? = some y → h.bi (M + 33) (sf + i) = y.1 ∧ h.bw (M + 34) (sf + i) = y.2
/-- the clock, and what those READ-ONLY wait for -/
def Saq (h : Hp) (M b l v clk : Nat) (D : Nat → TD) : Prop := h.gi 1313 M = nI clk ∧ (∀ t, 1 ≤ t → t ≤ b → (∃ x, h.bi (M + 5) t = nI x ∧ x ≤ clk) ∧ (h.bi (M + 1) t ≠ 1 → ∃ x, h.bi (M + 6) t = nI x ∧ x ≤ clk)) ∧ ∀ i, i < b → h.bi (M + 1) (i + 1) = 1 → h.bi (M + 2) (i + 1) ≠ 0 → (D i).1 1010 = nI (cntQ (fun u => 1 ≤ u ∧ h.bi (M + 2) u = 0 ∧ h.bi (M + 1) u = 1) (i + 1)) ∧ (h.bi (M + 7) (i + 1) = 0 → jdV h M b l v (i + 1) 0) ∧ (h.bi (M + 7) (i + 1) = 1 → ¬ wtS h M (i + 1))
/-- places behind a call -/
def StpP (p : Nat) (d : Clq) (p' : Nat) : Prop := (d.1 = 4 ∧ p < 10 ∧ p' = p + 1) ∨ (d.1 = 5 ∧ ∃ m, d.2.2.2.1 = nI m ∧ 1 ≤ m ∧ m ≤ p ∧ p' = m) ∨ (d.1 ≠ 4 ∧ d.1 ≠ 5 ∧ p' = p)
/-- rows against calls; a place refused has no row -/
def CalQ (R : Nat → Ck → Prop) (js : List Nat) (cs : List (Nat × Ck)) (p : Nat) : Prop := ∀ Q : List Nat → List (Nat × Ck) → Nat → Prop, Q [] [] 0 → (∀ js cs p j y p', Q js cs p → R j y.2 → StpP p y.2.1 p' → Q (js ++ [j]) (cs ++ [y]) p') → (∀ js cs y, Q js cs 10 → y.2.1.1 = 4 → y.2.2 = none → Q js (cs ++ [y]) 10) → Q js cs p
theorem CalQ.nil (R : Nat → Ck → Prop) : CalQ R [] [] 0 := fun _ a _ _ => a
theorem CalQ.row {R : Nat → Ck → Prop} {js : List Nat} {cs : List (Nat × Ck)} {p j p' : Nat} {y : Nat × Ck} (q : CalQ R js cs p) (x : R j y.2) (s : StpP p y.2.1 p') : CalQ R (js ++ [j]) (cs ++ [y]) p' := fun Q a b c => b _ _ _ _ _ _ (q Q a b c) x s
theorem CalQ.rfd {R : Nat → Ck → Prop} {js : List Nat} {cs : List (Nat × Ck)} {y : Nat × Ck} (q : CalQ R js cs 10) (x : y.2.1.1 = 4) (z : y.2.2 = none) : CalQ R js (cs ++ [y]) 10 := fun Q a b c => c _ _ _ (q Q a b c) x z
theorem CalQ.mono {R S : Nat → Ck → Prop} {js : List Nat} {cs : List (Nat × Ck)} {p : Nat} (q : CalQ R js cs p) (e : ∀ j ∈ js, ∀ y, R j y → S j y) : CalQ S js cs p := by
  refine q (fun js cs p => (∀ j ∈ js, ∀ y, R j y → S j y) → CalQ S js cs p) (fun _ => CalQ.nil S) (fun js cs p j y p' ih x s e => ?_) (fun js cs y ih x z e => (ih e).rfd x z) e
  exact (ih (fun j hj => e j (List.mem_append_left _ hj))).row (e j (List.mem_append_right _ (List.mem_singleton.mpr rfl)) _ x) s
def AnsM (h : Hp) (M j : Nat) (th : Option AnD) : Prop := ∃ e, th = some e ∧ e.2.2.1 = [] ∧ ((e.1 = 0 ∧ e.2.1 = none ∧ h.bi (M + 29) j = 0) ∨ (e.1 = 1 ∧ h.bi (M + 29) j = 1 ∧ e.2.1 = some (h.bi (M + 30) j, h.bw (M + 31) j)))
/-- a row and its call -/
def RowM (h : Hp) (M w r j : Nat) (y : Ck) : Prop := (y.1.1 = 0 ∧ h.bi (M + 23) j = 1 ∧ h.bi (M + 25) j = y.1.2.1 ∧ AnsM h M j y.2 ∧ ∀ (e : AnD) (z : Int32 × Int64), y.2 = some e → e.2.1 = some z → z.1 = y.1.2.1) ∨ (y.1.1 = 1 ∧ (y.1.2.2.2.2.1 = 0 ∨ y.1.2.2.2.2.1 = 1) ∧ h.bi (M + 23) j = (if y.1.2.2.2.2.1 = 0 then 3 else 2) ∧ h.bi (M + 25) j = y.1.2.1 ∧ AnsM h M j y.2) ∨ (y.1.1 = 2 ∧ h.bi (M + 23) j = 4 ∧ h.bi (M + 25) j = y.1.2.1 ∧ h.bi (M + 26) j = y.1.2.2.1 ∧ h.bi (M + 27) j = y.1.2.2.2.1 ∧ y.1.2.1 ≤ y.1.2.2.1 ∧ ∃ mo rr e, y.1.2.2.2.1 = nI mo ∧ 1 ≤ mo ∧ mo ≤ 100 ∧ y.2 = some e ∧ e.1 = nI e.2.2.1.length ∧ e.2.1 = none ∧ e.2.2.1.length ≤ 100 ∧ h.bi (M + 29) j = nI e.2.2.1.length ∧ h.bi (M + 32) j = nI rr ∧ rr + e.2.2.1.length ≤ r ∧ ∀ (i : Nat) (z : Int32 × Int64), e.2.2.1[i]? = some z → h.bi (M + 33) (rr + i) = z.1 ∧ h.bw (M + 34) (rr + i) = z.2) ∨ (y.1.1 = 3 ∧ (y.1.2.2.2.2.1 = 0 ∨ y.1.2.2.2.2.1 = 1) ∧ h.bi (M + 23) j = (if y.1.2.2.2.2.1 = 0 then 6 else 5) ∧ h.bi (M + 25) j = y.1.2.1 ∧ h.bw (M + 28) j = y.1.2.2.2.2.2 ∧ y.2 = none ∧ ∃ e, e < w ∧ h.bi (M + 12) e = y.1.2.1) ∨ (y.1.1 = 4 ∧ h.bi (M + 23) j = 7 ∧ y.2 = none) ∨ (y.1.1 = 5 ∧ h.bi (M + 23) j = 8 ∧ h.bi (M + 25) j = y.1.2.2.2.1 ∧ y.2 = none)
def rowI (h : Hp) (M k t : Nat) : List Nat := (List.range k).filter (fun j => decide (h.bi (M + 24) j = nI t))
def Caq (h : Hp) (M b w k r : Nat) (D : Nat → TD) : Prop := (∀ i, i < b → CalQ (RowM h M w r) (rowI h M k (i + 1)) (tC (D i)) (tP (D i)).length) ∧ ∀ j, j < k → ∃ u, 1 ≤ u ∧ u ≤ b ∧ h.bi (M + 24) j = nI u
/-- class and reference are in one state -/
def Cpl (h : Hp) (M b c w l v k r clk : Nat) (G : Nat → Int32) (fv : Int64) (V : List Kv) (ts : List Nat) (D : Nat → TD) (ac cm : List Nat) (ct rs : Nat → Int32) (R : List (Int32 × Int64)) : Prop :=
  Rn h M b c w l v k r ∧ ts.length = b ∧ cm.length = c ∧ Fld h M b D ∧ Rng h M b c ∧ Fre h M b w k ∧ Lsq h M b ac cm ∧ Ouq h M b l v D ∧ Owq h M b w D ∧ Loq h M b l D ∧ Veq h M b w v V ∧ Caq h M b w k r D ∧ Cnq h M b ct ∧ Whq h M G fv rs ∧ Roq h M r R ∧ Saq h M b l v clk D
section CPL
variable {h h' : Hp} {M b c w l v k r clk : Nat} {G : Nat → Int32} {fv : Int64} {V : List Kv} {ts : List Nat} {D : Nat → TD} {ac cm : List Nat} {ct rs : Nat → Int32} {R : List (Int32 × Int64)}
theorem Fld.eqv (e : RfE M h h') (q : Fld h M b D) : Fld h' M b D := by
  have q1 : Fld (cano h M) 0 b D := q
  rw [← cano_e e] at q1
  exact q1
theorem Rng.eqv (e : RfE M h h') (q : Rng h M b c) : Rng h' M b c := by
  have q1 : Rng (cano h M) 0 b c := q
  rw [← cano_e e] at q1
  exact q1
theorem Fre.eqv (e : RfE M h h') (q : Fre h M b w k) : Fre h' M b w k := by
  have q1 : Fre (cano h M) 0 b w k := q
  rw [← cano_e e] at q1
  exact q1
theorem Lsq.eqv (e : RfE M h h') (q : Lsq h M b ac cm) : Lsq h' M b ac cm := by
  have q1 : Lsq (cano h M) 0 b ac cm := q
  rw [← cano_e e] at q1
  exact q1
theorem Ouq.eqv (e : RfE M h h') (q : Ouq h M b l v D) : Ouq h' M b l v D := by
  have q1 : Ouq (cano h M) 0 b l v D := q
  rw [← cano_e e] at q1
  exact q1
theorem Owq.eqv (e : RfE M h h') (q : Owq h M b w D) : Owq h' M b w D := by
  have q1 : Owq (cano h M) 0 b w D := q
  rw [← cano_e e] at q1
  exact q1
theorem Loq.eqv (e : RfE M h h') (q : Loq h M b l D) : Loq h' M b l D := by
  have q1 : Loq (cano h M) 0 b l D := q
  rw [← cano_e e] at q1
  exact q1
theorem Veq.eqv (e : RfE M h h') (q : Veq h M b w v V) : Veq h' M b w v V := by
  have q1 : Veq (cano h M) 0 b w v V := q
  rw [← cano_e e] at q1
  exact q1
theorem Caq.eqv (e : RfE M h h') (q : Caq h M b w k r D) : Caq h' M b w k r D := by
  have q1 : Caq (cano h M) 0 b w k r D := q
  rw [← cano_e e] at q1
  exact q1
theorem Cnq.eqv (e : RfE M h h') (q : Cnq h M b ct) : Cnq h' M b ct := by
  have q1 : Cnq (cano h M) 0 b ct := q
  rw [← cano_e e] at q1
  exact q1
theorem Whq.eqv (e : RfE M h h') (q : Whq h M G fv rs) : Whq h' M G fv rs := by
  have q1 : Whq (cano h M) 0 G fv rs := q
  rw [← cano_e e] at q1
  exact q1
theorem Roq.eqv (e : RfE M h h') (q : Roq h M r R) : Roq h' M r R := by
  have q1 : Roq (cano h M) 0 r R := q
  rw [← cano_e e] at q1
  exact q1
theorem Saq.eqv (e : RfE M h h') (q : Saq h M b l v clk D) : Saq h' M b l v clk D := by
  have q1 : Saq (cano h M) 0 b l v clk D := q
  rw [← cano_e e] at q1
  exact q1
theorem Cpl.eqv (e : RfE M h h') (q : Cpl h M b c w l v k r clk G fv V ts D ac cm ct rs R) : Cpl h' M b c w l v k r clk G fv V ts D ac cm ct rs R := by
  obtain ⟨q1, q2, q3, q4, q5, q6, q7, q8, q9, q10, q11, q12, q13, q14, q15, q16⟩ := q
  exact ⟨q1.eqv e, q2, q3, q4.eqv e, q5.eqv e, q6.eqv e, q7.eqv e, q8.eqv e, q9.eqv e, q10.eqv e, q11.eqv e, q12.eqv e, q13.eqv e, q14.eqv e, q15.eqv e, q16.eqv e⟩
end CPL
