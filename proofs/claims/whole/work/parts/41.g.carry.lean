/-! a call carried out -/
def StB (L : List Kv) (n : Nat) : Prop := ∀ x ∈ L, x.2.1 ≤ nI n
theorem callR_asc {L V : List Kv} {st ow : Int32} {P : List Nat} {n : Nat} {c : Clq} {L' : List Kv} {P' : List Nat} {n' : Nat} {d : AnD} (q : CallR L V st ow P n c L' P' n' d) (a : Asc L) (s : StB L n) (hn : n < 100000) : Asc L' ∧ StB L' n' := by
  rcases q with ⟨-, h1, -, h3, -⟩ | ⟨-, h1, -, h3, -⟩ | ⟨-, h1, -, h3, -⟩ | ⟨-, h1, -, h3, -⟩ | ⟨-, h1, h3, -⟩ | ⟨-, h3, m, x, -, -, -, h1, -⟩
  · rw [h1, h3]; exact ⟨a, s⟩
  · rw [h1, h3]; exact ⟨a, s⟩
  · rw [h1, h3]; exact ⟨a, s⟩
  · rw [h1, h3]
    have le : ∀ x ∈ L, x.2.1 ≤ nI (n + 1) := fun x hx => Int32.le_trans (s x hx) ((ni_le (by omega) (by omega)).mpr (by omega))
    refine ⟨List.pairwise_append.mpr ⟨a, List.pairwise_singleton _ _, fun x hx y hy => ?_⟩, fun x hx => ?_⟩
    · rw [List.mem_singleton.mp hy]; exact le x hx
    · rcases List.mem_append.mp hx with z | z
      · exact le x z
      · rw [List.mem_singleton.mp z]; exact Int32.le_refl _
  · rw [h1, h3]; exact ⟨a, s⟩
  · rw [h1, h3]
    exact ⟨a.cut _, fun y hy => s y (List.mem_filter.mp hy).1⟩
theorem scanR_ge {vs : Int32 → Option Int64} {to : Int32} : ∀ {m : Nat} {nx : Int} {R : List (Int32 × Int64)}, ScanR vs to m nx R → ∀ y ∈ R, nx ≤ y.1.toInt := by
  intro m
  induction m with
  | zero => intro nx R q y hy; rw [show R = [] from q] at hy; cases hy
  | succ m ih =>
    intro nx R q y hy
    rcases q with ⟨q, _⟩ | ⟨y', x, R', q, _, h2, _, _, q2⟩
    · rw [q] at hy; cases hy
    · rw [q] at hy
      rcases List.mem_cons.mp hy with z | z
      · rw [z]; exact h2
      · have := ih q2 y z; omega
/-- where a call looks, from and to -/
theorem callR_look {L V : List Kv} {st ow : Int32} {P : List Nat} {n : Nat} {c : Clq} {L' : List Kv} {P' : List Nat} {n' : Nat} {d : AnD} (q : CallR L V st ow P n c L' P' n' d) (hs : c.1 = 2 → c.2.1.toInt ≤ c.2.2.1.toInt) {lo hi : Int32} (e : d.2.2.2 = some (lo, hi)) : lo.toInt ≤ hi.toInt := by
  rcases q with ⟨-, -, -, -, h1⟩ | ⟨-, -, -, -, h1⟩ | ⟨k, -, -, -, most, -, -, -, R, h1, h2⟩ | ⟨-, -, -, -, h1⟩ | ⟨-, -, -, -, h1⟩ | ⟨-, -, m, x, -, -, -, -, -, h1⟩
  · rw [h1] at e
    unfold readD at e
    by_cases c1 : decide (chn L c.2.1 ≠ []) = true
    · rw [if_pos c1] at e; cases e
    · rw [if_neg c1] at e
      injection e with e
      injection e with e1 e2
      rw [← e1, ← e2]
      exact Int.le_refl _
  · have hk := i32_rng c.2.1
    rcases h1 with ⟨h1, -⟩ | ⟨y, x, -, h2, -, h1⟩
    · rw [h1] at e
      by_cases c1 : c.2.2.2.2.1 = 0
      · rw [if_pos c1] at e
        injection e with e
        injection e with e1 e2
        rw [← e1, ← e2, show (-2147483648 : Int32).toInt = -2147483648 from rfl]
        omega
      · rw [if_neg c1] at e
        injection e with e
        injection e with e1 e2
        rw [← e1, ← e2, show (2147483647 : Int32).toInt = 2147483647 from rfl]
        omega
    · rw [h1] at e
      unfold sg at h2
      by_cases c1 : c.2.2.2.2.1 = 0
      · rw [if_pos c1] at e
        rw [if_pos c1, if_pos c1] at h2
        injection e with e
        injection e with e1 e2
        rw [← e1, ← e2]
        omega
      · rw [if_neg c1] at e
        rw [if_neg c1, if_neg c1] at h2
        injection e with e
        injection e with e1 e2
        rw [← e1, ← e2]
        omega
  · rw [h2] at e
    injection e with e
    injection e with e1 e2
    rw [← e1, ← e2]
    unfold lastK
    by_cases c1 : R.length = most
    · rw [if_pos c1]
      cases g : R.getLast? with
      | none => exact hs k
      | some y => exact scanR_ge h1 y (List.mem_of_getLast? g)
    · rw [if_neg c1]
      exact hs k
  · rw [h1] at e; cases e
  · rw [h1] at e; cases e
  · rw [h1] at e; cases e
/-- a call that looks, or none -/
theorem callR_kind {L V : List Kv} {st ow : Int32} {P : List Nat} {n : Nat} {c : Clq} {L' : List Kv} {P' : List Nat} {n' : Nat} {d : AnD} (q : CallR L V st ow P n c L' P' n' d) : (c.1 = 0 ∨ c.1 = 1 ∨ c.1 = 2) ∨ ((c.1 = 3 ∨ c.1 = 4 ∨ c.1 = 5) ∧ d.2.2.2 = none) := by
  rcases q with ⟨k, -⟩ | ⟨k, -⟩ | ⟨k, -⟩ | ⟨k, -, -, -, h⟩ | ⟨k, -, -, -, h⟩ | ⟨k, -, m, x, -, -, -, -, -, h⟩
  · exact Or.inl (Or.inl k)
  · exact Or.inl (Or.inr (Or.inl k))
  · exact Or.inl (Or.inr (Or.inr k))
  · exact Or.inr ⟨Or.inl k, by rw [h]⟩
  · exact Or.inr ⟨Or.inr (Or.inl k), by rw [h]⟩
  · exact Or.inr ⟨Or.inr (Or.inr k), by rw [h]⟩
def vwD (D : Nat → TD) (i : Nat) (A : Shf) (L : List Kv) (P : List Nat) (n : Nat) : Nat → TD := va_up D i ((D i).1, (D i).2.1, A, L, P, n, (D i).2.2.2.2.2.2)
theorem vwD_1 (D : Nat → TD) (i : Nat) (A : Shf) (L : List Kv) (P : List Nat) (n j : Nat) : (vwD D i A L P n j).1 = (D j).1 ∧ (vwD D i A L P n j).2.1 = (D j).2.1 ∧ (vwD D i A L P n j).2.2.2.2.2.2 = (D j).2.2.2.2.2.2 := by
  unfold vwD
  by_cases c : j = i
  · rw [c, va_up_self]; exact ⟨rfl, rfl, rfl⟩
  · rw [va_up_ne _ _ c]; exact ⟨rfl, rfl, rfl⟩
theorem spD_1 (D : Nat → TD) (i la ha : Nat) (sp : List Iv) (j : Nat) : (spD D i la ha sp j).1 = (D j).1 ∧ (spD D i la ha sp j).2.2.2.2.2.2.2 = (D j).2.2.2.2.2.2.2 := by
  unfold spD
  by_cases c : j = i
  · rw [c, va_up_self]; exact ⟨rfl, rfl⟩
  · rw [va_up_ne _ _ c]; exact ⟨rfl, rfl⟩
theorem lk1_2 (D : Nat → TD) (i j k : Nat) : (lk1 D i j k).2 = (D k).2 := by
  unfold lk1
  by_cases c : k = i
  · rw [c, va_up_self]
  · rw [va_up_ne _ _ c]
    by_cases c2 : k = j
    · rw [c2, va_up_self]
    · rw [va_up_ne _ _ c2]
theorem lkD_2 (i k : Nat) : ∀ (xs : List Nat) (D : Nat → TD), (lkD D i xs k).2 = (D k).2 := by
  intro xs
  induction xs with
  | nil => intro D; rfl
  | cons j r ih =>
    intro D
    show (lkD (lk1 D i j) i r k).2 = _
    rw [ih, lk1_2]
/-- a looking that goes through leaves D2 of D1 -/
def LkR (B : Shf) (cm : List Nat) (D1 : Nat → TD) (i : Nat) (lo hh : Int32) (ot : List Nat) (D2 : Nat → TD) : Prop := ∃ k la ha sp, IsIx B lo.toInt k ∧ ot = (ovs B ((D1 i).1 1001) hh k).map (ixm cm) ∧ Fb D1 (D1 i).1 ot none ∧ Can sp ∧ sp.length ≤ (D1 i).2.2.2.2.2.2.1.length + 1 ∧ (∀ k, InS sp k ↔ (InS (D1 i).2.2.2.2.2.2.1 k ∨ (lo.toInt ≤ k.toInt ∧ k.toInt ≤ hh.toInt))) ∧ D2 = (if (D1 i).1 1005 = 2 then spD D1 i la ha sp else lkD (spD D1 i la ha sp) i ot)
def Rcl (h h' : Hp) (c c' n s : Nat) : Prop := h'.nx + c ≤ h.nx + c' + 9 ∧ h'.su + 4 * c ≤ h.su + 4 * c' + s ∧ c ≤ c' ∧ c' ≤ max c (2 * n + 10)
section KC
variable {g : Nat → Nat} {h : Hp} {p : Nat → Nat} {G : Nat → Int32} {fv : Int64} {lr : Option Nat} {B : Shf} {V : List Kv} {ts : List Nat} {D : Nat → TD} {ac cm ot : List Nat} {ct rs : Nat → Int32} {d0 : AnD} {R : List (Int32 × Int64)} {cO : Nat}
/-- the call itself, ahead of its looking -/
theorem kr_do (q : Kr g h p G fv lr B V ts D ac cm ot ct rs d0 R cO) (w : Wf g h) (N : Nat) (hN : 1000000 < N) {i t c : Nat} {d : Clq} (hi : ts[i]? = some t) (hr : g c = c) (cr : Cr h c d) (ok : ClOk (D i).2.2.2.2.1 d) (hL : (D i).2.2.2.1.length < 90000) (hn : (D i).2.2.2.2.2.1 < 90000) (sb : StB (D i).2.2.2.1 (D i).2.2.2.2.2.1) : ∃ h' g' A' L' P' n' e, J_X2_carryOut N c h (some (D i).2.1.1) (some (p 7)) = some (h', ()) ∧ CallR (D i).2.2.2.1 V ((D i).1 1001) ((D i).1 1000) (D i).2.2.2.2.1 (D i).2.2.2.2.2.1 d L' P' n' e ∧ Kr g' h' p G fv lr B V ts (vwD D i A' L' P' n') ac cm ot ct rs e R cO ∧ Wc g g' h h' ∧ StB L' n' ∧ h'.nx ≤ h.nx + 3 ∧ h'.su ≤ h.su + 2 * (D i).2.2.2.1.length + 17 := by
  have tt := q.2.2.2.2.2.2.2.2.2.2.1 i t hi
  have k2 := q.2.1
  have k9 := q.2.2.2.2.2.2.2.2.1
  obtain ⟨q1, q2, q3, ⟨v1, v2, v3, v4, v5⟩, -, -⟩ := id tt
  have s1 : Sep g (p 7) (D i).2.1.1 := sep_roots k9.2.1 v2 (ne_kd k9.1 v3.1.1 (by decide))
  have s2 : Sep g (p 7) (p 0) := sep_roots k9.2.1 k2.1 (ne_kd k9.1 k2.2.1.1 (by decide))
  have s3 : Sep g (D i).2.1.1 (p 0) := (sep_roots k2.1 v2 (ne_kd k2.2.1.1 v3.1.1 (by decide))).sy
  have n7 : c ≠ p 7 := ne_kd cr.1 k9.1 (by decide)
  obtain ⟨h1, h2, h3, g3, A', L', P', n', e, j1, j2, j3, j4, j5, j6, j7, j8, j9, r1, r2, r3, r4, r5, r6, r7⟩ := cl_carry cr v3 k2.2.1 k9 w v4 k2.2.2.1 v5 s1 s2 s3 (nun_root hr n7) ok N hN hL hn
  have a1 := q.scr w j2 j3
  have t1 := a1.2.2.2.2.2.2.2.2.2.2.1 i t hi
  obtain ⟨c1, c2⟩ := callR_asc j9 v5 sb (by omega)
  have t2 := t1.view j2.wf j4 j5 j6 c1
  have a2 := a1.txv j2.wf hi j4 (x := vwD D i A' L' P' n' i) (by unfold vwD; rw [va_up_self]; exact t2) (by unfold vwD; rw [va_up_self])
  have hD : va_up D i (vwD D i A' L' P' n' i) = vwD D i A' L' P' n' := by unfold vwD; rw [va_up_self]
  rw [hD] at a2
  have a3 := a2.scr j4.wf j7 j8
  have cq := ((Cqq.of w j2 (by rw [k9.1]; decide)).tr (Cqq.of j2.wf j4 (by rw [t1.2.2.2.1.2.2.1.1.1]; decide))).tr (Cqq.of j4.wf j7 (by rw [a2.2.2.2.2.2.2.2.2.1.1]; decide))
  refine ⟨h3, g3, A', L', P', n', e, j1, j9, a3, ⟨j7.wf, cq⟩, c2, ?_, ?_⟩
  · unfold Rm2 at r4; omega
  · unfold Rm2 at r4; omega
end KC
