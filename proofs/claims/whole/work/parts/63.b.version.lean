/-! versions kept, on both sides -/
/-- the places with P, last first -/
noncomputable def pl (P : Nat → Prop) : Nat → List Nat
  | 0 => []
  | n + 1 => @ite _ (P n) (Classical.propDecidable _) (n :: pl P n) (pl P n)
theorem pl_y {P : Nat → Prop} {n : Nat} (z : P n) : pl P (n + 1) = n :: pl P n := if_pos z
theorem pl_n {P : Nat → Prop} {n : Nat} (z : ¬ P n) : pl P (n + 1) = pl P n := if_neg z
theorem pl_len (P : Nat → Prop) (n : Nat) : (pl P n).length = cntQ P n := by
  induction n with
  | zero => rfl
  | succ n ih =>
    have cs : cntQ P (n + 1) = cntQ P n + @ite Nat (P n) (Classical.propDecidable _) 1 0 := rfl
    by_cases z : P n
    · rw [pl_y z, List.length_cons, ih, cs, if_pos z]
    · rw [pl_n z, ih, cs, if_neg z]
      rfl
theorem pl_con {P Q : Nat → Prop} {n : Nat} (e : ∀ i, i < n → (P i ↔ Q i)) : pl P n = pl Q n := by
  induction n with
  | zero => rfl
  | succ n ih =>
    have i := ih (fun i hi => e i (by omega))
    by_cases z : P n
    · rw [pl_y z, pl_y ((e n (by omega)).mp z), i]
    · rw [pl_n z, pl_n (fun y => z ((e n (by omega)).mpr y)), i]
theorem pl_none {P : Nat → Prop} {n : Nat} (e : ∀ i, i < n → ¬ P i) : pl P n = [] := by
  induction n with
  | zero => rfl
  | succ n ih => rw [pl_n (e n (by omega)), ih (fun i hi => e i (by omega))]
theorem pl_get {P : Nat → Prop} : ∀ (v n i : Nat), (pl P v)[n]? = some i → i < v ∧ P i ∧ n + cntQ P (i + 1) = cntQ P v := by
  intro v
  induction v with
  | zero => intro n i h; exact nomatch h
  | succ v ih =>
    intro n i h
    have cs : cntQ P (v + 1) = cntQ P v + @ite Nat (P v) (Classical.propDecidable _) 1 0 := rfl
    by_cases z : P v
    · rw [pl_y z] at h
      rw [if_pos z] at cs
      cases n with
      | zero =>
        have e : v = i := Option.some.inj h
        rw [← e]
        exact ⟨by omega, z, by omega⟩
      | succ n =>
        obtain ⟨a, b, c⟩ := ih n i h
        exact ⟨by omega, b, by omega⟩
    · rw [pl_n z] at h
      rw [if_neg z] at cs
      obtain ⟨a, b, c⟩ := ih n i h
      exact ⟨by omega, b, by omega⟩
theorem nth_pl {P : Nat → Prop} {v n : Nat} {y : Int32} (s : nthS P v n y) : (y = -1 ∧ (pl P v)[n]? = none) ∨ ∃ i, i < v ∧ y = nI i ∧ (pl P v)[n]? = some i := by
  cases e : (pl P v)[n]? with
  | none =>
    left
    have : cntQ P v ≤ n := by
      rw [← pl_len]
      exact List.getElem?_eq_none_iff.mp e
    exact ⟨s.uniq (Or.inl ⟨rfl, this⟩), rfl⟩
  | some i =>
    right
    obtain ⟨a, b, c⟩ := pl_get v n i e
    exact ⟨i, a, s.uniq (Or.inr ⟨i, a, rfl, b, by omega⟩), rfl⟩
theorem keptN_y {m : Int32} {e : Ent} {L : List Ent} (z : m < e.1) : keptN m (e :: L) = keptN m L + 1 := by
  unfold keptN
  rw [takeW_c, dropW_c, if_pos z, if_pos z, List.length_cons]
  omega
theorem keptN_n {m : Int32} {e : Ent} {L : List Ent} (z : ¬ m < e.1) : keptN m (e :: L) = if e.2.2.1 = 0 then 0 else 1 := by
  unfold keptN
  rw [takeW_c, dropW_c, if_neg z, if_neg z]
  show 0 + _ = _
  rw [Nat.zero_add]
section VRS
variable {h : Hp} {M b c w l v k r clk : Nat} {G : Nat → Int32} {fv : Int64} {B : Shf} {V : List Kv} {ts : List Nat} {D : Nat → TD} {ac cm : List Nat} {ct rs : Nat → Int32} {R : List (Int32 × Int64)}
/-- an entry and its row -/
def EnR (h : Hp) (M : Nat) (e : Ent) (j : Nat) : Prop := e.1 = vMo h M j ∧ e.2.1 = h.bi (M + 20) j ∧ e.2.2.1 = h.bi (M + 22) j ∧ e.2.2.2 = h.bw (M + 21) j
theorem lastS_s {P : Nat → Prop} {v i : Nat} (hv : v < 512) (hi : i < v) (no : ¬ P v) : lastS P (v + 1) (nI i) ↔ lastS P v (nI i) := by
  unfold lastS
  constructor
  · rintro (⟨a, _⟩ | ⟨i', a, b, c, d⟩)
    · exact absurd a (ni_m1 (by omega))
    · have e := (ni_inj (by omega) (by omega)).mp b
      exact Or.inr ⟨i', by omega, b, c, fun j j1 j2 => d j j1 (by omega)⟩
  · rintro (⟨a, _⟩ | ⟨i', a, b, c, d⟩)
    · exact absurd a (ni_m1 (by omega))
    · refine Or.inr ⟨i', by omega, b, c, fun j j1 j2 => ?_⟩
      by_cases e : j = v
      · rw [e]; exact no
      · exact d j j1 (by omega)
theorem ver_list (key m : Int32) : ∀ (v : Nat) (V : List Kv), V.length = v → v ≤ 512 → Asc V → (∀ (j : Nat) (x : Kv), V[j]? = some x → x.1 = h.bi (M + 19) j ∧ EnR h M x.2 j) → F2 (EnR h M) ((chn V key).take (keptN m (chn V key))) (pl (kvP h M v key m) v) := by
  intro v
  induction v with
  | zero =>
    intro V hl _ _ _
    rw [List.length_eq_zero_iff.mp hl]
    exact trivial
  | succ v ih =>
    intro V hl hv as rows
    obtain ⟨V0, x, eV⟩ : ∃ V0 x, V = V0 ++ [x] := by
      rcases List.eq_nil_or_concat V with z | ⟨V0, x, z⟩
      · rw [z] at hl; cases hl
      · exact ⟨V0, x, by rw [z, List.concat_eq_append]⟩
    have l0 : V0.length = v := by
      rw [eV, List.length_append, List.length_singleton] at hl
      omega
    have as' := as
    unfold Asc at as'
    rw [eV] at as'
    have as0 : Asc V0 := (List.pairwise_append.mp as').1
    have up : ∀ {j : Nat} {y : Kv}, V0[j]? = some y → V[j]? = some y := by
      intro j y hy
      have jl : j < V0.length := by
        rcases Nat.lt_or_ge j V0.length with q | q
        · exact q
        · rw [List.getElem?_eq_none q] at hy; cases hy
      rw [eV, List.getElem?_append_left jl]
      exact hy
    have ihv := ih V0 l0 (by omega) as0 (fun j y hy => rows j y (up hy))
    have xv : V[v]? = some x := by
      rw [eV, List.getElem?_append_right (by omega), l0, Nat.sub_self]; rfl
    obtain ⟨x1, x2⟩ := rows v x xv
    have ex : x = (x.1, x.2) := rfl
    have ec : chn V key = if key = x.1 then x.2 :: chn V0 x.1 else chn V0 key := by
      rw [eV, ex, chn_add]
    have keep : ¬ vatC h M key m v → ∀ i, i < v → (kvP h M (v + 1) key m i ↔ kvP h M v key m i) := by
      intro no i hi
      unfold kvP keptV
      constructor
      · rintro ⟨a, b⟩
        rw [a, lastS_s (by omega) hi no] at b
        rw [a]
        exact ⟨rfl, b⟩
      · rintro ⟨a, b⟩
        rw [a, ← lastS_s (by omega) hi no] at b
        rw [a]
        exact ⟨rfl, b⟩
    by_cases zk : key = x.1
    · rw [if_pos zk, ← zk] at ec
      by_cases zm : m < x.2.1
      · have no : ¬ vatC h M key m v := fun y => by
          have := y.2
          rw [← x2.1] at this
          rw [Int32.lt_iff_toInt_lt] at zm
          rw [Int32.le_iff_toInt_le] at this
          omega
        have yes : kvP h M (v + 1) key m v := ⟨by rw [← x1]; exact zk.symm, Or.inl (by rw [← x2.1]; exact zm)⟩
        rw [ec, keptN_y zm, List.take_succ_cons, pl_y yes, pl_con (keep no)]
        exact ⟨x2, ihv⟩
      · have le : vMo h M v ≤ m := by
          rw [← x2.1]
          rw [Int32.lt_iff_toInt_lt] at zm
          rw [Int32.le_iff_toInt_le]
          omega
        have isv : vatC h M key m v := ⟨by rw [← x1]; exact zk.symm, le⟩
        have none_ : ∀ i, i < v → ¬ kvP h M (v + 1) key m i := by
          rintro i hi ⟨a, b⟩
          rcases b with b | ⟨b, _⟩
          · obtain ⟨y, hy⟩ : ∃ y, V0[i]? = some y := ⟨_, List.getElem?_eq_getElem (by omega)⟩
            have o := (List.pairwise_append.mp as').2.2 y (List.mem_of_getElem? hy) x (List.mem_singleton.mpr rfl)
            rw [(rows i y (up hy)).2.1, x2.1] at o
            rw [Int32.lt_iff_toInt_lt] at b
            rw [Int32.le_iff_toInt_le] at o le
            omega
          · rw [a] at b
            rcases b with ⟨b, _⟩ | ⟨i', b1, b2, b3, b4⟩
            · exact absurd b (ni_m1 (by omega))
            · have e := (ni_inj (by omega) (by omega)).mp b2
              exact b4 v (by omega) (by omega) isv
        rw [ec, keptN_n zm]
        by_cases zv : x.2.2.2.1 = 0
        · rw [if_pos zv, List.take_zero, pl_none]
          · exact trivial
          · intro i hi
            by_cases e : i = v
            · rw [e]
              rintro ⟨a, b⟩
              rcases b with b | ⟨_, b⟩
              · rw [Int32.lt_iff_toInt_lt] at b
                rw [Int32.le_iff_toInt_le] at le
                omega
              · exact b (by rw [← x2.2.2.1]; exact zv)
            · exact none_ i (by omega)
        · have yes : kvP h M (v + 1) key m v := by
            refine ⟨by rw [← x1]; exact zk.symm, Or.inr ⟨?_, by rw [← x2.2.2.1]; exact zv⟩⟩
            rw [← x1, ← zk]
            exact Or.inr ⟨v, by omega, rfl, isv, fun j j1 j2 => by omega⟩
          rw [if_neg zv, pl_y yes, pl_none none_]
          exact ⟨x2, trivial⟩
    · rw [if_neg zk] at ec
      have no : ¬ vatC h M key m v := fun y => zk (by rw [x1]; exact y.1.symm)
      have noP : ¬ kvP h M (v + 1) key m v := fun y => zk (by rw [x1]; exact y.1.symm)
      rw [ec, pl_n noP, pl_con (keep no)]
      exact ihv
theorem F2.get {α β : Type} {R : α → β → Prop} : ∀ {as : List α} {bs : List β}, F2 R as bs → ∀ (n : Nat), (as[n]? = none ∧ bs[n]? = none) ∨ ∃ a b, as[n]? = some a ∧ bs[n]? = some b ∧ R a b := by
  intro as
  induction as with
  | nil =>
    intro bs f n
    cases bs with
    | nil => exact Or.inl ⟨rfl, rfl⟩
    | cons z bs => exact f.elim
  | cons x as ih =>
    intro bs f n
    cases bs with
    | nil => exact f.elim
    | cons z bs =>
      cases n with
      | zero => exact Or.inr ⟨x, z, rfl, rfl, f.1⟩
      | succ n => exact ih f.2 n
theorem ver_rows (q11 : Veq h M b w v V) : ∀ (j : Nat) (x : Kv), V[j]? = some x → x.1 = h.bi (M + 19) j ∧ EnR h M x.2 j := fun j x hx => by
  obtain ⟨a1, a2, a3, a4, a5, _⟩ := q11.2.2 j x hx
  exact ⟨a1, a2, a3, a4, a5⟩
theorem ver_eq (q : Cpl h M b c w l v k r clk G fv V ts D ac cm ct rs R) (pu : Pu B V ts D) (sa : ac.Pairwise (fun a b => a < b)) {key x y : Int32} (s : verS h M b c v key x y) : (kvE (look B key) (hzn D ac cm) x = none ∧ y = -1) ∨ ∃ e i, kvE (look B key) (hzn D ac cm) x = some e ∧ i < v ∧ y = nI i ∧ EnR h M e i := by
  have hz := hz_is q sa
  obtain ⟨q1, q2, q3, q4, q5, q6, q7, q8, q9, q10, q11, q12, q13, q14, q15, q16⟩ := q
  have hv := q1.2.2.2.2.2.2.2.2.2.2.2.1
  rw [pu.2.2.1 key]
  unfold kvE
  rcases s with ⟨s1, s2⟩ | ⟨j, m, s1, s2, s3, s4⟩
  · left
    rw [if_neg (fun z => ?_)]
    · exact ⟨rfl, s2⟩
    · rw [Int32.lt_iff_toInt_lt] at s1
      have : (0 : Int32).toInt = 0 := rfl
      omega
  · rw [s3.uniq hz] at s4
    have tx : x.toInt = (j : Int) := by rw [s1, nI_toInt (by omega)]
    have fl := (ver_list key (hzn D ac cm) v V q11.1 hv pu.2.2.2.1 (ver_rows q11)).get j
    have ee : (if 0 ≤ x.toInt ∧ x.toInt < keptN (hzn D ac cm) (chn V key) then (chn V key)[x.toInt.toNat]? else none) = ((chn V key).take (keptN (hzn D ac cm) (chn V key)))[j]? := by
      rw [List.getElem?_take, tx]
      by_cases z : j < keptN (hzn D ac cm) (chn V key)
      · rw [if_pos z, if_pos (by omega)]
        rfl
      · rw [if_neg z, if_neg (by omega)]
    rw [ee]
    rcases nth_pl s4 with ⟨n1, n2⟩ | ⟨i, n1, n2, n3⟩
    · rcases fl with ⟨f1, _⟩ | ⟨_, _, _, f2, _⟩
      · exact Or.inl ⟨f1, n1⟩
      · rw [n2] at f2; cases f2
    · rcases fl with ⟨_, f1⟩ | ⟨e, i', f1, f2, f3⟩
      · rw [n3] at f1; cases f1
      · rw [n3] at f2
        rw [← Option.some.inj f2] at f3
        exact Or.inr ⟨e, i, f1, n1, n2, f3⟩
theorem version_eq (q : Cpl h M b c w l v k r clk G fv V ts D ac cm ct rs R) (pu : Pu B V ts D) (sa : ac.Pairwise (fun a b => a < b)) {key x what y z : Int32} (s : verS h M b c v key x y) (a : verA h M what y z) : verV (kvE (look B key) (hzn D ac cm) x) what = z := by
  have hv := q.1.2.2.2.2.2.2.2.2.2.2.2.1
  have wb := q.2.2.2.2.2.2.2.2.2.2.1.2.1
  rcases ver_eq q pu sa s with ⟨e1, e2⟩ | ⟨e, i, e1, e2, e3, e4⟩
  · rw [e1]
    rcases a with ⟨_, a2⟩ | ⟨i, a0, a1, _⟩
    · rw [a2]; rfl
    · exact absurd (a1.symm.trans e2) (ni_m1 (by omega))
  · rw [e1]
    rcases a with ⟨a1, _⟩ | ⟨i', a0, a1, a2⟩
    · exact absurd (e3.symm.trans a1) (ni_m1 (by omega))
    · rw [← (ni_inj (by omega) (by omega)).mp (e3.symm.trans a1)] at a2
      rw [a2]
      show (if what = 0 then e.1 else if what = 1 then e.2.2.1 else if what = 2 then e.2.1 else -1) = _
      rw [e4.1, e4.2.1, e4.2.2.1]
      have : h.bi (M + 22) i = if h.bi (M + 22) i = 0 then 0 else 1 := by
        rcases wb.2 i e2 with z | z <;> rw [z] <;> rfl
      rw [← this]
theorem versionV_eq (q : Cpl h M b c w l v k r clk G fv V ts D ac cm ct rs R) (pu : Pu B V ts D) (sa : ac.Pairwise (fun a b => a < b)) {key x y : Int32} {z : Int64} (s : verS h M b c v key x y) (a : (y = -1 ∧ z = 0) ∨ ∃ i, i < v ∧ y = nI i ∧ z = if h.bi (M + 22) i = 0 then 0 else h.bw (M + 21) i) : verL (kvE (look B key) (hzn D ac cm) x) = z := by
  have hv := q.1.2.2.2.2.2.2.2.2.2.2.2.1
  rcases ver_eq q pu sa s with ⟨e1, e2⟩ | ⟨e, i, e1, e2, e3, e4⟩
  · rw [e1]
    rcases a with ⟨_, a2⟩ | ⟨i, a0, a1, _⟩
    · rw [a2]; rfl
    · exact absurd (a1.symm.trans e2) (ni_m1 (by omega))
  · rw [e1]
    rcases a with ⟨a1, _⟩ | ⟨i', a0, a1, a2⟩
    · exact absurd (e3.symm.trans a1) (ni_m1 (by omega))
    · rw [← (ni_inj (by omega) (by omega)).mp (e3.symm.trans a1)] at a2
      rw [a2]
      show (if e.2.2.1 = 0 then 0 else e.2.2.2) = _
      rw [e4.2.2.1, e4.2.2.2]
end VRS
