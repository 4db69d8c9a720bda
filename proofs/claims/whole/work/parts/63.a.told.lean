/-! what is told, on both sides -/
/-- what the class's heap says of its lists -/
def Pu (B : Shf) (V : List Kv) (ts : List Nat) (D : Nat → TD) : Prop := Srt B ∧ (∀ y ∈ B, y.2 ≠ []) ∧ BkL B V ∧ Asc V ∧ ∀ i, i < ts.length → Srt (tA (D i)) ∧ (∀ y ∈ tA (D i), y.2 ≠ []) ∧ BkL (tA (D i)) (tL (D i)) ∧ Can (tS (D i))
theorem Kr.pu {g : Nat → Nat} {h : Hp} {p : Nat → Nat} {G : Nat → Int32} {fv : Int64} {lr : Option Nat} {B : Shf} {V : List Kv} {ts : List Nat} {D : Nat → TD} {ac cm ot : List Nat} {ct rs : Nat → Int32} {d0 : AnD} {R : List (Int32 × Int64)} {cO : Nat} (q : Kr g h p G fv lr B V ts D ac cm ot ct rs d0 R cO) : Pu B V ts D := by
  have s := q.2.1
  refine ⟨s.2.1.2.2.2.1, s.2.1.2.2.2.2.1, s.2.2.1, s.2.2.2, fun i hi => ?_⟩
  have tt := q.2.2.2.2.2.2.2.2.2.2.1 i _ (List.getElem?_eq_getElem hi)
  exact ⟨tt.2.2.2.1.2.2.1.2.2.2.2.1, tt.2.2.2.1.2.2.1.2.2.2.2.2.1, tt.2.2.2.1.2.2.2.1, tt.2.2.2.2.1.2.2.2⟩
theorem le_anti {x y : Int32} (a : x ≤ y) (b : y ≤ x) : x = y := by
  rw [Int32.le_iff_toInt_le] at a b
  exact Int32.toInt_inj.mp (by omega)
section TLD
variable {h : Hp} {M b c w l v k r clk : Nat} {G : Nat → Int32} {fv : Int64} {B : Shf} {V : List Kv} {ts : List Nat} {D : Nat → TD} {ac cm : List Nat} {ct rs : Nat → Int32} {R : List (Int32 × Int64)}
theorem hz_is (q : Cpl h M b c w l v k r clk G fv V ts D ac cm ct rs R) (sa : ac.Pairwise (fun a b => a < b)) : hznS h M c (b + 1) (hzn D ac cm) := by
  obtain ⟨q1, q2, q3, q4, q5, q6, q7, q8, q9, q10, q11, q12, q13, q14, q15, q16⟩ := q
  have c512 := q1.2.2.2.2.2.2.2.2.1
  have st : ∀ u, u < b → h.bi (M + 3) (u + 1) ≤ nI c := by
    intro u hu
    obtain ⟨_, _, _, _, s, s1, s2, _⟩ := q5.2 (u + 1) (by omega) (by omega)
    rw [s1, ni_le (by omega) (by omega)]; exact s2
  cases ac with
  | nil =>
    refine ⟨Or.inl (by rw [← q3]; rfl), by show nI cm.length ≤ _; rw [q3]; exact Int32.le_refl _, fun u u1 u2 a => ?_⟩
    have := (q7.1 (u - 1)).mpr ⟨by omega, by rw [show u - 1 + 1 = u by omega]; exact a⟩
    exact nomatch this
  | cons i r =>
    have hi := (q7.1 i).mp List.mem_cons_self
    show hznS h M c (b + 1) ((D i).1 1001)
    rw [(q4 i hi.1).2.1]
    refine ⟨Or.inr ⟨i + 1, by omega, by omega, hi.2, rfl⟩, st i hi.1, fun u u1 u2 a => ?_⟩
    have m := (q7.1 (u - 1)).mpr ⟨by omega, by rw [show u - 1 + 1 = u by omega]; exact a⟩
    refine q5.1 (i + 1) u (by omega) ?_ (by omega)
    rcases List.mem_cons.mp m with e | e
    · omega
    · have := (List.pairwise_cons.mp sa).1 _ e
      omega
theorem hz_n (q : Cpl h M b c w l v k r clk G fv V ts D ac cm ct rs R) : ∃ s, hzn D ac cm = nI s ∧ s ≤ cm.length := by
  obtain ⟨q1, q2, q3, q4, q5, q6, q7, q8, q9, q10, q11, q12, q13, q14, q15, q16⟩ := q
  cases ac with
  | nil => exact ⟨cm.length, rfl, Nat.le_refl _⟩
  | cons i r =>
    have hi := (q7.1 i).mp List.mem_cons_self
    obtain ⟨_, _, _, _, s, s1, s2, _⟩ := q5.2 (i + 1) (by omega) (by omega)
    exact ⟨s, (q4 i hi.1).2.1.trans s1, by omega⟩
theorem kept_eq (q : Cpl h M b c w l v k r clk G fv V ts D ac cm ct rs R) (sa : ac.Pairwise (fun a b => a < b)) {i : Nat} (hi : i < b) : keptT h M b c (i + 1) ↔ ((D i).1 1006 = 2 ∧ hzn D ac cm < (D i).1 1007) := by
  have hz := hz_is q sa
  have q4 := q.2.2.2.1
  rw [(q4 i hi).2.2.2.1, (q4 i hi).2.2.2.2.1]
  exact ⟨fun ⟨a, x, a1, a2⟩ => ⟨a, by rw [← a1.uniq hz]; exact a2⟩, fun ⟨a, a1⟩ => ⟨a, _, hz, a1⟩⟩
end TLD
/-- canonical spans of the same keys are the same -/
theorem can_uniq : ∀ (S S' : List Iv), Can S → Can S' → (∀ key, InS S key ↔ InS S' key) → S = S' := by
  have tl : ∀ {x : Iv} {S : List Iv}, Can (x :: S) → Can S ∧ x.1.toInt ≤ x.2.toInt ∧ ∀ y ∈ S, x.2.toInt + 1 < y.1.toInt := by
    intro x S c
    refine ⟨⟨fun y hy => c.1 y (List.mem_cons_of_mem _ hy), fun i j a b h1 h2 h3 => c.2 (i + 1) (j + 1) a b (by omega) h2 h3⟩, c.1 x List.mem_cons_self, fun y hy => ?_⟩
    obtain ⟨n, hn⟩ := List.getElem?_of_mem hy
    exact c.2 0 (n + 1) x y (by omega) rfl hn
  have sub : ∀ {x x' : Iv} {S S' : List Iv}, Can (x :: S) → Can (x' :: S') → (∀ key, InS (x :: S) key → InS (x' :: S') key) → x'.1.toInt ≤ x.1.toInt := by
    intro x x' S S' c c' e
    obtain ⟨_, c2, _⟩ := tl c
    obtain ⟨y, y1, y2, y3⟩ := e x.1 ⟨x, List.mem_cons_self, Int.le_refl _, c2⟩
    rcases List.mem_cons.mp y1 with z | z
    · rw [z] at y2; exact y2
    · have := (tl c').2.2 y z
      have := (tl c').2.1
      omega
  have sub2 : ∀ {x x' : Iv} {S S' : List Iv}, Can (x :: S) → Can (x' :: S') → (∀ key, InS (x' :: S') key → InS (x :: S) key) → x.1.toInt = x'.1.toInt → x'.2.toInt ≤ x.2.toInt := by
    intro x x' S S' c c' e e1
    rcases Int.lt_or_le x.2.toInt x'.2.toInt with z | z
    · exfalso
      have c2 := (tl c).2.1
      have lo := Int32.le_toInt x.2
      have hi := Int32.toInt_lt x'.2
      have k : (Int32.ofInt (x.2.toInt + 1)).toInt = x.2.toInt + 1 := Int32.toInt_ofInt_of_le (by omega) (by omega)
      obtain ⟨y, y1, y2, y3⟩ := e (Int32.ofInt (x.2.toInt + 1)) ⟨x', List.mem_cons_self, by omega, by omega⟩
      rw [k] at y2 y3
      rcases List.mem_cons.mp y1 with u | u
      · rw [u] at y3; omega
      · have := (tl c).2.2 y u
        omega
    · exact z
  intro S
  induction S with
  | nil =>
    intro S' _ c' e
    cases S' with
    | nil => rfl
    | cons x S' =>
      obtain ⟨y, y1, _⟩ := (e x.1).mpr ⟨x, List.mem_cons_self, Int.le_refl _, (tl c').2.1⟩
      exact nomatch y1
  | cons x S ih =>
    intro S' c c' e
    cases S' with
    | nil =>
      obtain ⟨y, y1, _⟩ := (e x.1).mp ⟨x, List.mem_cons_self, Int.le_refl _, (tl c).2.1⟩
      exact nomatch y1
    | cons x' S' =>
      have a1 := sub c c' (fun key => (e key).mp)
      have a2 := sub c' c (fun key => (e key).mpr)
      have e1 : x.1.toInt = x'.1.toInt := by omega
      have b1 := sub2 c c' (fun key => (e key).mpr) e1
      have b2 := sub2 c' c (fun key => (e key).mp) e1.symm
      have ex : x = x' := Prod.ext (Int32.toInt_inj.mp e1) (Int32.toInt_inj.mp (by omega))
      have rest : ∀ {x : Iv} {S : List Iv}, Can (x :: S) → ∀ key, InS S key ↔ InS (x :: S) key ∧ x.2.toInt < key.toInt := by
        intro x S c key
        constructor
        · rintro ⟨y, y1, y2, y3⟩
          have := (tl c).2.2 y y1
          exact ⟨⟨y, List.mem_cons_of_mem _ y1, y2, y3⟩, by omega⟩
        · rintro ⟨⟨y, y1, y2, y3⟩, z⟩
          rcases List.mem_cons.mp y1 with u | u
          · rw [u] at y3; omega
          · exact ⟨y, u, y2, y3⟩
      rw [ex, ih S' (tl c).1 (tl c').1 (fun key => by rw [rest c, rest c', e key, ex])]
section TLE
variable {h : Hp} {M b c w l v k r clk : Nat} {G : Nat → Int32} {fv : Int64} {B : Shf} {V : List Kv} {ts : List Nat} {D : Nat → TD} {ac cm : List Nat} {ct rs : Nat → Int32} {R : List (Int32 × Int64)}
theorem run_eq (q : Cpl h M b c w l v k r clk G fv V ts D ac cm ct rs R) (pu : Pu B V ts D) {i : Nat} (hi : i < b) {x : Int32} (rn : runS h M l (i + 1) x) : x = nI (rnF D i) := by
  obtain ⟨q1, q2, q3, q4, q5, q6, q7, q8, q9, q10, q11, q12, q13, q14, q15, q16⟩ := q
  obtain ⟨S, s1, s2, _, s3⟩ := rn
  have cn := (pu.2.2.2.2 i (by omega)).2.2.2
  have k5 : (D i).1 1005 = 2 ↔ h.bi (M + 7) (i + 1) = 1 := by
    rw [(q4 i hi).2.2.1]
    by_cases z : h.bi (M + 2) (i + 1) = 0
    · rw [if_pos z, (q5.2 (i + 1) (by omega) (by omega)).2.2.1 z]; decide
    · rw [if_neg z]
      rcases (q5.2 (i + 1) (by omega) (by omega)).2.1 with y | y | y <;> rw [y] <;> decide
  unfold rnF
  rw [s2]
  by_cases z : (D i).1 1005 = 2
  · rw [if_pos z]
    have : S = [] := can_uniq S [] s1 ⟨fun y hy => (nomatch hy), fun i j x y _ hx => (nomatch hx)⟩ (fun key => by
      rw [s3]
      exact ⟨fun u => absurd (k5.mp z) u.1, fun ⟨y, y1, _⟩ => (nomatch y1)⟩)
    rw [this]; rfl
  · rw [if_neg z, can_uniq S (tS (D i)) s1 cn (fun key => by
      rw [s3, q10.1 i hi]
      exact ⟨fun u => u.2, fun u => ⟨fun y => z (k5.mpr y), u⟩⟩)]
theorem told_eq (q : Cpl h M b c w l v k r clk G fv V ts D ac cm ct rs R) (pu : Pu B V ts D) (sa : ac.Pairwise (fun a b => a < b)) {x what y : Int32} (t : TolR h M b c w l v x what y) : (if 1 ≤ x.toInt ∧ x.toInt ≤ ts.length then toldV (hzn D ac cm) (D (x.toInt.toNat - 1)) what else -1) = y := by
  have q' := q
  obtain ⟨q1, q2, q3, q4, q5, q6, q7, q8, q9, q10, q11, q12, q13, q14, q15, q16⟩ := q'
  have hb := q1.2.2.2.2.2.2.2.1
  have hw := q1.2.2.2.2.2.2.2.2.2.1
  rcases t with ⟨no, y1⟩ | ⟨t, t1, t2, t3, z⟩
  · rw [if_neg (fun u => no ⟨x.toInt.toNat, ?_, by omega, by omega⟩), y1]
    refine Int32.toInt_inj.mp ?_
    rw [nI_toInt (by omega)]
    omega
  · have tx : x.toInt = (t : Int) := by rw [t1, nI_toInt (by omega)]
    rw [if_pos (by rw [tx, q2]; omega), tx]
    obtain ⟨i, rfl⟩ : ∃ i, t = i + 1 := ⟨t - 1, by omega⟩
    rw [show ((i + 1 : Nat) : Int).toNat - 1 = i by omega]
    obtain ⟨w1, w2, w3, w4, w5, w6, w7⟩ := q4 i (by omega)
    have ke := kept_eq q sa (i := i) (by omega)
    unfold toldV
    rcases z with ⟨z, y1⟩ | ⟨z, u⟩
    · rw [if_pos z, y1, w4]
    · rw [if_neg z]
      rcases u with ⟨u1, u2, u3⟩ | ⟨u1, u2⟩
      · rw [if_pos ⟨by rw [w4]; exact u1, fun y => u2 (ke.mpr y)⟩, u3]
      · rw [if_neg (fun y => u1.elim (fun u => y.1 (w4.trans u)) (fun u => y.2 (ke.mp u)))]
        unfold tolA at u2
        by_cases a1 : what = 1
        · rw [if_pos a1] at u2 ⊢; rw [u2, w2]
        · rw [if_neg a1] at u2 ⊢
          by_cases a2 : what = 2
          · rw [if_pos a2] at u2 ⊢; rw [u2, w5]
          · rw [if_neg a2] at u2 ⊢
            by_cases a3 : what = 3
            · rw [if_pos a3] at u2 ⊢
              exact (q8 i (by omega) (u1.imp id (fun u => u.1))).uniq u2
            · rw [if_neg a3] at u2 ⊢
              by_cases a4 : what = 4
              · rw [if_pos a4] at u2 ⊢; rw [u2, w6]
              · rw [if_neg a4] at u2 ⊢
                by_cases a5 : what = 5
                · rw [if_pos a5] at u2 ⊢
                  obtain ⟨p1, p2, p3, _⟩ := pu.2.2.2.2 i (by omega)
                  rw [u2, nk_own hw (q9 i (by omega)), ← bk_len p1 p2 p3]
                · rw [if_neg a5] at u2 ⊢
                  by_cases a6 : what = 6
                  · rw [if_pos a6] at u2 ⊢
                    exact (run_eq q pu (by omega) u2).symm
                  · rw [if_neg a6] at u2 ⊢
                    by_cases a7 : what = 7
                    · rw [if_pos a7] at u2 ⊢; rw [u2, w3]
                    · rw [if_neg a7] at u2 ⊢
                      by_cases a8 : what = 8
                      · rw [if_pos a8] at u2 ⊢; rw [u2, w7]
                      · rw [if_neg a8] at u2 ⊢; rw [u2]
end TLE
