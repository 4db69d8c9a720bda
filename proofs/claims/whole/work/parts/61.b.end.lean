/-! one ends, not committed: both sides keep step -/
section ENDC
variable {h h1 h2 h' : Hp} {M b c w l v k r clk : Nat} {G G' : Nat → Int32} {fv : Int64} {V : List Kv} {ts : List Nat} {D D' : Nat → TD} {ac cm : List Nat} {ct rs : Nat → Int32} {R : List (Int32 × Int64)}
theorem mem_out {ac : List Nat} {i j x : Nat} (nd : ac.Nodup) (hj : ac[j]? = some i) : x ∈ ac.eraseIdx j ↔ x ∈ ac ∧ x ≠ i := by
  rw [List.mem_eraseIdx_iff_getElem?]
  constructor
  · rintro ⟨y, y1, y2⟩
    refine ⟨List.mem_of_getElem? y2, fun e => y1 ?_⟩
    rw [e] at y2
    have jl : j < ac.length := by
      rcases Nat.lt_or_ge j ac.length with z | z
      · exact z
      · rw [List.getElem?_eq_none z] at hj; cases hj
    have yl : y < ac.length := by
      rcases Nat.lt_or_ge y ac.length with z | z
      · exact z
      · rw [List.getElem?_eq_none z] at y2; cases y2
    exact (List.getElem?_inj yl nd).mp (y2.trans hj.symm)
  · rintro ⟨m, ne⟩
    obtain ⟨y, y2⟩ := List.getElem?_of_mem m
    exact ⟨y, fun e => ne (by rw [e, hj] at y2; exact (Option.some.inj y2).symm), y2⟩
theorem endD_i {i : Nat} {s : Int32} {xs : List Nat} (no : i ∉ xs) : endD D i s xs i = (va_up (D i).1 1006 s, (D i).2) := by
  unfold endD
  by_cases z : (D i).1 1005 = 0
  · rw [if_pos z]
    unfold hdD
    rw [if_neg no, va_up_self]
  · rw [if_neg z, va_up_self]
theorem endD_j {i j : Nat} {s : Int32} {xs : List Nat} (ne : j ≠ i) : endD D i s xs j = (if (D i).1 1005 = 0 ∧ j ∈ xs then heedF (D j).1 (va_up (D i).1 1006 s) else (D j).1, (D j).2) := by
  unfold endD
  by_cases z : (D i).1 1005 = 0
  · rw [if_pos z]
    unfold hdD
    by_cases y : j ∈ xs
    · rw [if_pos y, if_pos ⟨z, y⟩, va_up_ne _ _ ne]
    · rw [if_neg y, if_neg (fun u => y u.2), va_up_ne _ _ ne]
  · rw [if_neg z, va_up_ne _ _ ne, if_neg (fun u => z u.1)]
/-- OUT doesn't mind that another ends -/
theorem outS_how {t a n : Nat} {x : Int32} (f : RfO [1, 6] [] M h h1) (e1 : ∀ j, j ≠ t → h1.bi (M + 1) j = h.bi (M + 1) j) (n1 : h.bi (M + 1) t ≠ 2) (n2 : h1.bi (M + 1) t ≠ 2) (at_ : a ≠ t) : outS h1 M l v a n x ↔ outS h M l v a n x := by
  have oc : ∀ u, outC h1 M l v a u ↔ outC h M l v a u := by
    intro u
    by_cases z : u = t
    · rw [z]
      exact ⟨fun y => absurd y.1 n2, fun y => absurd y.1 n1⟩
    · unfold outC prec rdK endT inT
      rw [e1 u z, e1 a at_, f.bi (show 3 ∉ _ by decide), f.bi (show 4 ∉ _ by decide), f.bi (show 7 ∉ _ by decide), f.bi (show 16 ∉ _ by decide), f.bi (show 17 ∉ _ by decide), f.bi (show 18 ∉ _ by decide), f.bi (show 19 ∉ _ by decide), f.bi (show 20 ∉ _ by decide)]
  have oe : outC h1 M l v a = outC h M l v a := funext fun u => propext (oc u)
  unfold outS
  rw [oe, f.bi (show 4 ∉ _ by decide)]
theorem outS_sf {a n : Nat} {x : Int32} (f : RfO [7] [] M h1 h2) (e : h2.bi (M + 7) a = 1 ↔ h1.bi (M + 7) a = 1) : outS h2 M l v a n x ↔ outS h1 M l v a n x := by
  have e' : (h2.bi (M + 7) a ≠ 1) = (h1.bi (M + 7) a ≠ 1) := propext (not_congr e)
  unfold outS outC prec rdK endT inT
  rw [f.bi (show 1 ∉ _ by decide), f.bi (show 3 ∉ _ by decide), f.bi (show 4 ∉ _ by decide), f.bi (show 16 ∉ _ by decide), f.bi (show 17 ∉ _ by decide), f.bi (show 18 ∉ _ by decide), f.bi (show 19 ∉ _ by decide), f.bi (show 20 ∉ _ by decide), e']
theorem outS_safe {a n : Nat} (e : h2.bi (M + 7) a = 1) : outS h2 M l v a n 0 := Or.inl ⟨rfl, fun u _ _ z => by
  obtain ⟨_, _, _, _, i, _, _, z2⟩ := z.2.2.2
  exact z2.1 e⟩
theorem cpl_endG (q : Cpl h M b c w l v k r clk G fv V ts D ac cm ct rs R) {i j s : Nat} (hi : i < b) (ai : h.bi (M + 1) (i + 1) = 1) (hj : ac[j]? = some i) (nd : ac.Nodup) (hs : s = 3 ∨ s = 4 ∨ s = 5) (f1 : RfO [1, 6] [] M h h1) (e1 : ∀ u, h1.bi (M + 1) u = if u = i + 1 then nI s else h.bi (M + 1) u) (e6 : ∀ u, h1.bi (M + 6) u = if u = i + 1 then h.gi 1313 M else h.bi (M + 6) u) (jd : JdR h1 M b l v (b + 1) h2) : Cpl h2 M b c w l v k r clk G fv V ts (endD D i (nI s) (ac.eraseIdx j)) (ac.eraseIdx j) cm (endC ct s) rs R := by
  obtain ⟨q1, q2, q3, q4, q5, q6, q7, q8, q9, q10, q11, q12, q13, q14, q15, q16⟩ := q
  have hb := q1.2.2.2.2.2.2.2.1
  have ns : nI s ≠ 1 ∧ nI s ≠ 2 := by rcases hs with z | z | z <;> rw [z] <;> decide
  have e1n : ∀ u, u ≠ i + 1 → h1.bi (M + 1) u = h.bi (M + 1) u := fun u z => by rw [e1, if_neg z]
  have f2 := jd.1
  have f : RfO [1, 6, 7] [] M h h2 := (f1.mono (by decide) (fun _ z => z)).tr (f2.mono (by decide) (fun _ z => z))
  have g1 : h2.bi (M + 1) = h1.bi (M + 1) := f2.bi (by decide)
  have g6 : h2.bi (M + 6) = h1.bi (M + 6) := f2.bi (by decide)
  have t1 : h1.bi (M + 1) (i + 1) = nI s := by rw [e1, if_pos rfl]
  have mo := fun x => mem_out (x := x) nd hj
  have no : i ∉ ac.eraseIdx j := fun z => ((mo i).mp z).2 rfl
  have rwi : (D i).1 1005 = 0 ↔ h.bi (M + 2) (i + 1) = 0 := by
    rw [(q4 i hi).2.2.1]
    by_cases z : h.bi (M + 2) (i + 1) = 0
    · rw [if_pos z]; exact ⟨fun _ => z, fun _ => rfl⟩
    · rw [if_neg z]
      refine ⟨fun y => ?_, fun y => absurd y z⟩
      rcases (q5.2 (i + 1) (by omega) (by omega)).2.1 with x | x | x <;> rw [x] at y <;> exact absurd y (by decide)
  -- those that don't heed
  have stay : ∀ u, u < b → u ≠ i → ¬ (h.bi (M + 1) (u + 1) = 1 ∧ h.bi (M + 2) (u + 1) ≠ 0) → endD D i (nI s) (ac.eraseIdx j) u = D u ∧ h2.bi (M + 7) (u + 1) = h.bi (M + 7) (u + 1) := by
    intro u hu ne na
    refine ⟨?_, ?_⟩
    · rw [endD_j ne]
      by_cases z : (D i).1 1005 = 0 ∧ u ∈ ac.eraseIdx j
      · rw [if_pos z]
        have act := ((q7.1 u).mp ((mo u).mp z.2).1).2
        have ro : h.bi (M + 2) (u + 1) = 0 := Classical.not_not.mp (fun y => na ⟨act, y⟩)
        have k0 : (D u).1 1005 = 0 := by rw [(q4 u hu).2.2.1, if_pos ro]
        unfold heedF
        rw [if_pos k0]
      · rw [if_neg z]
    · rw [(jd.2 (u + 1)).2 (fun y => na ?_), f1.bi (by decide)]
      have a1 := y.2.2.1
      have a2 := y.2.2.2.1
      rw [e1n (u + 1) (by omega)] at a1
      rw [f1.bi (by decide)] at a2
      exact ⟨a1, a2⟩
  have seven : h2.bi (M + 7) (i + 1) = h.bi (M + 7) (i + 1) := by
    rw [(jd.2 (i + 1)).2 (fun y => ns.1 (by rw [← t1]; exact y.2.2.1)), f1.bi (by decide)]
  -- those that do
  have heed : ∀ u, u < b → u ≠ i → h.bi (M + 1) (u + 1) = 1 → h.bi (M + 2) (u + 1) ≠ 0 → ∃ F', endD D i (nI s) (ac.eraseIdx j) u = (F', (D u).2) ∧ F' 1005 = h2.bi (M + 7) (u + 1) + 1 ∧ (h2.bi (M + 7) (u + 1) = 0 ∨ h2.bi (M + 7) (u + 1) = 1 ∨ h2.bi (M + 7) (u + 1) = 2) ∧ F' 1010 = nI (rwN h1 M (u + 1)) ∧ (h2.bi (M + 7) (u + 1) = 0 → jdV h1 M b l v (u + 1) 0) ∧ (h2.bi (M + 7) (u + 1) = 1 → rwN h1 M (u + 1) = 0) ∧ outS h2 M l v (u + 1) (b + 1) (F' 1008) ∧ ∀ f, f ≠ 1005 → f ≠ 1008 → f ≠ 1010 → F' f = (D u).1 f := by
    intro u hu ne a1 a2
    obtain ⟨w1, w2, w3, w4, w5, w6, w7⟩ := q4 u hu
    obtain ⟨s1, s2, s3⟩ := q16.2.2 u hu a1 a2
    have s1 : (D u).1 1010 = nI (rwN h M (u + 1)) := s1
    have r7 := (q5.2 (u + 1) (by omega) (by omega)).2.1
    have e7 : h1.bi (M + 7) = h.bi (M + 7) := f1.bi (by decide)
    have e2 : h1.bi (M + 2) = h.bi (M + 2) := f1.bi (by decide)
    have nn : ∀ n, rwN h M n = rwN h1 M n + (if h.bi (M + 2) (i + 1) = 0 ∧ i + 1 < n then 1 else 0) := by
      intro n
      unfold rwN
      by_cases z : h.bi (M + 2) (i + 1) = 0
      · have := cntQ_out (P := fun u => 1 ≤ u ∧ h.bi (M + 2) u = 0 ∧ h.bi (M + 1) u = 1) (Q := fun u => 1 ≤ u ∧ h1.bi (M + 2) u = 0 ∧ h1.bi (M + 1) u = 1) (t := i + 1) ⟨by omega, z, ai⟩ (fun y => ns.1 (by rw [← t1]; exact y.2.2)) (fun x hx => by rw [e2, e1n x hx]) n
        rw [this]
        by_cases y : i + 1 < n
        · rw [if_pos y, if_pos ⟨z, y⟩]
        · rw [if_neg y, if_neg (fun x => y x.2)]
      · rw [if_neg (fun x => z x.1), Nat.add_zero]
        refine cntQ_same (fun x _ => ?_)
        by_cases y : x = i + 1
        · rw [y, e2]
          exact ⟨fun x => absurd x.2.1 z, fun x => absurd x.2.1 z⟩
        · rw [e2, e1n x y]
    have na := nn (u + 1)
    have nle : rwN h1 M (u + 1) ≤ u + 1 := cntQ_le _ _
    have bdn : h.bi (M + 7) (u + 1) = 0 → ¬ bdS h1 M b l v (u + 1) (u + 1) := by
      intro z
      have j0 := s2 z
      have nb : ¬ bdS h M b l v (u + 1) (u + 1) := by
        rcases j0 with y | y | y
        · exact absurd y.1 (by decide)
        · exact y.2.1
        · exact y.2.1
      rintro ⟨x, x1, x2, x3, x4, x5, y, y1, y2, y3⟩
      have xt : x ≠ i + 1 := fun e => ns.2 (by rw [e, t1] at x4; exact x4)
      refine nb ⟨x, x1, x2, ?_, ?_, ?_, y, (outS_how f1 e1n (by rw [ai]; decide) (by rw [t1]; exact ns.2) xt).mp y1, y2, ?_⟩
      · rw [← e2]; exact x3
      · rw [← e1n x xt]; exact x4
      · rw [f1.bi (by decide), e6, if_neg xt] at x5; exact x5
      · rw [f1.bi (by decide)] at y3; exact y3
    have ho := heed_ok (h1 := h1) (h2 := h2) (M := M) (b := b) (l := l) (v := v) (F := (D u).1) (E := va_up (D i).1 1006 (nI s)) (t := i + 1) (u := u + 1) (na := rwN h1 M (u + 1)) (by omega) (by omega) (by omega) hb (by omega) (by rw [e1n (u + 1) (by omega)]; exact a1) (by rw [e2]; exact a2) w1 (by rw [va_up_ne _ _ (by decide)]; exact (q4 i hi).1) (by rw [w3, if_neg a2, e7]) (by rw [e7]; exact r7) (h.bi (M + 2) (i + 1) = 0) ?_ (by omega) ?_ ?_ wtS_n ?_ jd
    · obtain ⟨F', b1, b2, b3, b4, b5, b6, b7, b8, b9⟩ := ho
      refine ⟨F', ?_, b2, b3, b4, b5, b6, ?_, b9⟩
      · rw [endD_j ne]
        have inA : u ∈ ac.eraseIdx j := (mo u).mpr ⟨(q7.1 u).mpr ⟨hu, a1⟩, ne⟩
        rcases b1 with ⟨z, y⟩ | ⟨z, y⟩
        · rw [if_pos ⟨rwi.mpr z, inA⟩, y]
        · rw [if_neg (fun x => z (rwi.mp x.1)), y]
      · have o1 : outS h1 M l v (u + 1) (b + 1) ((D u).1 1008) := (outS_how f1 e1n (by rw [ai]; decide) (by rw [t1]; exact ns.2) (by omega)).mpr (q8 u hu (Or.inl a1))
        by_cases z : h2.bi (M + 7) (u + 1) = h1.bi (M + 7) (u + 1)
        · rw [b7 z]
          exact (outS_sf f2 (by rw [z])).mpr o1
        · obtain ⟨c1, c2, c3⟩ := b8 z
          by_cases y : h2.bi (M + 7) (u + 1) = 1
          · rw [c2 y]
            exact outS_safe y
          · rw [c3 y]
            exact (outS_sf f2 ⟨fun x => absurd x y, fun x => absurd (c1.symm.trans x) (by decide)⟩).mpr o1
    · by_cases z : h.bi (M + 2) (i + 1) = 0 ∧ i + 1 < u + 1
      · rw [if_pos z] at na
        exact Or.inl ⟨z.1, z.2, by rw [s1, na]⟩
      · rw [if_neg z] at na
        exact Or.inr ⟨z, by rw [s1, na]; rfl⟩
    · intro z
      rw [e7] at z
      have nw := s3 z
      rw [wtS_n] at nw
      have n0 : rwN h M (u + 1) = 0 := Classical.not_not.mp nw
      by_cases y : h.bi (M + 2) (i + 1) = 0 ∧ i + 1 < u + 1
      · rw [if_pos y] at na; omega
      · rw [if_neg y] at na
        exact ⟨y, by omega⟩
    · intro z
      rw [e7] at z
      exact ⟨fun y => absurd y (bdn z), fun y => absurd y.2.2.1 (by rw [va_up_self]; exact ns.2)⟩
    · intro z y
      rw [e7] at z
      rw [if_neg y] at na
      have j0 := s2 z
      have wt : wtS h M (u + 1) := by
        rcases j0 with x | x | x
        · exact absurd x.1 (by decide)
        · exact x.2.2
        · exact absurd x.1 (by decide)
      rw [wtS_n] at wt
      omega
  have eR : ∀ u, u < b → (endD D i (nI s) (ac.eraseIdx j) u).2 = (D u).2 := by
    intro u hu
    by_cases e : u = i
    · rw [e, endD_i no]
    · rw [endD_j e]
  have e3 : h2.bi (M + 3) = h.bi (M + 3) := f.bi (by decide)
  have e2 : h2.bi (M + 2) = h.bi (M + 2) := f.bi (by decide)
  have e4 : h2.bi (M + 4) = h.bi (M + 4) := f.bi (by decide)
  have e8 : h2.bi (M + 8) = h.bi (M + 8) := f.bi (by decide)
  have e9 : h2.bi (M + 9) = h.bi (M + 9) := f.bi (by decide)
  have how : ∀ u, u ≠ i + 1 → h2.bi (M + 1) u = h.bi (M + 1) u := fun u z => by rw [g1]; exact e1n u z
  have howt : h2.bi (M + 1) (i + 1) = nI s := by rw [g1]; exact t1
  refine ⟨f.rn q1 (fun _ _ z => nomatch z), q2, q3, fun u hu => ?_, ⟨fun t t' => by rw [e3]; exact q5.1 t t', fun t u1 u2 => ?_⟩, ⟨fun t u1 u2 => ?_, fun x h1 h2 => by rw [f.bi (by decide)]; exact q6.2.1 x h1 h2, fun x hx => by rw [f.bi (by decide)]; exact q6.2.2.1 x hx, fun x h1 h2 => by rw [f.bi (by decide)]; exact q6.2.2.2.1 x h1 h2, fun j hj => by rw [f.bi (by decide)]; exact q6.2.2.2.2 j hj⟩, ⟨fun u => ?_, fun m u hm => ?_, fun u hu a => ?_⟩, fun u hu a => ?_, fun u hu => ?_, ?_, ⟨q11.1, q11.2.1.con f (by decide) (by decide), fun x y hy => ?_⟩, ?_, fun x x1 x2 => ?_, Whq.ro f (fun _ _ z => nomatch z) q14, Roq.ro f (by decide) (fun _ _ z => nomatch z) q15, ?_, fun t u1 u2 => ?_, fun u hu a1 a2 => ?_⟩
  · obtain ⟨w1, w2, w3, w4, w5, w6, w7⟩ := q4 u hu
    have eP : tP (endD D i (nI s) (ac.eraseIdx j) u) = tP (D u) := by
      show (endD D i (nI s) (ac.eraseIdx j) u).2.2.2.2.1 = _
      rw [eR u hu]
    rw [eP, e3, e2, e4, e8, e9]
    by_cases e : u = i
    · rw [e] at w1 w2 w3 w5 w6 w7 ⊢
      rw [endD_i no, seven, howt]
      exact ⟨w1, w2, w3, rfl, w5, w6, w7⟩
    · by_cases act : h.bi (M + 1) (u + 1) = 1 ∧ h.bi (M + 2) (u + 1) ≠ 0
      · obtain ⟨F', b1, b2, b3, b4, b5, b6, b7, b8⟩ := heed u hu e act.1 act.2
        rw [b1]
        refine ⟨(b8 1000 (by decide) (by decide) (by decide)).trans w1, (b8 1001 (by decide) (by decide) (by decide)).trans w2, ?_, ?_, (b8 1007 (by decide) (by decide) (by decide)).trans w5, (b8 1009 (by decide) (by decide) (by decide)).trans w6, w7⟩
        · rw [if_neg act.2]; exact b2
        · rw [how (u + 1) (by omega)]
          exact (b8 1006 (by decide) (by decide) (by decide)).trans w4
      · obtain ⟨b1, b2⟩ := stay u hu e act
        rw [b1, b2, how (u + 1) (by omega)]
        exact ⟨w1, w2, w3, w4, w5, w6, w7⟩
  · obtain ⟨r1, r2, r3, r4, s', r5, r6, r7⟩ := q5.2 t u1 u2
    rw [e2, e3, e4, e8]
    obtain ⟨t', rfl⟩ : ∃ t', t = t' + 1 := ⟨t - 1, by omega⟩
    by_cases e : t' = i
    · rw [e] at r1 r2 r3 r4 r5 r7 ⊢
      rw [seven, howt]
      refine ⟨r1, r2, r3, r4, s', r5, r6, Or.inl ⟨?_, ?_⟩⟩
      · rcases hs with z | z | z <;> rw [z]
        · exact Or.inr (Or.inl rfl)
        · exact Or.inr (Or.inr (Or.inl rfl))
        · exact Or.inr (Or.inr (Or.inr rfl))
      · rcases r7 with z | z
        · exact z.2
        · exact absurd (ai.symm.trans z.1) (by decide)
    · rw [how (t' + 1) (by omega)]
      by_cases act : h.bi (M + 1) (t' + 1) = 1 ∧ h.bi (M + 2) (t' + 1) ≠ 0
      · obtain ⟨F', b1, b2, b3, _⟩ := heed t' (by omega) e act.1 act.2
        exact ⟨r1, b3, fun z => absurd z act.2, r4, s', r5, r6, r7⟩
      · rw [(stay t' (by omega) e act).2]
        exact ⟨r1, r2, r3, r4, s', r5, r6, r7⟩
  · rw [e4, e8, e9, (jd.2 t).2 (fun y => by omega), f1.bi (by decide)]
    exact q6.1 t u1 u2
  · rw [mo, q7.1]
    constructor
    · rintro ⟨⟨z1, z2⟩, z3⟩
      exact ⟨z1, by rw [how (u + 1) (by omega)]; exact z2⟩
    · rintro ⟨z1, z2⟩
      have ne : u ≠ i := fun e => ns.1 (by rw [e, howt] at z2; exact z2)
      rw [how (u + 1) (by omega)] at z2
      exact ⟨⟨z1, z2⟩, ne⟩
  · obtain ⟨z1, z2, z3⟩ := q7.2.1 m u hm
    have ne : u ≠ i := fun e => by rw [e, ai] at z2; exact absurd z2 (by decide)
    exact ⟨z1, by rw [how (u + 1) (by omega)]; exact z2, by rw [e4]; exact z3⟩
  · have ne : u ≠ i := fun e => ns.2 (by rw [e, howt] at a; exact a)
    rw [how (u + 1) (by omega)] at a
    exact q7.2.2 u hu a
  · have ne : u ≠ i := fun e => by
      rw [e, howt] at a
      exact a.elim ns.1 ns.2
    rw [how (u + 1) (by omega)] at a
    by_cases act : h.bi (M + 1) (u + 1) = 1 ∧ h.bi (M + 2) (u + 1) ≠ 0
    · obtain ⟨F', b1, b2, b3, b4, b5, b6, b7, b8⟩ := heed u hu ne act.1 act.2
      rw [b1]
      exact b7
    · obtain ⟨b1, b2⟩ := stay u hu ne act
      rw [b1]
      refine (outS_sf f2 (by rw [b2, f1.bi (by decide)])).mpr ((outS_how f1 e1n (by rw [ai]; decide) (by rw [t1]; exact ns.2) (by omega)).mpr (q8 u hu a))
  · have := Owq.ro f (by decide) q9 u hu
    show OwnR h2 M w (u + 1) (endD D i (nI s) (ac.eraseIdx j) u).2.2.2.1 (endD D i (nI s) (ac.eraseIdx j) u).2.2.2.2.1 (endD D i (nI s) (ac.eraseIdx j) u).2.2.2.2.2.1
    rw [eR u hu]
    exact this
  · refine (Loq.ro f (by decide) q10).upd (fun u hu => ?_)
    show (endD D i (nI s) (ac.eraseIdx j) u).2.2.2.2.2.2.1 = _
    rw [eR u hu]
  · obtain ⟨a1, a2, a3, a4, a5, ⟨u, u1, u2, u3, u4⟩, a7⟩ := q11.2.2 x y hy
    have ne : u ≠ i + 1 := fun e => by rw [e, ai] at u4; exact absurd u4 (by decide)
    rw [f.bi (show 19 ∉ _ by decide), vMo.con f (by decide) (by decide), f.bi (show 20 ∉ _ by decide), f.bi (show 22 ∉ _ by decide), f.bw (show 21 ∉ _ by decide), f.bi (show 12 ∉ _ by decide)]
    exact ⟨a1, a2, a3, a4, a5, ⟨u, u1, u2, u3, by rw [how u ne]; exact u4⟩, a7⟩
  · refine ⟨fun u hu => ?_, (Caq.ro f (by decide) q12).2⟩
    show CalQ _ _ (endD D i (nI s) (ac.eraseIdx j) u).2.2.2.2.2.2.2 (endD D i (nI s) (ac.eraseIdx j) u).2.2.2.2.1.length
    rw [eR u hu]
    exact (Caq.ro f (by decide) q12).1 u hu
  · have cs := q13 x x1 x2
    have c1 := cntQ_out (P := fun u => 1 ≤ u ∧ h.bi (M + 1) u = nI 1) (Q := fun u => 1 ≤ u ∧ h2.bi (M + 1) u = nI 1) (t := i + 1) ⟨by omega, ai⟩ (fun y => ns.1 (by rw [← howt]; exact y.2)) (fun u hu => by rw [how u hu]) (b + 1)
    have c2 := cntQ_out (P := fun u => 1 ≤ u ∧ h2.bi (M + 1) u = nI s) (Q := fun u => 1 ≤ u ∧ h.bi (M + 1) u = nI s) (t := i + 1) ⟨by omega, howt⟩ (fun y => ns.1 (by rw [← ai]; exact y.2.symm)) (fun u hu => by rw [how u hu]) (b + 1)
    rw [if_pos (by omega)] at c1 c2
    have k1 := q13 1 (Nat.le_refl _) (by omega)
    unfold endC
    by_cases z : x = s
    · rw [z, va_up_self, va_up_ne _ _ (show s ≠ 1 by omega), q13 s (by omega) (by omega), c2, ni_inc]
    · rw [va_up_ne _ _ z]
      by_cases y : x = 1
      · rw [y, va_up_self, k1, c1]
        exact ni_pred _
      · rw [va_up_ne _ _ y, cs]
        congr 1
        refine cntQ_same (fun u _ => ?_)
        by_cases e : u = i + 1
        · rw [e, howt, ai]
          refine ⟨fun p => absurd ((ni_inj (by omega) (by omega)).mp p.2) (fun e => z e.symm), fun p => absurd ((ni_inj (a := 1) (by omega) (by omega)).mp p.2) (fun e => y e.symm)⟩
        · rw [how u e]
  · rw [f.gi (fun z => nomatch z)]; exact q16.1
  · obtain ⟨⟨y, y1, y2⟩, y3⟩ := q16.2.1 t u1 u2
    rw [f.bi (show 5 ∉ _ by decide), g6, e6]
    refine ⟨⟨y, y1, y2⟩, fun z => ?_⟩
    by_cases e : t = i + 1
    · rw [if_pos e, q16.1]
      exact ⟨clk, rfl, Nat.le_refl _⟩
    · rw [if_neg e]
      rw [how t e] at z
      exact y3 z
  · have ne : u ≠ i := fun e => ns.1 (by rw [e, howt] at a1; exact a1)
    rw [how (u + 1) (by omega)] at a1
    rw [e2] at a2
    obtain ⟨F', b1, b2, b3, b4, b5, b6, b7, b8⟩ := heed u hu ne a1 a2
    rw [b1]
    have rn2 : rwN h2 M (u + 1) = rwN h1 M (u + 1) := by
      unfold rwN
      rw [g1, f2.bi (by decide)]
    refine ⟨?_, fun z => ?_, fun z => ?_⟩
    · show F' 1010 = nI (rwN h2 M (u + 1))
      rw [rn2]; exact b4
    · exact (jdV.con f2 (by decide) (fun a ha => (jd.2 a).2 (fun y => y.2.2.2.1 ha))).mpr (b5 z)
    · rw [wtS_n, rn2]
      exact fun y => y (b6 z)
theorem cpl_end (q : Cpl h M b c w l v k r clk G fv V ts D ac cm ct rs R) {i j s : Nat} (hi : i < b) (ai : h.bi (M + 1) (i + 1) = 1) (hj : ac[j]? = some i) (nd : ac.Nodup) (hs : s = 3 ∨ s = 4 ∨ s = 5) (jd : JdR ((h.sbi (M + 1) (i + 1) (nI s)).sbi (M + 6) (i + 1) (h.gi 1313 M)) M b l v (b + 1) h2) : Cpl h2 M b c w l v k r clk G fv V ts (endD D i (nI s) (ac.eraseIdx j)) (ac.eraseIdx j) cm (endC ct s) rs R := by
  refine cpl_endG q hi ai hj nd hs ((RfO.sbi (k := 1) (by decide) _ _).tr (RfO.sbi (k := 6) (by decide) _ _)) (fun u => ?_) (fun u => ?_) jd
  · rw [bi_oth (by omega), bi_at]
  · rw [bi_at, bi_oth (by omega)]
end ENDC
