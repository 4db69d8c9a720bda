/-! a commit that goes through: both sides keep step -/
section DON2
variable {h hc h1 h2 h' : Hp} {M b c w l v k r clk y : Nat} {G G' : Nat → Int32} {fv : Int64} {V : List Kv} {ts : List Nat} {D D' : Nat → TD} {ac cm : List Nat} {ct rs : Nat → Int32} {R : List (Int32 × Int64)}
theorem cpl_done (q : Cpl h M b c w l v k r clk G fv V ts D ac cm ct rs R) (hclk : clk < 100000) {i j : Nat} (hi : i < b) (ai : h.bi (M + 1) (i + 1) = 1) (hj : ac[j]? = some i) (nd : ac.Nodup) (hcl : c < 512) (hy : y ≤ 512) (ch : CmH h M c w v (i + 1) y hc) {As : Shf} (hs : Srt As) (hn : ∀ y ∈ As, y.2 ≠ []) (bk : BkL As (tL (D i))) (yl : y = v + As.length) (vn : ∀ (mo : Int32) (x : Nat) (z : Kv), (inst As mo (nI (i + 1)))[x]? = some z → z.1 = hc.bi (M + 19) (v + x) ∧ z.2.1 = mo ∧ z.2.2.1 = nI (i + 1) ∧ hc.bi (M + 20) (v + x) = nI (i + 1) ∧ z.2.2.2.1 = hc.bi (M + 22) (v + x) ∧ z.2.2.2.2 = hc.bw (M + 21) (v + x) ∧ owns h M w (i + 1) z.1) {ot : List Nat} (go : ∀ j, j ∈ ot ↔ (j < b ∧ prec hc M l y (j + 1) (i + 1))) {s4 : Hp} (pr : PrcR hc M l y (i + 1) (b + 1) s4) (jd : JdR (s4.sgi 1312 M (nI (c + 1))) M b l y (b + 1) h2) : Cpl h2 M b (c + 1) w l y k r clk G fv (V ++ inst As (nI (c + 1)) ((D i).1 1000)) ts (endD (nrD (va_up D i (va_up (D i).1 1007 (nI (c + 1)), (D i).2)) i ot) i (nI 2) (ac.eraseIdx j)) (ac.eraseIdx j) (cm ++ [i]) (endC ct 2) rs R := by
  have q' := q
  obtain ⟨q1, q2, q3, q4, q5, q6, q7, q8, q9, q10, q11, q12, q13, q14, q15, q16⟩ := q'
  have hb := q1.2.2.2.2.2.2.2.1
  have c512 := q1.2.2.2.2.2.2.2.2.1
  have np : ¬ prec hc M l y (i + 1) (i + 1) := fun z => z.1 rfl
  have nit : i ∉ ot := fun z => np ((go i).mp z).2
  -- the heap that is judged
  obtain ⟨h1, eh1⟩ : ∃ h1, h1 = s4.sgi 1312 M (nI (c + 1)) := ⟨_, rfl⟩
  rw [← eh1] at jd
  have fc1 : RfO [8] [1312] M hc h1 := by
    rw [eh1]
    exact (pr.1.mono (fun _ z => z) (fun _ z => nomatch z)).tr (RfO.sgi (by decide) _)
  have f1 : RfO [1, 4, 6, 8, 19, 20, 21, 22, 35] [1312, 1328, 1353] M h h1 := (ch.1.mono (by decide) (by decide)).tr (fc1.mono (by decide) (by decide))
  have f2 := jd.1
  have f : RfO [1, 4, 6, 7, 8, 19, 20, 21, 22, 35] [1312, 1328, 1353] M h h2 := (f1.mono (by decide) (fun _ z => z)).tr (f2.mono (by decide) (fun _ z => nomatch z))
  have e1 : ∀ u, h1.bi (M + 1) u = if u = i + 1 then 2 else h.bi (M + 1) u := fun u => by rw [fc1.bi (by decide)]; exact ch.2.1 u
  have e4 : ∀ u, h1.bi (M + 4) u = if u = i + 1 then nI (c + 1) else h.bi (M + 4) u := fun u => by rw [fc1.bi (by decide)]; exact ch.2.2.1 u
  have e6 : ∀ u, h1.bi (M + 6) u = if u = i + 1 then h.gi 1313 M else h.bi (M + 6) u := fun u => by rw [fc1.bi (by decide)]; exact ch.2.2.2.1 u
  have b8 : h1.bi (M + 8) = s4.bi (M + 8) := by rw [eh1, pj_sgi_bi]
  have e8 : ∀ u, u ≠ i + 1 → h1.bi (M + 8) u = h.bi (M + 8) u := fun u hu => by
    rw [b8, pr.2.1 u hu, ch.1.bi (by decide)]
  have e8t : h1.bi (M + 8) (i + 1) = if ot = [] then h.bi (M + 8) (i + 1) else 1 := by
    rw [b8]
    have p2 := pr.2.2
    rw [ch.1.bi (show 8 ∉ _ by decide)] at p2
    have ex : (∃ a, 1 ≤ a ∧ a < b + 1 ∧ prec hc M l y a (i + 1)) ↔ ot ≠ [] := by
      constructor
      · rintro ⟨a, a1, a2, a3⟩ z
        obtain ⟨a', rfl⟩ : ∃ a', a = a' + 1 := ⟨a - 1, by omega⟩
        have := (go a').mpr ⟨by omega, a3⟩
        rw [z] at this
        exact nomatch this
      · intro z
        obtain ⟨a, ha⟩ := List.exists_mem_of_ne_nil _ z
        have := (go a).mp ha
        exact ⟨a + 1, by omega, by omega, this.2⟩
    rw [ex] at p2
    by_cases z : ot = []
    · rw [if_pos z]
      rcases p2 with ⟨p3, p4⟩ | ⟨p3, p4⟩
      · rw [p3]
        exact (p4.resolve_right (fun u => u z)).symm
      · rw [p3]
        rcases (q5.2 (i + 1) (by omega) (by omega)).2.2.2.1 with u | u
        · exact u.symm
        · exact absurd (Or.inl u) p4
    · rw [if_neg z]
      rcases p2 with ⟨p3, p4⟩ | ⟨p3, p4⟩
      · exact p3
      · exact absurd (Or.inr z) p4
  have e1n : ∀ u, u ≠ i + 1 → h1.bi (M + 1) u = h.bi (M + 1) u := fun u z => by rw [e1, if_neg z]
  have t1 : h1.bi (M + 1) (i + 1) = 2 := by rw [e1, if_pos rfl]
  have b7 : h1.bi (M + 7) = h.bi (M + 7) := f1.bi (by decide)
  have b2 : h1.bi (M + 2) = h.bi (M + 2) := f1.bi (by decide)
  have g1 : h2.bi (M + 1) = h1.bi (M + 1) := f2.bi (by decide)
  have g6 : h2.bi (M + 6) = h1.bi (M + 6) := f2.bi (by decide)
  have g4 : h2.bi (M + 4) = h1.bi (M + 4) := f2.bi (by decide)
  have g8 : h2.bi (M + 8) = h1.bi (M + 8) := f2.bi (by decide)
  have how : ∀ u, u ≠ i + 1 → h2.bi (M + 1) u = h.bi (M + 1) u := fun u z => by rw [g1]; exact e1n u z
  have howt : h2.bi (M + 1) (i + 1) = 2 := by rw [g1]; exact t1
  have mo := fun x => mem_out (x := x) nd hj
  have no : i ∉ ac.eraseIdx j := fun z => ((mo i).mp z).2 rfl
  -- the class once readers are noted
  obtain ⟨D1, eD1⟩ : ∃ D1, D1 = nrD (va_up D i (va_up (D i).1 1007 (nI (c + 1)), (D i).2)) i ot := ⟨_, rfl⟩
  rw [← eD1]
  have nr := nrD_at i ot (va_up D i (va_up (D i).1 1007 (nI (c + 1)), (D i).2)) nit
  rw [← eD1, va_up_self] at nr
  have m7 : ((va_up (D i).1 1007 (nI (c + 1)), (D i).2) : TD).1 1007 = nI (c + 1) := by
    show va_up (D i).1 1007 (nI (c + 1)) 1007 = _
    rw [va_up_self]
  have D1i : (D1 i).2 = (D i).2 ∧ (D1 i).1 1007 = nI (c + 1) ∧ (D1 i).1 1009 = (if ot = [] then (D i).1 1009 else 1) ∧ ∀ f, f ≠ 1007 → f ≠ 1009 → (D1 i).1 f = (D i).1 f := by
    rw [nr.2]
    by_cases z : ot = []
    · rw [if_pos z, if_pos z]
      refine ⟨rfl, m7, ?_, fun f f7 f9 => ?_⟩
      · show va_up (D i).1 1007 (nI (c + 1)) 1009 = _
        rw [va_up_ne _ _ (by decide)]
      · show va_up (D i).1 1007 (nI (c + 1)) f = _
        rw [va_up_ne _ _ f7]
    · rw [if_neg z, if_neg z]
      refine ⟨rfl, ?_, ?_, fun f f7 f9 => ?_⟩
      · show va_up (va_up (D i).1 1007 (nI (c + 1))) 1009 1 1007 = _
        rw [va_up_ne _ _ (by decide), va_up_self]
      · show va_up (va_up (D i).1 1007 (nI (c + 1))) 1009 1 1009 = _
        rw [va_up_self]
      · show va_up (va_up (D i).1 1007 (nI (c + 1))) 1009 1 f = _
        rw [va_up_ne _ _ f9, va_up_ne _ _ f7]
  have D1j : ∀ u, u ≠ i → D1 u = if u ∈ ot ∧ (D u).1 1006 = 1 then (noteOutF (D u).1 (nI (c + 1)), (D u).2) else D u := by
    intro u hu
    have := nr.1 u hu
    rw [va_up_ne _ _ hu, m7] at this
    exact this
  have D1r : ∀ u, (D1 u).2 = (D u).2 := by
    intro u
    by_cases e : u = i
    · rw [e]; exact D1i.1
    · rw [D1j u e]
      by_cases z : u ∈ ot ∧ (D u).1 1006 = 1
      · rw [if_pos z]
      · rw [if_neg z]
  have D1f : ∀ u, u ≠ i → ∀ f, f ≠ 1008 → (D1 u).1 f = (D u).1 f := by
    intro u hu f hf
    rw [D1j u hu]
    by_cases z : u ∈ ot ∧ (D u).1 1006 = 1
    · rw [if_pos z]
      exact (noteOut_r _ _).2 f hf
    · rw [if_neg z]
  -- OUT in the heap that is judged
  have oc1 : ∀ a x, outS h1 M l y a (b + 1) x ↔ outS hc M l y a (b + 1) x := fun a x => outS.con fc1 (by decide) (by rw [fc1.bi (by decide)])
  have D1o : ∀ u, u < b → u ≠ i → (h.bi (M + 1) (u + 1) = 1 ∨ h.bi (M + 1) (u + 1) = 2) → outS h1 M l y (u + 1) (b + 1) ((D1 u).1 1008) := by
    intro u hu ne a
    rw [oc1]
    have o := q8 u hu a
    rw [D1j u ne]
    by_cases z : u ∈ ot ∧ (D u).1 1006 = 1
    · rw [if_pos z]
      have a1 : h.bi (M + 1) (u + 1) = 1 := by rw [← (q4 u hu).2.2.2.1]; exact z.2
      have := outS_act q hi ai ch hu a1 ((go u).mp z.1).2 o
      show outS hc M l y (u + 1) (b + 1) (noteOutF (D u).1 (nI (c + 1)) 1008)
      rw [(noteOut_r _ _).1]
      by_cases o0 : (D u).1 1008 = 0
      · rw [if_pos o0]
        rw [if_pos o0] at this
        exact this
      · rw [if_neg o0] at this ⊢
        rw [if_pos ?_]
        · exact this
        · rcases o with ⟨o1, _⟩ | ⟨x, x1, x2, x3, x4, _⟩
          · exact absurd o1 o0
          · obtain ⟨_, _, _, _, s, s1, s2, s3⟩ := q5.2 x x1 (by omega)
            rcases s3 with s3 | ⟨_, m, m1, _, m3⟩
            · rcases s3.1 with y | y | y | y <;> rw [x3.1] at y <;> exact absurd y (by decide)
            · rw [x4, m1, ni_le (by omega) (by omega)]; omega
    · rw [if_neg z]
      refine (outS_cm q hi ai ch hu a (fun a1 p => z ⟨(go u).mpr ⟨hu, p⟩, ?_⟩)).mpr o
      rw [(q4 u hu).2.2.2.1]; exact a1
  have oi : outS h1 M l y (i + 1) (b + 1) ((D i).1 1008) := by
    rw [oc1]
    exact (outS_cm q hi ai ch hi (Or.inl ai) (fun _ => np)).mpr (q8 i hi (Or.inl ai))
  have rwi : (D1 i).1 1005 = 0 ↔ h.bi (M + 2) (i + 1) = 0 := by
    rw [D1i.2.2.2 1005 (by decide) (by decide), (q4 i hi).2.2.1]
    by_cases z : h.bi (M + 2) (i + 1) = 0
    · rw [if_pos z]; exact ⟨fun _ => z, fun _ => rfl⟩
    · rw [if_neg z]
      refine ⟨fun y => ?_, fun y => absurd y z⟩
      rcases (q5.2 (i + 1) (by omega) (by omega)).2.1 with x | x | x <;> rw [x] at y <;> exact absurd y (by decide)
  -- those that don't heed
  have stay : ∀ u, u < b → u ≠ i → ¬ (h.bi (M + 1) (u + 1) = 1 ∧ h.bi (M + 2) (u + 1) ≠ 0) → endD D1 i (nI 2) (ac.eraseIdx j) u = D1 u ∧ h2.bi (M + 7) (u + 1) = h.bi (M + 7) (u + 1) := by
    intro u hu ne na
    refine ⟨?_, ?_⟩
    · rw [endD_j ne]
      by_cases z : (D1 i).1 1005 = 0 ∧ u ∈ ac.eraseIdx j
      · rw [if_pos z]
        have act := ((q7.1 u).mp ((mo u).mp z.2).1).2
        have ro : h.bi (M + 2) (u + 1) = 0 := Classical.not_not.mp (fun y => na ⟨act, y⟩)
        have k0 : (D1 u).1 1005 = 0 := by rw [D1f u ne 1005 (by decide), (q4 u hu).2.2.1, if_pos ro]
        unfold heedF
        rw [if_pos k0]
      · rw [if_neg z]
    · rw [(jd.2 (u + 1)).2 (fun y => na ?_), b7]
      have a1 := y.2.2.1
      have a2 := y.2.2.2.1
      rw [e1n (u + 1) (by omega)] at a1
      rw [b2] at a2
      exact ⟨a1, a2⟩
  have seven : h2.bi (M + 7) (i + 1) = h.bi (M + 7) (i + 1) := by
    rw [(jd.2 (i + 1)).2 (fun y => absurd (t1.symm.trans y.2.2.1) (by decide)), b7]
  -- those that do
  have heed : ∀ u, u < b → u ≠ i → h.bi (M + 1) (u + 1) = 1 → h.bi (M + 2) (u + 1) ≠ 0 → ∃ F', endD D1 i (nI 2) (ac.eraseIdx j) u = (F', (D u).2) ∧ F' 1005 = h2.bi (M + 7) (u + 1) + 1 ∧ (h2.bi (M + 7) (u + 1) = 0 ∨ h2.bi (M + 7) (u + 1) = 1 ∨ h2.bi (M + 7) (u + 1) = 2) ∧ F' 1010 = nI (rwN h1 M (u + 1)) ∧ (h2.bi (M + 7) (u + 1) = 0 → jdV h1 M b l y (u + 1) 0) ∧ (h2.bi (M + 7) (u + 1) = 1 → rwN h1 M (u + 1) = 0) ∧ outS h2 M l y (u + 1) (b + 1) (F' 1008) ∧ ∀ f, f ≠ 1005 → f ≠ 1008 → f ≠ 1010 → F' f = (D u).1 f := by
    intro u hu ne a1 a2
    obtain ⟨w1, w2, w3, w4, w5, w6, w7⟩ := q4 u hu
    obtain ⟨s1, s2, s3⟩ := q16.2.2 u hu a1 a2
    have s1 : (D u).1 1010 = nI (rwN h M (u + 1)) := s1
    have r7 := (q5.2 (u + 1) (by omega) (by omega)).2.1
    have nn : ∀ n, rwN h M n = rwN h1 M n + (if h.bi (M + 2) (i + 1) = 0 ∧ i + 1 < n then 1 else 0) := by
      intro n
      unfold rwN
      by_cases z : h.bi (M + 2) (i + 1) = 0
      · have := cntQ_out (P := fun u => 1 ≤ u ∧ h.bi (M + 2) u = 0 ∧ h.bi (M + 1) u = 1) (Q := fun u => 1 ≤ u ∧ h1.bi (M + 2) u = 0 ∧ h1.bi (M + 1) u = 1) (t := i + 1) ⟨by omega, z, ai⟩ (fun y => absurd (t1.symm.trans y.2.2) (by decide)) (fun x hx => by rw [b2, e1n x hx]) n
        rw [this]
        by_cases y : i + 1 < n
        · rw [if_pos y, if_pos ⟨z, y⟩]
        · rw [if_neg y, if_neg (fun x => y x.2)]
      · rw [if_neg (fun x => z x.1), Nat.add_zero]
        refine cntQ_same (fun x _ => ?_)
        by_cases y : x = i + 1
        · rw [y, b2]
          exact ⟨fun x => absurd x.2.1 z, fun x => absurd x.2.1 z⟩
        · rw [b2, e1n x y]
    have na := nn (u + 1)
    have nle : rwN h1 M (u + 1) ≤ u + 1 := cntQ_le _ _
    have b3 : h1.bi (M + 3) = h.bi (M + 3) := f1.bi (by decide)
    have b5 : h1.bi (M + 5) = h.bi (M + 5) := f1.bi (by decide)
    have bdq : h.bi (M + 7) (u + 1) = 0 → (bdS h1 M b l y (u + 1) (u + 1) ↔ (h.bi (M + 2) (i + 1) = 0 ∧ i + 1 < u + 1 ∧ ¬ (D i).1 1008 = 0 ∧ ¬ (D u).1 1001 < (D i).1 1008)) := by
      intro z
      have j0 := s2 z
      have nb : ¬ bdS h M b l v (u + 1) (u + 1) := by
        rcases j0 with y | y | y
        · exact absurd y.1 (by decide)
        · exact y.2.1
        · exact y.2.1
      constructor
      · rintro ⟨x, x1, x2, x3, x4, x5, o, y1, y2, y3⟩
        by_cases xt : x = i + 1
        · rw [xt] at x2 x3 y1
          rw [b2] at x3
          have oe : o = (D i).1 1008 := y1.uniq oi
          rw [oe] at y2 y3
          rw [b3, ← w2] at y3
          refine ⟨x3, x2, y2, ?_⟩
          rw [Int32.lt_iff_toInt_lt]
          rw [Int32.le_iff_toInt_le] at y3
          omega
        · exfalso
          rw [e1n x xt] at x4
          obtain ⟨x', rfl⟩ : ∃ x', x = x' + 1 := ⟨x - 1, by omega⟩
          refine nb ⟨x' + 1, x1, x2, by rw [← b2]; exact x3, x4, ?_, o, ?_, y2, ?_⟩
          · rw [b5, e6, if_neg xt] at x5; exact x5
          · rw [oc1] at y1
            exact (outS_cm q hi ai ch (by omega) (Or.inr x4) (fun y => absurd (x4.symm.trans y) (by decide))).mp y1
          · rw [b3] at y3; exact y3
      · rintro ⟨x1, x2, x3, x4⟩
        refine ⟨i + 1, by omega, x2, by rw [b2]; exact x1, t1, ?_, (D i).1 1008, oi, x3, ?_⟩
        · rw [b5, e6, if_pos rfl, q16.1]
          obtain ⟨⟨x, p1, p2⟩, _⟩ := q16.2.1 (u + 1) (by omega) (by omega)
          rw [p1, ni_le (by omega) (by omega)]
          exact p2
        · rw [b3, ← w2]
          rw [Int32.lt_iff_toInt_lt] at x4
          rw [Int32.le_iff_toInt_le]
          omega
    have ho := heed_ok (h1 := h1) (h2 := h2) (M := M) (b := b) (l := l) (v := y) (F := (D1 u).1) (E := va_up (D1 i).1 1006 (nI 2)) (t := i + 1) (u := u + 1) (na := rwN h1 M (u + 1)) (by omega) (by omega) (by omega) hb (by omega) (by rw [e1n (u + 1) (by omega)]; exact a1) (by rw [b2]; exact a2) (by rw [D1f u ne 1000 (by decide)]; exact w1) (by rw [va_up_ne _ _ (by decide), D1i.2.2.2 1000 (by decide) (by decide)]; exact (q4 i hi).1) (by rw [D1f u ne 1005 (by decide), w3, if_neg a2, b7]) (by rw [b7]; exact r7) (h.bi (M + 2) (i + 1) = 0) ?_ (by omega) ?_ ?_ wtS_n ?_ jd
    · obtain ⟨F', c1, c2, c3, c4, c5, c6, c7, c8, c9⟩ := ho
      refine ⟨F', ?_, c2, c3, c4, c5, c6, ?_, fun f f5 f8 f10 => by rw [c9 f f5 f8 f10, D1f u ne f f8]⟩
      · rw [endD_j ne, D1r]
        have inA : u ∈ ac.eraseIdx j := (mo u).mpr ⟨(q7.1 u).mpr ⟨hu, a1⟩, ne⟩
        rcases c1 with ⟨z, y⟩ | ⟨z, y⟩
        · rw [if_pos ⟨rwi.mpr z, inA⟩, y]
        · rw [if_neg (fun x => z (rwi.mp x.1)), y]
      · have o1 := D1o u hu ne (Or.inl a1)
        by_cases z : h2.bi (M + 7) (u + 1) = h1.bi (M + 7) (u + 1)
        · rw [c7 z]
          exact (outS_sf f2 (by rw [z])).mpr o1
        · obtain ⟨d1, d2, d3⟩ := c8 z
          by_cases y : h2.bi (M + 7) (u + 1) = 1
          · rw [d2 y]
            exact outS_safe y
          · rw [d3 y]
            exact (outS_sf f2 ⟨fun x => absurd x y, fun x => absurd (d1.symm.trans x) (by decide)⟩).mpr o1
    · rw [D1f u ne 1010 (by decide)]
      by_cases z : h.bi (M + 2) (i + 1) = 0 ∧ i + 1 < u + 1
      · rw [if_pos z] at na
        exact Or.inl ⟨z.1, z.2, by rw [s1, na]⟩
      · rw [if_neg z] at na
        exact Or.inr ⟨z, by rw [s1, na]; rfl⟩
    · intro z
      rw [b7] at z
      have nw := s3 z
      rw [wtS_n] at nw
      have n0 : rwN h M (u + 1) = 0 := Classical.not_not.mp nw
      by_cases y : h.bi (M + 2) (i + 1) = 0 ∧ i + 1 < u + 1
      · rw [if_pos y] at na; omega
      · rw [if_neg y] at na
        exact ⟨y, by omega⟩
    · intro z
      rw [b7] at z
      rw [bdq z, va_up_self, va_up_ne _ _ (by decide), D1i.2.2.2 1008 (by decide) (by decide), D1f u ne 1001 (by decide)]
      exact ⟨fun ⟨p1, p2, p3, p4⟩ => ⟨p1, p2, rfl, p3, p4⟩, fun ⟨p1, p2, _, p3, p4⟩ => ⟨p1, p2, p3, p4⟩⟩
    · intro z y
      rw [b7] at z
      rw [if_neg y] at na
      have j0 := s2 z
      have wt : wtS h M (u + 1) := by
        rcases j0 with x | x | x
        · exact absurd x.1 (by decide)
        · exact x.2.2
        · exact absurd x.1 (by decide)
      rw [wtS_n] at wt
      omega
  have eR : ∀ u, u < b → (endD D1 i (nI 2) (ac.eraseIdx j) u).2 = (D u).2 := by
    intro u hu
    by_cases e : u = i
    · rw [e, endD_i no]
      exact D1r i
    · rw [endD_j e]
      exact D1r u
  have e3 : h2.bi (M + 3) = h.bi (M + 3) := f.bi (by decide)
  have e2 : h2.bi (M + 2) = h.bi (M + 2) := f.bi (by decide)
  have e9 : h2.bi (M + 9) = h.bi (M + 9) := f.bi (by decide)
  have four : ∀ u, u ≠ i + 1 → h2.bi (M + 4) u = h.bi (M + 4) u := fun u z => by rw [g4, e4, if_neg z]
  have fourt : h2.bi (M + 4) (i + 1) = nI (c + 1) := by rw [g4, e4, if_pos rfl]
  have eight : ∀ u, u ≠ i + 1 → h2.bi (M + 8) u = h.bi (M + 8) u := fun u z => by rw [g8, e8 u z]
  have eightt : h2.bi (M + 8) (i + 1) = if ot = [] then h.bi (M + 8) (i + 1) else 1 := by rw [g8]; exact e8t
  have vrow : ∀ x, x < v → h2.bi (M + 19) x = h.bi (M + 19) x ∧ h2.bi (M + 20) x = h.bi (M + 20) x ∧ h2.bw (M + 21) x = h.bw (M + 21) x ∧ h2.bi (M + 22) x = h.bi (M + 22) x := by
    intro x hx
    rw [f2.bi (show 19 ∉ _ by decide), f2.bi (show 20 ∉ _ by decide), f2.bw (show 21 ∉ _ by decide), f2.bi (show 22 ∉ _ by decide), fc1.bi (show 19 ∉ _ by decide), fc1.bi (show 20 ∉ _ by decide), fc1.bw (show 21 ∉ _ by decide), fc1.bi (show 22 ∉ _ by decide)]
    exact ch.2.2.2.2.1 x hx
  have nrow : ∀ x z, (inst As (nI (c + 1)) (nI (i + 1)))[x]? = some z → z.1 = h2.bi (M + 19) (v + x) ∧ z.2.1 = nI (c + 1) ∧ z.2.2.1 = nI (i + 1) ∧ h2.bi (M + 20) (v + x) = nI (i + 1) ∧ z.2.2.2.1 = h2.bi (M + 22) (v + x) ∧ z.2.2.2.2 = h2.bw (M + 21) (v + x) ∧ owns h M w (i + 1) z.1 := by
    intro x z hz
    rw [f2.bi (show 19 ∉ _ by decide), f2.bi (show 20 ∉ _ by decide), f2.bw (show 21 ∉ _ by decide), f2.bi (show 22 ∉ _ by decide), fc1.bi (show 19 ∉ _ by decide), fc1.bi (show 20 ∉ _ by decide), fc1.bw (show 21 ∉ _ by decide), fc1.bi (show 22 ∉ _ by decide)]
    exact vn _ x z hz
  have il : (inst As (nI (c + 1)) (nI (i + 1))).length = As.length := inst_len As _ _
  have getN : ∀ x, x < As.length → ∃ z, (inst As (nI (c + 1)) (nI (i + 1)))[x]? = some z := fun x hx => ⟨_, List.getElem?_eq_getElem (by rw [il]; exact hx)⟩
  rw [(q4 i hi).1]
  refine ⟨?_, q2, by rw [List.length_append, q3]; rfl, fun u hu => ?_, ⟨fun t t' => by rw [e3]; exact q5.1 t t', fun t u1 u2 => ?_⟩, ⟨fun t u1 u2 => ?_, fun x h1 h2 => by rw [f.bi (by decide)]; exact q6.2.1 x h1 h2, fun x hx => by rw [f.bi (by decide)]; exact q6.2.2.1 x hx, fun x h1 h2 => by rw [f.bi (by decide)]; exact q6.2.2.2.1 x h1 h2, fun j hj => by rw [f.bi (by decide)]; exact q6.2.2.2.2 j hj⟩, ⟨fun u => ?_, fun m u hm => ?_, fun u hu a => ?_⟩, fun u hu a => ?_, fun u hu => ?_, ?_, ⟨?_, ⟨fun x hx => ?_, fun x hx => ?_⟩, fun x z hz => ?_⟩, ?_, fun x x1 x2 => ?_, Whq.ro f (by decide) q14, Roq.ro f (by decide) (by decide) q15, ?_, fun t u1 u2 => ?_, fun u hu a1 a2 => ?_⟩
  · obtain ⟨n1, n2, n3, n4, n5, n6, n7, n8, n9, n10, n11, n12, n13, n14⟩ := q1
    refine ⟨(f.gi (by decide)).trans n1, ?_, (f.gi (by decide)).trans n3, (f.gi (by decide)).trans n4, ?_, (f.gi (by decide)).trans n6, (f.gi (by decide)).trans n7, n8, by omega, n10, n11, hy, n13, n14⟩
    · rw [f2.gi (fun z => nomatch z), eh1]; exact gi_same
    · rw [f2.gi (fun z => nomatch z), fc1.gi (by decide)]; exact ch.2.2.2.2.2.2.1
  · obtain ⟨w1, w2, w3, w4, w5, w6, w7⟩ := q4 u hu
    have eP : tP (endD D1 i (nI 2) (ac.eraseIdx j) u) = tP (D u) := by
      show (endD D1 i (nI 2) (ac.eraseIdx j) u).2.2.2.2.1 = _
      rw [eR u hu]
    rw [eP, e3, e2, e9]
    by_cases e : u = i
    · rw [e] at w1 w2 w3 w5 w6 w7 ⊢
      have E := D1i.2.2.2
      rw [endD_i no, seven, howt, fourt, eightt]
      refine ⟨?_, ?_, ?_, ?_, ?_, ?_, w7⟩
      · show va_up (D1 i).1 1006 (nI 2) 1000 = _
        rw [va_up_ne _ _ (by decide), E 1000 (by decide) (by decide)]; exact w1
      · show va_up (D1 i).1 1006 (nI 2) 1001 = _
        rw [va_up_ne _ _ (by decide), E 1001 (by decide) (by decide)]; exact w2
      · show va_up (D1 i).1 1006 (nI 2) 1005 = _
        rw [va_up_ne _ _ (by decide), E 1005 (by decide) (by decide)]; exact w3
      · show va_up (D1 i).1 1006 (nI 2) 1006 = _
        rw [va_up_self]; rfl
      · show va_up (D1 i).1 1006 (nI 2) 1007 = _
        rw [va_up_ne _ _ (by decide)]; exact D1i.2.1
      · show va_up (D1 i).1 1006 (nI 2) 1009 = _
        rw [va_up_ne _ _ (by decide), D1i.2.2.1, w6]
    · rw [four (u + 1) (by omega), eight (u + 1) (by omega)]
      by_cases act : h.bi (M + 1) (u + 1) = 1 ∧ h.bi (M + 2) (u + 1) ≠ 0
      · obtain ⟨F', b1, b2, b3, b4, b5, b6, b7, b8⟩ := heed u hu e act.1 act.2
        rw [b1]
        refine ⟨(b8 1000 (by decide) (by decide) (by decide)).trans w1, (b8 1001 (by decide) (by decide) (by decide)).trans w2, ?_, ?_, (b8 1007 (by decide) (by decide) (by decide)).trans w5, (b8 1009 (by decide) (by decide) (by decide)).trans w6, w7⟩
        · rw [if_neg act.2]; exact b2
        · rw [how (u + 1) (by omega)]
          exact (b8 1006 (by decide) (by decide) (by decide)).trans w4
      · obtain ⟨b1, b2⟩ := stay u hu e act
        have E := D1f u e
        rw [b1, b2, how (u + 1) (by omega), E 1000 (by decide), E 1001 (by decide), E 1005 (by decide), E 1006 (by decide), E 1007 (by decide), E 1009 (by decide)]
        exact ⟨w1, w2, w3, w4, w5, w6, w7⟩
  · obtain ⟨r1, r2, r3, r4, s', r5, r6, r7⟩ := q5.2 t u1 u2
    rw [e2, e3]
    obtain ⟨t', rfl⟩ : ∃ t', t = t' + 1 := ⟨t - 1, by omega⟩
    by_cases e : t' = i
    · rw [e] at r1 r2 r3 r4 r5 r7 ⊢
      rw [seven, howt, fourt, eightt]
      refine ⟨r1, r2, r3, ?_, s', r5, by omega, Or.inr ⟨rfl, c + 1, rfl, by omega, Nat.le_refl _⟩⟩
      by_cases z : ot = []
      · rw [if_pos z]; exact r4
      · rw [if_neg z]; exact Or.inr rfl
    · rw [how (t' + 1) (by omega), four (t' + 1) (by omega), eight (t' + 1) (by omega)]
      have r7' : ((h.bi (M + 1) (t' + 1) = 1 ∨ h.bi (M + 1) (t' + 1) = 3 ∨ h.bi (M + 1) (t' + 1) = 4 ∨ h.bi (M + 1) (t' + 1) = 5) ∧ h.bi (M + 4) (t' + 1) = 0) ∨ (h.bi (M + 1) (t' + 1) = 2 ∧ ∃ m, h.bi (M + 4) (t' + 1) = nI m ∧ s' < m ∧ m ≤ c + 1) := r7.imp id (fun ⟨z, m, m1, m2, m3⟩ => ⟨z, m, m1, m2, by omega⟩)
      by_cases act : h.bi (M + 1) (t' + 1) = 1 ∧ h.bi (M + 2) (t' + 1) ≠ 0
      · obtain ⟨F', b1, b2, b3, _⟩ := heed t' (by omega) e act.1 act.2
        exact ⟨r1, b3, fun z => absurd z act.2, r4, s', r5, by omega, r7'⟩
      · rw [(stay t' (by omega) e act).2]
        exact ⟨r1, r2, r3, r4, s', r5, by omega, r7'⟩
  · rw [four t (by omega), eight t (by omega), e9, (jd.2 t).2 (fun y => by omega), b7]
    exact q6.1 t u1 u2
  · rw [mo, q7.1]
    constructor
    · rintro ⟨⟨z1, z2⟩, z3⟩
      exact ⟨z1, by rw [how (u + 1) (by omega)]; exact z2⟩
    · rintro ⟨z1, z2⟩
      have ne : u ≠ i := fun e => by rw [e, howt] at z2; exact absurd z2 (by decide)
      rw [how (u + 1) (by omega)] at z2
      exact ⟨⟨z1, z2⟩, ne⟩
  · rcases Nat.lt_or_ge m cm.length with z | z
    · rw [List.getElem?_append_left z] at hm
      obtain ⟨z1, z2, z3⟩ := q7.2.1 m u hm
      have ne : u ≠ i := fun e => by rw [e, ai] at z2; exact absurd z2 (by decide)
      exact ⟨z1, by rw [how (u + 1) (by omega)]; exact z2, by rw [four (u + 1) (by omega)]; exact z3⟩
    · rw [List.getElem?_append_right z] at hm
      have m0 : m - cm.length = 0 := by
        rcases Nat.eq_zero_or_pos (m - cm.length) with y | y
        · exact y
        · rw [List.getElem?_eq_none (by show 1 ≤ _; omega)] at hm; cases hm
      rw [m0] at hm
      have ui : i = u := Option.some.inj hm
      rw [← ui, howt, fourt, show m = c by omega]
      exact ⟨hi, rfl, rfl⟩
  · by_cases e : u = i
    · refine ⟨cm.length, ?_⟩
      rw [e, List.getElem?_append_right (Nat.le_refl _), Nat.sub_self]
      rfl
    · rw [how (u + 1) (by omega)] at a
      obtain ⟨m, hm⟩ := q7.2.2 u hu a
      refine ⟨m, ?_⟩
      rw [List.getElem?_append_left ?_]
      · exact hm
      · rcases Nat.lt_or_ge m cm.length with z | z
        · exact z
        · rw [List.getElem?_eq_none z] at hm; cases hm
  · by_cases e : u = i
    · rw [e, endD_i no]
      show outS h2 M l y (i + 1) (b + 1) (va_up (D1 i).1 1006 (nI 2) 1008)
      rw [va_up_ne _ _ (by decide), D1i.2.2.2 1008 (by decide) (by decide)]
      exact (outS_sf f2 (by rw [seven, b7])).mpr oi
    · rw [how (u + 1) (by omega)] at a
      by_cases act : h.bi (M + 1) (u + 1) = 1 ∧ h.bi (M + 2) (u + 1) ≠ 0
      · obtain ⟨F', b1, b2, b3, b4, b5, b6, b7, b8⟩ := heed u hu e act.1 act.2
        rw [b1]
        exact b7
      · obtain ⟨b1, b2⟩ := stay u hu e act
        rw [b1]
        exact (outS_sf f2 (by rw [b2, b7])).mpr (D1o u hu e a)
  · have := Owq.ro f (by decide) q9 u hu
    show OwnR h2 M w (u + 1) (endD D1 i (nI 2) (ac.eraseIdx j) u).2.2.2.1 (endD D1 i (nI 2) (ac.eraseIdx j) u).2.2.2.2.1 (endD D1 i (nI 2) (ac.eraseIdx j) u).2.2.2.2.2.1
    rw [eR u hu]
    exact this
  · refine (Loq.ro f (by decide) q10).upd (fun u hu => ?_)
    show (endD D1 i (nI 2) (ac.eraseIdx j) u).2.2.2.2.2.2.1 = _
    rw [eR u hu]
  · rw [List.length_append, il, q11.1, yl]
  · rw [f.bi (by decide)]
    exact q11.2.1.1 x hx
  · rcases Nat.lt_or_ge x v with z | z
    · rw [(vrow x z).2.2.2]
      exact q11.2.1.2 x z
    · obtain ⟨d, rfl⟩ : ∃ d, x = v + d := ⟨x - v, by omega⟩
      obtain ⟨z, hz⟩ := getN d (by omega)
      rw [← (nrow d z hz).2.2.2.2.1]
      exact inst_flag (q9 i hi) hs hn bk q11.2.1.1 (List.mem_of_getElem? hz)
  · rcases Nat.lt_or_ge x V.length with xl | xl
    · rw [List.getElem?_append_left xl] at hz
      obtain ⟨a1, a2, a3, a4, a5, ⟨u, u1, u2, u3, u4⟩, a7⟩ := q11.2.2 x z hz
      have ne : u ≠ i + 1 := fun e => by rw [e, ai] at u4; exact absurd u4 (by decide)
      obtain ⟨r1, r2, r3, r4⟩ := vrow x (by rw [← q11.1]; exact xl)
      have vm : vMo h2 M x = vMo h M x := by
        unfold vMo
        rw [r2, u3, ni_clp (by omega), four u ne]
      rw [r1, r2, r3, r4, vm, f.bi (show 12 ∉ _ by decide)]
      exact ⟨a1, a2, a3, a4, a5, ⟨u, u1, u2, u3, by rw [how u ne]; exact u4⟩, a7⟩
    · rw [List.getElem?_append_right xl] at hz
      obtain ⟨d, rfl⟩ : ∃ d, x = v + d := ⟨x - v, by rw [q11.1] at xl; omega⟩
      rw [q11.1, show v + d - v = d by omega] at hz
      obtain ⟨a1, a2, a3, a4, a5, a6, a7⟩ := nrow d z hz
      have vm : vMo h2 M (v + d) = nI (c + 1) := by
        unfold vMo
        rw [a4, ni_clp (by omega), fourt]
      obtain ⟨e, o1, o2⟩ := a7
      rw [vm, a4, f.bi (show 12 ∉ _ by decide), ← a1]
      exact ⟨rfl, a2, a3, a5, a6, ⟨i + 1, by omega, by omega, rfl, howt⟩, e, o1, o2.2.1⟩
  · refine ⟨fun u hu => ?_, (Caq.ro f (by decide) q12).2⟩
    show CalQ _ _ (endD D1 i (nI 2) (ac.eraseIdx j) u).2.2.2.2.2.2.2 (endD D1 i (nI 2) (ac.eraseIdx j) u).2.2.2.2.1.length
    rw [eR u hu]
    exact (Caq.ro f (by decide) q12).1 u hu
  · have cs := q13 x x1 x2
    have c1 := cntQ_out (P := fun u => 1 ≤ u ∧ h.bi (M + 1) u = nI 1) (Q := fun u => 1 ≤ u ∧ h2.bi (M + 1) u = nI 1) (t := i + 1) ⟨by omega, ai⟩ (fun y => absurd (howt.symm.trans y.2) (by decide)) (fun u hu => by rw [how u hu]) (b + 1)
    have c2 := cntQ_out (P := fun u => 1 ≤ u ∧ h2.bi (M + 1) u = nI 2) (Q := fun u => 1 ≤ u ∧ h.bi (M + 1) u = nI 2) (t := i + 1) ⟨by omega, howt⟩ (fun y => absurd (ai.symm.trans y.2) (by decide)) (fun u hu => by rw [how u hu]) (b + 1)
    rw [if_pos (by omega)] at c1 c2
    have k1 := q13 1 (Nat.le_refl _) (by omega)
    unfold endC
    by_cases z : x = 2
    · rw [z, va_up_self, va_up_ne _ _ (show 2 ≠ 1 by omega), q13 2 (by omega) (by omega), c2, ni_inc]
    · rw [va_up_ne _ _ z]
      by_cases y : x = 1
      · rw [y, va_up_self, k1, c1]
        exact ni_pred _
      · rw [va_up_ne _ _ y, cs]
        congr 1
        refine cntQ_same (fun u _ => ?_)
        by_cases e : u = i + 1
        · rw [e, howt, ai]
          refine ⟨fun p => absurd ((ni_inj (a := 2) (by omega) (by omega)).mp p.2) (fun e => z e.symm), fun p => absurd ((ni_inj (a := 1) (by omega) (by omega)).mp p.2) (fun e => y e.symm)⟩
        · rw [how u e]
  · rw [f.gi (by decide)]; exact q16.1
  · obtain ⟨⟨y, y1, y2⟩, y3⟩ := q16.2.1 t u1 u2
    rw [f.bi (show 5 ∉ _ by decide), g6, e6]
    refine ⟨⟨y, y1, y2⟩, fun z => ?_⟩
    by_cases e : t = i + 1
    · rw [if_pos e, q16.1]
      exact ⟨clk, rfl, Nat.le_refl _⟩
    · rw [if_neg e]
      rw [how t e] at z
      exact y3 z
  · have ne : u ≠ i := fun e => by rw [e, howt] at a1; exact absurd a1 (by decide)
    rw [how (u + 1) (by omega)] at a1
    rw [e2] at a2
    obtain ⟨F', b1, b2, b3, b4, b5, b6, b7, b8⟩ := heed u hu ne a1 a2
    rw [b1]
    have rn2 : rwN h2 M (u + 1) = rwN h1 M (u + 1) := by
      unfold rwN
      rw [g1, f2.bi (by decide)]
    refine ⟨?_, fun z => ?_, fun z => ?_⟩
    · show F' 1010 = nI (rwN h2 M (u + 1))
      rw [rn2]; exact b4
    · exact (jdV.con f2 (by decide) (fun a ha => (jd.2 a).2 (fun y => y.2.2.2.1 ha))).mpr (b5 z)
    · rw [wtS_n, rn2]
      exact fun y => y (b6 z)
end DON2
