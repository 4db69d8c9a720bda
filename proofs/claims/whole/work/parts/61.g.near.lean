/-! near: the nearest key is the same -/
section NEA
variable {h h1 h2 h' : Hp} {M b c w l v k r clk : Nat} {G G' : Nat → Int32} {fv fv' : Int64} {V : List Kv} {ts : List Nat} {D D' : Nat → TD} {ac cm : List Nat} {ct rs : Nat → Int32} {R R' : List (Int32 × Int64)}
/-- what is seen was written by someone -/
theorem seeB_key {t : Nat} {key : Int32} (hw : w ≤ 512) (hv : v ≤ 512) (ve : Veq h M b w v V) (s : seeB h M w v t key) : ∃ e, e < w ∧ h.bi (M + 12) e = key := by
  rcases s with ⟨i, i1, i2, _⟩ | ⟨_, i, i1, i2, _⟩
  · rcases i2 with ⟨z, _⟩ | ⟨j, j1, _, j3, _⟩
    · exact absurd z (ni_m1 (by omega))
    · exact ⟨j, j1, j3.2.1⟩
  · rcases i2 with ⟨z, _⟩ | ⟨j, j1, _, j3, _⟩
    · exact absurd z (ni_m1 (by omega))
    · obtain ⟨x, hx⟩ : ∃ x, V[j]? = some x := ⟨_, List.getElem?_eq_getElem (by rw [ve.1]; exact j1)⟩
      obtain ⟨_, _, _, _, _, _, e, e1, e2⟩ := ve.2.2 j x hx
      exact ⟨e, e1, e2.trans j3.1⟩
theorem near_eq {t n m : Nat} {L : List Kv} {P : List Nat} {A : Nat → Int32} {key f x : Int32} {d : AnD} (hw : w ≤ 512) (hv : v ≤ 512) (ow : OwnR h M w t L P n) (ve : Veq h M b w v V) (gs : GkS (h.bi (M + 12)) w m A) (hf : f = 0 ∨ f = 1) (na : NearA f (visL L V (h.bi (M + 3) t)) key d) (ns : NeaS h M w v t A key f m x) : (x = -1 ∧ d = (0, none, [], some (if f = 0 then (-2147483648, key) else (key, 2147483647)))) ∨ ∃ j y, j < m ∧ x = nI j ∧ visL L V (h.bi (M + 3) t) (A j) = some y ∧ d = (1, some (A j, y), [], some (if f = 0 then (A j, key) else (key, A j))) := by
  have see : ∀ z, seeB h M w v t z ↔ visL L V (h.bi (M + 3) t) z ≠ none := by
    intro z
    rcases vis_eq hw hv ow ve z with ⟨a1, a2⟩ | ⟨y, a1, a2, _⟩
    · rw [a1]; exact ⟨fun u => absurd u a2, fun u => absurd rfl u⟩
    · rw [a1]; exact ⟨fun _ u => (nomatch u), fun _ => a2⟩
  have inA : ∀ z, visL L V (h.bi (M + 3) t) z ≠ none → ∃ j, j < m ∧ A j = z := fun z hz => (gs.2 z).mpr (seeB_key hw hv ve ((see z).mpr hz))
  have mono : ∀ i j, i ≤ j → j < m → (A i).toInt ≤ (A j).toInt := by
    intro i j hij hj
    by_cases e : i = j
    · rw [e]; exact Int.le_refl _
    · have := gs.1 i j (by omega) hj
      rw [Int32.lt_iff_toInt_lt] at this
      omega
  rcases hf with hf | hf
  · have ls := ns.1 hf
    have sgf : ∀ z : Int, sg f z = -z := fun z => by unfold sg; rw [if_pos hf]
    have cond : ∀ z : Int32, (sg f key.toInt ≤ sg f z.toInt ↔ ¬ key < z) := by
      intro z
      rw [sgf, sgf, Int32.lt_iff_toInt_lt]
      omega
    rcases na with ⟨d1, d2⟩ | ⟨y, y0, y1, y2, y3, y4⟩
    · rcases ls with ⟨x1, _⟩ | ⟨i, i1, i2, i3, _⟩
      · exact Or.inl ⟨x1, d1⟩
      · exact absurd (d2 (A i) ((cond _).mpr i3.1)) ((see _).mp i3.2)
    · obtain ⟨j, j1, j2⟩ := inA y (by rw [y1]; exact fun u => nomatch u)
      have pj : ¬ key < A j ∧ seeB h M w v t (A j) := ⟨by rw [j2]; exact (cond y).mp y2, (see _).mpr (by rw [j2, y1]; exact fun u => nomatch u)⟩
      rcases ls with ⟨_, x2⟩ | ⟨i, i1, i2, i3, i4⟩
      · exact absurd pj (x2 j j1)
      · have ji : j ≤ i := Nat.le_of_not_lt (fun z => i4 j z j1 pj)
        have a1 := mono j i ji i1
        have a2 := y3 (A i) ((cond _).mpr i3.1) ((see _).mp i3.2)
        rw [sgf, sgf] at a2
        have ey : A i = y := Int32.toInt_inj.mp (by rw [j2] at a1; omega)
        refine Or.inr ⟨i, y0, i1, i2, by rw [ey]; exact y1, by rw [ey]; exact y4⟩
  · have f0 : f ≠ 0 := by rw [hf]; decide
    have ls := ns.2 f0
    have sgf : ∀ z : Int, sg f z = z := fun z => by unfold sg; rw [if_neg f0]
    have cond : ∀ z : Int32, (sg f key.toInt ≤ sg f z.toInt ↔ ¬ z < key) := by
      intro z
      rw [sgf, sgf, Int32.lt_iff_toInt_lt]
      omega
    rcases na with ⟨d1, d2⟩ | ⟨y, y0, y1, y2, y3, y4⟩
    · rcases ls with ⟨x1, _⟩ | ⟨i, i1, i2, i3, _⟩
      · exact Or.inl ⟨x1, d1⟩
      · exact absurd (d2 (A i) ((cond _).mpr i3.1)) ((see _).mp i3.2)
    · obtain ⟨j, j1, j2⟩ := inA y (by rw [y1]; exact fun u => nomatch u)
      have pj : ¬ A j < key ∧ seeB h M w v t (A j) := ⟨by rw [j2]; exact (cond y).mp y2, (see _).mpr (by rw [j2, y1]; exact fun u => nomatch u)⟩
      rcases ls with ⟨_, x2⟩ | ⟨i, i1, i2, i3, i4⟩
      · exact absurd pj (x2 j j1)
      · have ji : i ≤ j := Nat.le_of_not_lt (fun z => i4 j z pj)
        have a1 := mono i j ji j1
        have a2 := y3 (A i) ((cond _).mpr i3.1) ((see _).mp i3.2)
        rw [sgf, sgf] at a2
        have ey : A i = y := Int32.toInt_inj.mp (by rw [j2] at a1; omega)
        refine Or.inr ⟨i, y0, i1, i2, by rw [ey]; exact y1, by rw [ey]; exact y4⟩
/-- near: the row, behind the looking -/
theorem cpl_near2 {i : Nat} {key f x e2 y : Int32} {c0 : Nat} {e : AnD} {st : Int32} (q : Cpl h M b c w l v k r clk G fv V ts D ac cm ct rs R) (hi : i < b) (hk : k < 512) (hf : f = 0 ∨ f = 1) (est : st = h.bi (M + 3) (i + 1)) (er : e.2.2.1 = []) (ce : (x = -1 ∧ e.1 = 0 ∧ e.2.1 = none) ∨ (x ≠ -1 ∧ ∃ z, visL (tL (D i)) V st e2 = some z ∧ e.1 = 1 ∧ e.2.1 = some (e2, z))) (rd : Nea2 h M w v k (i + 1) key f x e2 h' y) : y = e.1 ∧ RfO [23, 24, 25, 29, 30, 31] [1339, 1343, 1344, 1351] M h h' ∧ Cpl h' M b c w l v (k + 1) r clk (match e.2.1 with | none => G | some z => va_up G 1209 z.1) (match e.2.1 with | none => fv | some z => z.2) V ts (clD D i (tC (D i) ++ [(c0, (1, key, 0, 0, f, 0), some e)])) ac cm ct rs R := by
  have q' := q
  obtain ⟨q1, q2, q3, q4, q5, q6, q7, q8, q9, q10, q11, q12, q13, q14, q15, q16⟩ := q'
  have hw := q1.2.2.2.2.2.2.2.2.2.1
  have hv := q1.2.2.2.2.2.2.2.2.2.2.2.1
  have fl := logH.ro (h := h) (M := M) (k := k) (kind := (if f = 0 then 3 else 2)) (t := nI (i + 1)) (key := key)
  have mk : ∀ h2 : Hp, h2.bi (M + 23) k = (if f = 0 then 3 else 2) → h2.bi (M + 25) k = key → AnsM h2 M k (some e) → RowM h2 M w r k ((1, key, 0, 0, f, 0), some e) := fun h2 a1 a2 a3 => Or.inr (Or.inl ⟨rfl, hf, a1, a2, a3⟩)
  have yk : ((1 : Int32), key, (0 : Int32), (0 : Int32), f, (0 : Int64)).1 ≠ 4 ∧ ((1 : Int32), key, (0 : Int32), (0 : Int32), f, (0 : Int64)).1 ≠ 5 := ⟨show ¬ (1 : Int32) = 4 by decide, show ¬ (1 : Int32) = 5 by decide⟩
  rcases rd with ⟨x1, x2, x3⟩ | ⟨x1, hS, z, s1, s2, s3⟩
  · have ce : e.1 = 0 ∧ e.2.1 = none := by
      rcases ce with ⟨_, c1, c2⟩ | ⟨c1, _⟩
      · exact ⟨c1, c2⟩
      · exact absurd x1 c1
    obtain ⟨a1, a2, a3⟩ := cpl_fnd (y := (c0, (1, key, 0, 0, f, 0), some e)) q hi hk (RfO.rf [] [1351] M _) rfl er yk mk (Or.inl ⟨x2, ce.1, ce.2⟩)
    refine ⟨?_, a2, a3⟩
    rw [x3, ← a1, x2, fl.bi (by decide)]
  · obtain ⟨u, c1, c2, c3⟩ : ∃ z, visL (tL (D i)) V st e2 = some z ∧ e.1 = 1 ∧ e.2.1 = some (e2, z) := by
      rcases ce with ⟨c1, _⟩ | ⟨_, c2⟩
      · exact absurd c1 x1
      · exact c2
    have se := see_eq hw hv (Owq.ro fl (by decide) q9 i hi) (Veq.ro fl (by decide) q11) s1
    rw [fl.bi (by decide), ← est, c1] at se
    have gu : u = hS.gl 1351 M := by
      rcases se with ⟨z1, _⟩ | ⟨_, z2⟩
      · cases z1
      · exact Option.some.inj z2
    rw [← gu] at s2
    obtain ⟨a1, a2, a3⟩ := cpl_fnd (y := (c0, (1, key, 0, 0, f, 0), some e)) q hi hk s1.ro rfl er yk mk (Or.inr ⟨e2, u, s2, c2, c3⟩)
    exact ⟨by rw [s3, c2], a2, a3⟩
end NEA
