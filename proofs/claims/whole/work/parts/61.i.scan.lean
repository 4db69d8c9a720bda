section SCR
variable {h h1 h2 h' : Hp} {M b c w l v k r clk : Nat} {G G' : Nat → Int32} {fv fv' : Int64} {V : List Kv} {ts : List Nat} {D D' : Nat → TD} {ac cm : List Nat} {ct rs : Nat → Int32} {R R' : List (Int32 × Int64)}
/-- rows laid behind those that count -/
theorem cpl_scr {s : Hp} (q : Cpl h M b c w l v k r clk G fv V ts D ac cm ct rs R) (f : RfO [33, 34, 35] [1351, 1353] M h s) (same : ∀ j, j < r → s.bi (M + 33) j = h.bi (M + 33) j ∧ s.bw (M + 34) j = h.bw (M + 34) j) : Cpl s M b c w l v k r clk G fv V ts D ac cm ct rs R := by
  obtain ⟨q1, q2, q3, q4, q5, q6, q7, q8, q9, q10, q11, q12, q13, q14, q15, q16⟩ := q
  have kp : RwK h s M k w r := by
    refine ⟨fun j hj => ?_, fun e he => by rw [f.bi (by decide)], same⟩
    rw [f.bi (show 23 ∉ _ by decide), f.bi (show 24 ∉ _ by decide), f.bi (show 25 ∉ _ by decide), f.bi (show 26 ∉ _ by decide), f.bi (show 27 ∉ _ by decide), f.bw (show 28 ∉ _ by decide), f.bi (show 29 ∉ _ by decide), f.bi (show 30 ∉ _ by decide), f.bw (show 31 ∉ _ by decide), f.bi (show 32 ∉ _ by decide)]
    exact ⟨rfl, rfl, rfl, rfl, rfl, rfl, rfl, rfl, rfl, rfl⟩
  refine ⟨f.rn q1 (by decide), q2, q3, Fld.ro f (by decide) q4, Rng.ro f (by decide) q5, Fre.ro f (by decide) q6, Lsq.ro f (by decide) q7, Ouq.ro f (by decide) q8, Owq.ro f (by decide) q9, Loq.ro f (by decide) q10, Veq.ro f (by decide) q11, ⟨fun i hi => ?_, fun j hj => by rw [f.bi (by decide)]; exact q12.2 j hj⟩, Cnq.ro f (by decide) q13, Whq.ro f (by decide) q14, ?_, Saq.ro f (by decide) (by decide) q16⟩
  · rw [rowI_con (i + 1) (fun j hj => (kp.1 j hj).2.1)]
    exact (q12.1 i hi).mono (fun j hj y m => RowM.keep kp (Nat.le_refl _) (Nat.le_refl _) (rowI_lt hj) m)
  · obtain ⟨sf, a1, a2, a3, a4, a5⟩ := q15
    refine ⟨sf, by rw [f.gi (by decide)]; exact a1, by rw [f.gi (by decide)]; exact a2, a3, a4, fun x y hy => ?_⟩
    have xl : x < R.length := by
      rcases Nat.lt_or_ge x R.length with z | z
      · exact z
      · rw [List.getElem?_eq_none z] at hy; cases hy
    rw [(same (sf + x) (by omega)).1, (same (sf + x) (by omega)).2]
    exact a5 x y hy
theorem cpl_scan2 {i most n c0 : Nat} {a z : Int32} {e : AnD} {R2 : List (Int32 × Int64)} (q : Cpl h M b c w l v k r clk G fv V ts D ac cm ct rs R) (hi : i < b) (hk : k < 512) (haz : a ≤ z) (m1 : 1 ≤ most) (m2 : most ≤ 100) (ln : R2.length = n) (nm : n ≤ most) (room : r + n ≤ 41200) (rows : ∀ (x : Nat) (y : Int32 × Int64), R2[x]? = some y → h.bi (M + 33) (r + x) = y.1 ∧ h.bw (M + 34) (r + x) = y.2) (ee : e.1 = nI n ∧ e.2.1 = none ∧ e.2.2.1 = R2) (eh : h' = scn2 (scn1 (logH h M k 4 (nI (i + 1)) a) M k z (nI most) (nI n) (nI r)) M r n) : RfO [23, 24, 25, 26, 27, 29, 32] [1339, 1342, 1345, 1346] M h h' ∧ Cpl h' M b c w l v (k + 1) (r + n) clk G fv V ts (clD D i (tC (D i) ++ [(c0, (2, a, z, nI most, 0, 0), some e)])) ac cm ct rs R2 := by
  have q' := q
  obtain ⟨q1, q2, q3, q4, q5, q6, q7, q8, q9, q10, q11, q12, q13, q14, q15, q16⟩ := q'
  have fl := logH.ro (h := h) (M := M) (k := k) (kind := 4) (t := nI (i + 1)) (key := a)
  have lr := fun j => log_rows (h := h) (M := M) (k := k) (kind := 4) (t := nI (i + 1)) (key := a) j
  have nl := logH.rn q1 hk (kind := 4) (t := nI (i + 1)) (key := a)
  generalize logH h M k 4 (nI (i + 1)) a = s1 at fl lr nl eh
  have f1 := scn1.ro (h := s1) (M := M) (k := k) (z := z) (most := nI most) (n := nI n) (x := nI r)
  have a1 := fun j => scn1.a (h := s1) (M := M) (k := k) (z := z) (most := nI most) (n := nI n) (x := nI r) j
  have n1 := f1.rn nl (fun _ _ z => nomatch z)
  generalize scn1 s1 M k z (nI most) (nI n) (nI r) = s2 at f1 a1 n1 eh
  have f2 := scn2.ro (h := s2) (M := M) (r := r) (n := n)
  have g2 := scn2.g (h := s2) (M := M) (r := r) (n := n)
  rw [← eh] at f2 g2
  have f12 : RfO [23, 24, 25, 26, 27, 29, 32] [1339, 1342, 1345, 1346] M h s2 := (fl.mono (by decide) (by decide)).tr (f1.mono (by decide) (fun _ z => nomatch z))
  have f : RfO [23, 24, 25, 26, 27, 29, 32] [1339, 1342, 1345, 1346] M h h' := f12.tr (f2.mono (fun _ z => nomatch z) (by decide))
  refine ⟨f, ?_⟩
  have e23 : ∀ j, h'.bi (M + 23) j = if j = k then 4 else h.bi (M + 23) j := fun j => by rw [f2.bi (fun z => nomatch z), f1.bi (by decide)]; exact (lr j).1
  have e24 : ∀ j, h'.bi (M + 24) j = if j = k then nI (i + 1) else h.bi (M + 24) j := fun j => by rw [f2.bi (fun z => nomatch z), f1.bi (by decide)]; exact (lr j).2.1
  have e25 : ∀ j, h'.bi (M + 25) j = if j = k then a else h.bi (M + 25) j := fun j => by rw [f2.bi (fun z => nomatch z), f1.bi (by decide)]; exact (lr j).2.2
  have e26 : ∀ j, h'.bi (M + 26) j = if j = k then z else h.bi (M + 26) j := fun j => by rw [f2.bi (fun z => nomatch z), (a1 j).1, fl.bi (by decide)]
  have e27 : ∀ j, h'.bi (M + 27) j = if j = k then nI most else h.bi (M + 27) j := fun j => by rw [f2.bi (fun z => nomatch z), (a1 j).2.1, fl.bi (by decide)]
  have e29 : ∀ j, h'.bi (M + 29) j = if j = k then nI n else h.bi (M + 29) j := fun j => by rw [f2.bi (fun z => nomatch z), (a1 j).2.2.1, fl.bi (by decide)]
  have e32 : ∀ j, h'.bi (M + 32) j = if j = k then nI r else h.bi (M + 32) j := fun j => by rw [f2.bi (fun z => nomatch z), (a1 j).2.2.2, fl.bi (by decide)]
  have n' : Rn h' M b c w l v (k + 1) (r + n) := by
    obtain ⟨x1, x2, x3, x4, x5, x6, x7, x8, x9, x10, x11, x12, x13, x14⟩ := n1
    exact ⟨by rw [f2.gi (by decide)]; exact x1, by rw [f2.gi (by decide)]; exact x2, by rw [f2.gi (by decide)]; exact x3, by rw [f2.gi (by decide)]; exact x4, by rw [f2.gi (by decide)]; exact x5, by rw [f2.gi (by decide)]; exact x6, g2.2.2, x8, x9, x10, x11, x12, x13, room⟩
  refine cpl_row (r' := r + n) (y := (c0, (2, a, z, nI most, 0, 0), some e)) q f (by decide) (by decide) n' ?_ (by omega) hi (by rw [e24, if_pos rfl]) (fun j h1 h2 => by rw [e29, if_neg (by omega)]) ?_ ⟨show ¬ (2 : Int32) = 4 by decide, show ¬ (2 : Int32) = 5 by decide⟩ (Whq.ro f (by decide) q14) ?_
  · refine ⟨fun j hj => ?_, fun e he => by rw [f.bi (by decide)], fun j hj => by rw [f.bi (by decide), f.bw (by decide)]; exact ⟨rfl, rfl⟩⟩
    rw [e23, e24, e25, e26, e27, e29, e32, if_neg (by omega), if_neg (by omega), if_neg (by omega), if_neg (by omega), if_neg (by omega), if_neg (by omega), if_neg (by omega), f.bw (show 28 ∉ _ by decide), f.bi (show 30 ∉ _ by decide), f.bw (show 31 ∉ _ by decide)]
    exact ⟨rfl, rfl, rfl, rfl, rfl, rfl, rfl, rfl, rfl, rfl⟩
  · refine Or.inr (Or.inr (Or.inl ⟨rfl, by rw [e23, if_pos rfl], by rw [e25, if_pos rfl], by rw [e26, if_pos rfl], by rw [e27, if_pos rfl], haz, most, r, e, rfl, m1, m2, rfl, ?_, ee.2.1, ?_, ?_, by rw [e32, if_pos rfl], ?_, fun x y hy => ?_⟩))
    · rw [ee.2.2, ln, ee.1]
    · rw [ee.2.2, ln]; omega
    · rw [ee.2.2, ln, e29, if_pos rfl]
    · rw [ee.2.2, ln]; exact Nat.le_refl _
    · rw [ee.2.2] at hy
      rw [f.bi (by decide), f.bw (by decide)]
      exact rows x y hy
  · refine ⟨r, g2.1, by rw [ln]; exact g2.2.1, by omega, by omega, fun x y hy => ?_⟩
    rw [f.bi (by decide), f.bw (by decide)]
    exact rows x y hy
end SCR
