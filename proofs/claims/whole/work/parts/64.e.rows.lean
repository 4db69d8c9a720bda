/-! astray: all rows of one, done again -/
section RWS
variable {h : Hp} {M b c w l v k r clk m : Nat} {mp : Int32 → Option Int64} {W : List Kv} {st ow : Int32}
noncomputable def rfS (h : Hp) (M m : Nat) (mp : Int32 → Option Int64) (s : (Ow × List Nat) × Nat) (j : Nat) : (Ow × List Nat) × Nat := (stR h M j s.1, s.2 + @ite Nat (gdR h M m s.1.1 mp j) (Classical.propDecidable _) 0 1)
noncomputable def rfA (h : Hp) (M m : Nat) (mp : Int32 → Option Int64) (js : List Nat) : (Ow × List Nat) × Nat := js.foldl (rfS h M m mp) (([], []), 0)
theorem rfA_snoc (js : List Nat) (j : Nat) : rfA h M m mp (js ++ [j]) = rfS h M m mp (rfA h M m mp js) j := by
  unfold rfA
  rw [List.foldl_append]
  rfl
theorem rpO_rows (t : Nat) : ∀ k, rpO h M t k = (rfA h M m mp (rowI h M k t)).1 ∧ cntQ (bdR h M m t mp) k = (rfA h M m mp (rowI h M k t)).2 := by
  intro k
  induction k with
  | zero => exact ⟨rfl, rfl⟩
  | succ k ih =>
    have cs : cntQ (bdR h M m t mp) (k + 1) = cntQ (bdR h M m t mp) k + @ite Nat (bdR h M m t mp k) (Classical.propDecidable _) 1 0 := rfl
    have er : rpO h M t (k + 1) = if h.bi (M + 24) k = nI t then stR h M k (rpO h M t k) else rpO h M t k := rfl
    rw [rowI_s, cs, er]
    by_cases z : h.bi (M + 24) k = nI t
    · rw [if_pos z, if_pos z, rfA_snoc]
      unfold rfS
      rw [← ih.1, ← ih.2]
      refine ⟨rfl, ?_⟩
      show _ = cntQ (bdR h M m t mp) k + @ite Nat (gdR h M m (rpO h M t k).1 mp k) (Classical.propDecidable _) 0 1
      by_cases y : gdR h M m (rpO h M t k).1 mp k
      · rw [if_pos y, if_neg (fun u => u.2 y)]
      · rw [if_neg y, if_pos ⟨z, y⟩]
    · rw [if_neg z, if_neg z, List.append_nil, ih.2]
      refine ⟨ih.1, ?_⟩
      rw [if_neg (fun u => z u.1)]
      rfl
theorem rep_rows {js : List Nat} {cs : List (Nat × Ck)} {p : Nat} (hr : r ≤ 41200) (hm : m ≤ 512) (so : ∀ i i', i < i' → i' < m → h.bi (M + 35) i < h.bi (M + 35) i') (gk : ∀ e, e < w → ∃ j, j < m ∧ h.bi (M + 35) j = h.bi (M + 12) e) (bm : ∀ key, mp key = visE (dropW st (chn W key)).head?) (im : ∀ z, mp z ≠ none → ∃ j, j < m ∧ h.bi (M + 35) j = z) (cq : CalQ (RowM h M w r) js cs p) : cs.length < 100000 → ∀ (m0 : Nat) (L' : List Kv) (m' : Nat), RepT W st ow cs [] [] 0 m0 L' m' → OwX w (h.bi (M + 12)) (runL ow cs ([], [], 0)) (rfA h M m mp js).1 ∧ (runL ow cs ([], [], 0)).2.1.length = p ∧ (runL ow cs ([], [], 0)).2.2 ≤ cs.length ∧ m' = m0 + (rfA h M m mp js).2 ∧ L' = (runL ow cs ([], [], 0)).1 := by
  refine cq (fun js cs p => cs.length < 100000 → ∀ (m0 : Nat) (L' : List Kv) (m' : Nat), RepT W st ow cs [] [] 0 m0 L' m' → OwX w (h.bi (M + 12)) (runL ow cs ([], [], 0)) (rfA h M m mp js).1 ∧ (runL ow cs ([], [], 0)).2.1.length = p ∧ (runL ow cs ([], [], 0)).2.2 ≤ cs.length ∧ m' = m0 + (rfA h M m mp js).2 ∧ L' = (runL ow cs ([], [], 0)).1) ?_ ?_ ?_
  · intro _ m0 L' m' rt
    obtain ⟨r1, r2⟩ := rt
    exact ⟨⟨trivial, rfl, fun q p a hq => (nomatch hq), fun q q' a a' _ ha => (nomatch ha), fun x hx => (nomatch hx), fun y hy => (nomatch hy)⟩, rfl, Nat.le_refl _, r2, r1⟩
  · intro js cs p j y p' ih rw_ sp hl m0 L' m' rt
    rw [List.length_append, List.length_singleton] at hl
    obtain ⟨m1, d, a1, a2, a3, a4, a5⟩ := rep_snoc cs [] [] 0 m0 L' m' (by decide) rt
    obtain ⟨b1, b2, b3, b4, b5⟩ := ih (by omega) m0 _ m1 a1
    rw [runL_snoc, rfA_snoc]
    generalize runL ow cs ([], [], 0) = s at a1 a2 a3 a5 b1 b2 b3 b5 ⊢
    generalize rfA h M m mp js = o at b1 b4 ⊢
    have vs := now_eq b1.1 bm
    have inA : ∀ z, nowF o.1.1 mp z ≠ none → ∃ j, j < m ∧ h.bi (M + 35) j = z := by
      intro z hz
      rcases lk_eq z _ o.1.1 s.1 rfl b1.1 with ⟨c1, c2⟩ | ⟨e, L2, c1, c2⟩
      · unfold nowF at hz
        rw [c2] at hz
        exact im z hz
      · have me : (z, e) ∈ s.1 := chn_mem.mp (by rw [c1]; exact List.mem_cons_self)
        obtain ⟨y0, y1, y2⟩ := F2.mem b1.1 me
        obtain ⟨e0, e1, e2⟩ := b1.2.2.2.2.2 y0 y1
        obtain ⟨jj, j1, j2⟩ := gk e0 e1
        exact ⟨jj, j1, by rw [j2, e2]; exact y2.1.symm⟩
    obtain ⟨c1, c2, c3⟩ := step_eq (ow := ow) b1 (by omega) a2 rw_ (by rw [b2]; exact sp)
    refine ⟨c1, c2, by rw [List.length_append, List.length_singleton]; omega, ?_, a5⟩
    show m' = m0 + (o.2 + @ite Nat (gdR h M m o.1.1 mp j) (Classical.propDecidable _) 0 1)
    rcases bad_eq hr hm so vs inA rw_ a3 a4 with ⟨d1, d2⟩ | ⟨d1, d2⟩
    · rw [if_pos d1]; omega
    · rw [if_neg d1]; omega
  · intro js cs y ih k4 yn hl m0 L' m' rt
    rw [List.length_append, List.length_singleton] at hl
    obtain ⟨m1, d, a1, a2, a3, a4, a5⟩ := rep_snoc cs [] [] 0 m0 L' m' (by decide) rt
    obtain ⟨b1, b2, b3, b4, b5⟩ := ih (by omega) m0 _ m1 a1
    rw [runL_snoc]
    generalize runL ow cs ([], [], 0) = s at a1 a2 a3 a5 b1 b2 b3 b5 ⊢
    have es : stepL ow s y.2.1 = s := by
      unfold stepL
      rw [if_neg (by rw [k4]; decide), if_pos k4, if_neg (by omega)]
    rw [es] at a5 ⊢
    refine ⟨b1, b2, by rw [List.length_append, List.length_singleton]; omega, ?_, a5⟩
    rcases a4 with ⟨_, z⟩ | ⟨t, z, _⟩
    · rw [z]; exact b4
    · rw [yn] at z; cases z
/-- calls that were made can be made again: the class -/
theorem okC_snoc {y : Nat × Ck} : ∀ (cs : List (Nat × Ck)) (P : List Nat) (n : Nat), OkC cs P n → ClOk (cs.foldl (fun s y => stepP s.1 s.2 y.2.1) (P, n)).1 y.2.1 → OkC (cs ++ [y]) P n := by
  intro cs
  induction cs with
  | nil => intro P n _ z; exact ⟨z, trivial⟩
  | cons x cs ih =>
    intro P n o z
    exact ⟨o.1, ih _ _ o.2 z⟩
theorem rows_ok {js : List Nat} {cs : List (Nat × Ck)} {p : Nat} (cq : CalQ (RowM h M w r) js cs p) : OkC cs [] 0 ∧ (cs.foldl (fun s y => stepP s.1 s.2 y.2.1) (([] : List Nat), 0)).1.length = p ∧ p ≤ 10 := by
  refine cq (fun js cs p => OkC cs [] 0 ∧ (cs.foldl (fun s y => stepP s.1 s.2 y.2.1) (([] : List Nat), 0)).1.length = p ∧ p ≤ 10) ⟨trivial, rfl, by decide⟩ ?_ ?_
  · rintro js cs p j y p' ⟨i1, i2, i3⟩ rw_ sp
    have e : (cs ++ [y]).foldl (fun s y => stepP s.1 s.2 y.2.1) (([] : List Nat), 0) = stepP (cs.foldl (fun s y => stepP s.1 s.2 y.2.1) (([] : List Nat), 0)).1 (cs.foldl (fun s y => stepP s.1 s.2 y.2.1) (([] : List Nat), 0)).2 y.2.1 := by
      rw [List.foldl_append]; rfl
    refine ⟨okC_snoc cs [] 0 i1 ?_, ?_, ?_⟩
    · rcases rw_ with ⟨k0, _⟩ | ⟨k0, _⟩ | ⟨k0, _, _, _, _, _, mo, rr, e, s1, s2, s3, _⟩ | ⟨k0, fl, _⟩ | ⟨k0, _⟩ | ⟨k0, _⟩
      · exact Or.inl k0
      · exact Or.inr (Or.inl k0)
      · exact Or.inr (Or.inr (Or.inl ⟨k0, mo, s1, s2, s3⟩))
      · exact Or.inr (Or.inr (Or.inr (Or.inl ⟨k0, fl⟩)))
      · exact Or.inr (Or.inr (Or.inr (Or.inr (Or.inl k0))))
      · refine Or.inr (Or.inr (Or.inr (Or.inr (Or.inr ⟨k0, ?_⟩))))
        rcases sp with ⟨z, _⟩ | ⟨_, n, z1, z2, z3, z4⟩ | ⟨_, z, _⟩
        · rw [k0] at z; exact absurd z (by decide)
        · exact ⟨n, _, z1, z2, List.getElem?_eq_getElem (by omega)⟩
        · exact absurd k0 z
    · rw [e]
      generalize cs.foldl (fun s y => stepP s.1 s.2 y.2.1) (([] : List Nat), 0) = s at i2 ⊢
      unfold stepP
      rcases sp with ⟨z, z1, z2⟩ | ⟨z, n, z1, z2, z3, z4⟩ | ⟨z1, z2, z3⟩
      · rw [if_neg (by rw [z]; decide), if_pos z, if_pos (by omega), List.length_append, z2, ← i2]; rfl
      · rw [if_neg (by rw [z]; decide), if_neg (by rw [z]; decide), if_pos z]
        show (s.1.take y.2.1.2.2.2.1.toInt.toNat).length = p'
        rw [List.length_take, z1, z4, i2, nI_toInt (by omega)]
        show min n p = n
        omega
      · by_cases y3 : y.2.1.1 = 3
        · rw [if_pos y3]; exact i2.trans z3.symm
        · rw [if_neg y3, if_neg z1, if_neg z2]; exact i2.trans z3.symm
    · rcases sp with ⟨z, z1, z2⟩ | ⟨z, n, z1, z2, z3, z4⟩ | ⟨z1, z2, z3⟩ <;> omega
  · rintro js cs y ⟨i1, i2, i3⟩ k4 _
    have e : (cs ++ [y]).foldl (fun s y => stepP s.1 s.2 y.2.1) (([] : List Nat), 0) = stepP (cs.foldl (fun s y => stepP s.1 s.2 y.2.1) (([] : List Nat), 0)).1 (cs.foldl (fun s y => stepP s.1 s.2 y.2.1) (([] : List Nat), 0)).2 y.2.1 := by
      rw [List.foldl_append]; rfl
    refine ⟨okC_snoc cs [] 0 i1 (Or.inr (Or.inr (Or.inr (Or.inr (Or.inl k4))))), ?_, i3⟩
    rw [e]
    generalize cs.foldl (fun s y => stepP s.1 s.2 y.2.1) (([] : List Nat), 0) = s at i2 ⊢
    unfold stepP
    rw [if_neg (by rw [k4]; decide), if_pos k4, if_neg (show ¬ s.1.length < 10 by omega)]
    exact i2
/-- and the reference -/
theorem rows_okX {js : List Nat} {cs : List (Nat × Ck)} {p : Nat} (hr : r ≤ 41200) (cq : CalQ (RowM h M w r) js cs p) : (js.foldl (fun s j => stR h M j s) (([], []) : Ow × List Nat)).2.length = p ∧ p ≤ 10 ∧ ∀ (pre : List Nat) (j : Nat) (suf : List Nat), js = pre ++ j :: suf → okX h M w j (pre.foldl (fun s j => stR h M j s) (([], []) : Ow × List Nat)).2 := by
  refine cq (fun js cs p => (js.foldl (fun s j => stR h M j s) (([], []) : Ow × List Nat)).2.length = p ∧ p ≤ 10 ∧ ∀ (pre : List Nat) (j : Nat) (suf : List Nat), js = pre ++ j :: suf → okX h M w j (pre.foldl (fun s j => stR h M j s) (([], []) : Ow × List Nat)).2) ⟨rfl, by decide, fun pre j suf e => ?_⟩ ?_ (fun _ _ _ z _ _ => z)
  · cases pre <;> cases e
  · rintro js cs p j y p' ⟨i1, i2, i3⟩ rw_ sp
    have ok : okX h M w j (js.foldl (fun s j => stR h M j s) (([], []) : Ow × List Nat)).2 := by
      rcases rw_ with ⟨k0, r0, _⟩ | ⟨k0, fl, r0, _⟩ | ⟨k0, r0, r1, r2, r3, hab, mo, rr, e, s1, s2, s3, ye, e1, e2, e4, b29, b32, rb, rows⟩ | ⟨k0, fl, r0, r1, _, _, e, e1, e2⟩ | ⟨k0, r0, _⟩ | ⟨k0, r0, r1, _⟩
      · exact Or.inl r0
      · rcases fl with z | z
        · rw [if_pos z] at r0; exact Or.inr (Or.inr (Or.inl r0))
        · rw [if_neg (by rw [z]; decide)] at r0; exact Or.inr (Or.inl r0)
      · exact Or.inr (Or.inr (Or.inr (Or.inl ⟨r0, mo, _, rr, r3.trans s1, b29, b32, s2, s3, e4, by omega⟩)))
      · refine Or.inr (Or.inr (Or.inr (Or.inr (Or.inl ⟨?_, e, e1, by rw [r1]; exact e2⟩))))
        rcases fl with z | z
        · rw [if_pos z] at r0; exact Or.inr r0
        · rw [if_neg (by rw [z]; decide)] at r0; exact Or.inl r0
      · refine Or.inr (Or.inr (Or.inr (Or.inr (Or.inr (Or.inl ⟨r0, ?_⟩)))))
        rcases sp with ⟨_, z, _⟩ | ⟨z, _⟩ | ⟨z, _⟩
        · omega
        · rw [k0] at z; exact absurd z (by decide)
        · exact absurd k0 z
      · refine Or.inr (Or.inr (Or.inr (Or.inr (Or.inr (Or.inr ⟨r0, ?_⟩)))))
        rcases sp with ⟨z, _⟩ | ⟨_, n, z1, z2, z3, z4⟩ | ⟨_, z, _⟩
        · rw [k0] at z; exact absurd z (by decide)
        · exact ⟨n, r1.trans z1, z2, by omega⟩
        · exact absurd k0 z
    refine ⟨?_, ?_, fun pre j' suf e => ?_⟩
    · rw [List.foldl_append]
      show (stR h M j (js.foldl (fun s j => stR h M j s) (([], []) : Ow × List Nat))).2.length = p'
      generalize js.foldl (fun s j => stR h M j s) (([], []) : Ow × List Nat) = o at i1 ⊢
      have same : y.2.1.1 ≠ 4 → y.2.1.1 ≠ 5 → h.bi (M + 23) j ≠ 7 → h.bi (M + 23) j ≠ 8 → (stR h M j o).2.length = p' := by
        intro n4 n5 r7 r8
        have : (stR h M j o).2 = o.2 := by
          unfold stR
          by_cases z5 : h.bi (M + 23) j = 5
          · rw [if_pos z5]
          · rw [if_neg z5]
            by_cases z6 : h.bi (M + 23) j = 6
            · rw [if_pos z6]
            · rw [if_neg z6, if_neg r7, if_neg r8]
        rw [this, i1]
        rcases sp with ⟨z, _⟩ | ⟨z, _⟩ | ⟨_, _, z⟩
        · exact absurd z n4
        · exact absurd z n5
        · exact z.symm
      rcases rw_ with ⟨k0, r0, _⟩ | ⟨k0, fl, r0, _⟩ | ⟨k0, r0, _⟩ | ⟨k0, fl, r0, _⟩ | ⟨k0, r0, _⟩ | ⟨k0, r0, r1, _⟩
      · exact same (by rw [k0]; decide) (by rw [k0]; decide) (by rw [r0]; decide) (by rw [r0]; decide)
      · rcases fl with z | z
        · rw [if_pos z] at r0; exact same (by rw [k0]; decide) (by rw [k0]; decide) (by rw [r0]; decide) (by rw [r0]; decide)
        · rw [if_neg (by rw [z]; decide)] at r0; exact same (by rw [k0]; decide) (by rw [k0]; decide) (by rw [r0]; decide) (by rw [r0]; decide)
      · exact same (by rw [k0]; decide) (by rw [k0]; decide) (by rw [r0]; decide) (by rw [r0]; decide)
      · rcases fl with z | z
        · rw [if_pos z] at r0; exact same (by rw [k0]; decide) (by rw [k0]; decide) (by rw [r0]; decide) (by rw [r0]; decide)
        · rw [if_neg (by rw [z]; decide)] at r0; exact same (by rw [k0]; decide) (by rw [k0]; decide) (by rw [r0]; decide) (by rw [r0]; decide)
      · unfold stR
        rw [if_neg (by rw [r0]; decide), if_neg (by rw [r0]; decide), if_pos r0]
        show (o.2 ++ [_]).length = p'
        rw [List.length_append, i1]
        rcases sp with ⟨_, _, z⟩ | ⟨z, _⟩ | ⟨z, _⟩
        · rw [z]; rfl
        · rw [k0] at z; exact absurd z (by decide)
        · exact absurd k0 z
      · unfold stR
        rw [if_neg (by rw [r0]; decide), if_neg (by rw [r0]; decide), if_neg (by rw [r0]; decide), if_pos r0]
        show (o.2.take _).length = p'
        rw [List.length_take, i1, r1]
        rcases sp with ⟨z, _⟩ | ⟨_, n, z1, z2, z3, z4⟩ | ⟨_, z, _⟩
        · rw [k0] at z; exact absurd z (by decide)
        · rw [z1, nI_toInt (by omega)]
          show min n p = p'
          omega
        · exact absurd k0 z
    · rcases sp with ⟨z, z1, z2⟩ | ⟨z, n, z1, z2, z3, z4⟩ | ⟨z1, z2, z3⟩ <;> omega
    · rcases List.eq_nil_or_concat suf with z | ⟨s', x, z⟩
      · rw [z] at e
        obtain ⟨e1, e2⟩ := List.append_inj' e rfl
        rw [← e1, ← (List.cons.inj e2).1]
        exact ok
      · rw [z, List.concat_eq_append, ← List.cons_append, ← List.append_assoc] at e
        exact i3 pre j' s' (List.append_inj' e rfl).1
theorem rpO_fold (t : Nat) : ∀ k, rpO h M t k = (rowI h M k t).foldl (fun s j => stR h M j s) (([], []) : Ow × List Nat) := by
  intro k
  induction k with
  | zero => rfl
  | succ k ih =>
    have er : rpO h M t (k + 1) = if h.bi (M + 24) k = nI t then stR h M k (rpO h M t k) else rpO h M t k := rfl
    rw [rowI_s, er]
    by_cases z : h.bi (M + 24) k = nI t
    · rw [if_pos z, if_pos z, List.foldl_append, ih]
      rfl
    · rw [if_neg z, if_neg z, List.append_nil, ih]
theorem rowI_at (t : Nat) {i : Nat} (z : h.bi (M + 24) i = nI t) : ∀ k, i < k → ∃ suf, rowI h M k t = rowI h M i t ++ i :: suf := by
  intro k
  induction k with
  | zero => intro hi; omega
  | succ k ih =>
    intro hi
    rw [rowI_s]
    by_cases e : i = k
    · rw [← e, if_pos z]; exact ⟨[], rfl⟩
    · obtain ⟨suf, hs⟩ := ih (by omega)
      exact ⟨suf ++ (if h.bi (M + 24) k = nI t then [k] else []), by rw [hs, List.append_assoc]; rfl⟩
theorem okX_all {D : Nat → TD} (hb : b ≤ 512) (hr : r ≤ 41200) (q12 : Caq h M b w k r D) : ∀ t, t ≤ b → ∀ i, i < k → h.bi (M + 24) i = nI t → okX h M w i (rpO h M t i).2 := by
  intro t ht i hi e
  obtain ⟨u, u1, u2, u3⟩ := q12.2 i hi
  have : t = u := (ni_inj (by omega) (by omega)).mp (e.symm.trans u3)
  obtain ⟨t', rfl⟩ : ∃ t', t = t' + 1 := ⟨t - 1, by omega⟩
  obtain ⟨suf, hs⟩ := rowI_at (t' + 1) e k hi
  rw [rpO_fold]
  exact (rows_okX hr (q12.1 t' (by omega))).2.2 _ i suf hs
end RWS
