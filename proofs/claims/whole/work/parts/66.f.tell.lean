/-! what is told -/
section SOP3
variable {se : Nat × Nat} {X M O N j c1 s1 : Nat} {h : Hp}
theorem s_value (I : Inv se X M O j h c1 s1) (hj1 : j + 1 ≤ 512) : S_value N X M h (fun h9 c2 s2 => Inv se X M O (j + 1) h9 (c1 + c2) (s1 + s2)) := by
  unfold S_value
  obtain ⟨g, p, G, fv, lr, B, V, ts, D, ac, cm, ot, ct, rs, d0, R, cO, b, c, w, l, v, k, r, clk, nr, a, a0, sc, K, s, q, x, rm⟩ := I
  have jx := kr_value K N
  rw [s.2.1] at jx
  have jm := rf_value (h := h) (M := M) N
  have f : RfO [] [1300] M h (h.sgi 1300 M 0) := RfO.sgi (by decide) _
  refine ⟨h, _, fv, jx, ?_, step_id K s f (fo_X10_value _ _ _ jm) (cpl_1300 q 0) x rm hj1 (Nat.le_succ _) ?_ ?_⟩
  · rw [jm, q.2.2.2.2.2.2.2.2.2.2.2.2.2.1.2.2.2.2.2]
  · have := f.1; omega
  · have := f.2.1; omega
theorem s_key (I : Inv se X M O j h c1 s1) (hj1 : j + 1 ≤ 512) : S_key N X M h (fun h9 c2 s2 => Inv se X M O (j + 1) h9 (c1 + c2) (s1 + s2)) := by
  unfold S_key
  obtain ⟨g, p, G, fv, lr, B, V, ts, D, ac, cm, ot, ct, rs, d0, R, cO, b, c, w, l, v, k, r, clk, nr, a, a0, sc, K, s, q, x, rm⟩ := I
  have jx := kr_key K N
  rw [s.2.1] at jx
  have jm := rf_key (h := h) (M := M) N
  have f : RfO [] [1300] M h (h.sgi 1300 M 0) := RfO.sgi (by decide) _
  refine ⟨h, _, _, jx, ?_, step_id K s f (fo_X10_key _ _ _ jm) (cpl_1300 q 0) x rm hj1 (Nat.le_succ _) ?_ ?_⟩
  · rw [jm, q.2.2.2.2.2.2.2.2.2.2.2.2.2.1.2.2.2.2.1]
  · have := f.1; omega
  · have := f.2.1; omega
theorem s_why (I : Inv se X M O j h c1 s1) (hj1 : j + 1 ≤ 512) (p0 : Int32) : S_why N X M h p0 (fun h9 c2 s2 => Inv se X M O (j + 1) h9 (c1 + c2) (s1 + s2)) := by
  unfold S_why
  obtain ⟨g, p, G, fv, lr, B, V, ts, D, ac, cm, ot, ct, rs, d0, R, cO, b, c, w, l, v, k, r, clk, nr, a, a0, sc, K, s, q, x, rm⟩ := I
  have jx := kr_why K N p0
  rw [s.2.1] at jx
  have jm := rf_why (h := h) (M := M) N p0
  have f : RfO [] [1300] M h (h.sgi 1300 M 0) := RfO.sgi (by decide) _
  obtain ⟨w0, w1, w2, w3, _⟩ := q.2.2.2.2.2.2.2.2.2.2.2.2.2.1
  refine ⟨h, _, _, jx, ?_, step_id K s f (fo_X10_why _ _ _ _ jm) (cpl_1300 q 0) x rm hj1 (Nat.le_succ _) ?_ ?_⟩
  · rw [jm]
    congr 2
    by_cases z0 : p0 = 0
    · rw [if_pos z0, z0]; exact w0.symm
    · rw [if_neg z0]
      by_cases z1 : p0 = 1
      · rw [if_pos z1, z1]; exact w1.symm
      · rw [if_neg z1]
        by_cases z2 : p0 = 2
        · rw [if_pos z2, z2]; exact w2.symm
        · rw [if_neg z2]
          by_cases z3 : p0 = 3
          · rw [if_pos z3, z3]; exact w3.symm
          · rw [if_neg z3, if_neg]
            intro z
            have e := ni_of z.1
            have lt : p0.toInt.toNat < 4 := by omega
            generalize p0.toInt.toNat = m at e lt
            match m, lt with
            | 0, _ => exact z0 e
            | 1, _ => exact z1 e
            | 2, _ => exact z2 e
            | 3, _ => exact z3 e
  · have := f.1; omega
  · have := f.2.1; omega
theorem s_told (I : Inv se X M O j h c1 s1) (hj1 : j + 1 ≤ 512) (hN : 1000000 < N) (p0 p1 : Int32) : S_told N X M h p0 p1 (fun h9 c2 s2 => Inv se X M O (j + 1) h9 (c1 + c2) (s1 + s2)) := by
  unfold S_told
  obtain ⟨g, p, G, fv, lr, B, V, ts, D, ac, cm, ot, ct, rs, d0, R, cO, b, c, w, l, v, k, r, clk, nr, a, a0, sc, K, s, q, x, rm⟩ := I
  have jx := kr_told K (ex_ki q x).2.2.1 N p0 p1
  rw [s.2.1] at jx
  obtain ⟨h2, y, jm, f, _, tr⟩ := rf_told s.2.2.2.1 q.1 N (by omega) (cpl_pos q) q.2.2.2.2.2.2.2.2.2.1.2.1 p0 p1
  have e := told_eq q K.pu x.2.1.1 tr
  rw [e] at jx
  refine ⟨h, h2, y, jx, jm, step_id K s f (fo_X10_told _ _ _ _ _ jm) (q.eqv (RfE.ro f (by decide) (by decide))) x rm hj1 (Nat.le_succ _) ?_ ?_⟩
  · have := f.1; omega
  · have := f.2.1; omega
theorem s_version (I : Inv se X M O j h c1 s1) (hj1 : j + 1 ≤ 512) (hN : 1000000 < N) (p0 p1 p2 : Int32) : S_version N X M h p0 p1 p2 (fun h9 c2 s2 => Inv se X M O (j + 1) h9 (c1 + c2) (s1 + s2)) := by
  unfold S_version
  obtain ⟨g, p, G, fv, lr, B, V, ts, D, ac, cm, ot, ct, rs, d0, R, cO, b, c, w, l, v, k, r, clk, nr, a, a0, sc, K, s, q, x, rm⟩ := I
  have jx := kr_version K (ex_ki q x).2.2.1 N (by omega) p0 p1 p2
  rw [s.2.1] at jx
  obtain ⟨y, z, jm, vs, va⟩ := rf_version s.2.2.2.1 q.1 N (by omega) (cpl_vt q) p0 p1 p2
  have e := version_eq q K.pu x.2.1.1 vs va
  rw [e] at jx
  have f : RfO [] [1300] M h (h.sgi 1300 M 0) := RfO.sgi (by decide) _
  refine ⟨h, _, z, jx, jm, step_id K s f (fo_X10_version _ _ _ _ _ _ jm) (cpl_1300 q 0) x rm hj1 (Nat.le_succ _) ?_ ?_⟩
  · have := f.1; omega
  · have := f.2.1; omega
theorem s_versionValue (I : Inv se X M O j h c1 s1) (hj1 : j + 1 ≤ 512) (hN : 1000000 < N) (p0 p1 : Int32) : S_versionValue N X M h p0 p1 (fun h9 c2 s2 => Inv se X M O (j + 1) h9 (c1 + c2) (s1 + s2)) := by
  unfold S_versionValue
  obtain ⟨g, p, G, fv, lr, B, V, ts, D, ac, cm, ot, ct, rs, d0, R, cO, b, c, w, l, v, k, r, clk, nr, a, a0, sc, K, s, q, x, rm⟩ := I
  have jx := kr_versionV K (ex_ki q x).2.2.1 N (by omega) p0 p1
  rw [s.2.1] at jx
  obtain ⟨y, z, jm, vs, va⟩ := rf_versionValue s.2.2.2.1 q.1 N (by omega) (cpl_vt q) p0 p1
  have e := versionV_eq q K.pu x.2.1.1 vs va
  rw [e] at jx
  have f : RfO [] [1300] M h (h.sgi 1300 M 0) := RfO.sgi (by decide) _
  refine ⟨h, _, z, jx, jm, step_id K s f (fo_X10_versionValue _ _ _ _ _ jm) (cpl_1300 q 0) x rm hj1 (Nat.le_succ _) ?_ ?_⟩
  · have := f.1; omega
  · have := f.2.1; omega
theorem s_count (I : Inv se X M O j h c1 s1) (hj1 : j + 1 ≤ 512) (hN : 1000000 < N) (p0 : Int32) : S_count N X M h p0 (fun h9 c2 s2 => Inv se X M O (j + 1) h9 (c1 + c2) (s1 + s2)) := by
  unfold S_count
  obtain ⟨g, p, G, fv, lr, B, V, ts, D, ac, cm, ot, ct, rs, d0, R, cO, b, c, w, l, v, k, r, clk, nr, a, a0, sc, K, s, q, x, rm⟩ := I
  obtain ⟨ss, hs, hsc⟩ := hz_n q
  have ki := ex_ki q x
  have jx := kr_count K ki.2.2.1 ki.2.2.2.2.1 N (by omega) hs hsc p0
  rw [s.2.1] at jx
  obtain ⟨h2, y, jm, f, _, cr⟩ := rf_count s.2.2.2.1 q.1 N (by omega) (cpl_vt q) q.2.2.2.2.2.2.2.2.2.1.2.1 p0
  have e := count_eq q K.pu x.2.1.1 hs hsc cr
  rw [e] at jx
  refine ⟨h, h2, y, jx, jm, step_id K s f (fo_X10_count _ _ _ _ jm) (q.eqv (RfE.ro f (by decide) (by decide))) x rm hj1 (Nat.le_succ _) ?_ ?_⟩
  · have := f.1; omega
  · have := f.2.1; omega
theorem s_rowKey (I : Inv se X M O j h c1 s1) (hj1 : j + 1 ≤ 512) (p0 : Int32) : S_rowKey N X M O h p0 (fun h9 c2 s2 => Inv se X M O (j + 1) h9 (c1 + c2) (s1 + s2)) := by
  unfold S_rowKey
  obtain ⟨g, p, G, fv, lr, B, V, ts, D, ac, cm, ot, ct, rs, d0, R, cO, b, c, w, l, v, k, r, clk, nr, a, a0, sc, K, s, q, x, rm⟩ := I
  obtain ⟨sf, o1, o2, o3, o4, o5⟩ := q.2.2.2.2.2.2.2.2.2.2.2.2.2.2.1
  have r5 := q.1.2.2.2.2.2.2.2.2.2.2.2.2.2
  by_cases ok : 0 ≤ p0.toInt ∧ p0.toInt < R.length
  · have hl : p0.toInt.toNat < R.length := by omega
    obtain ⟨y, hx⟩ : ∃ y, R[p0.toInt.toNat]? = some y := ⟨_, List.getElem?_eq_getElem hl⟩
    have jx := (kr_rowKey K N ok.1 hx).1
    rw [s.2.1] at jx
    obtain ⟨K1, s1'⟩ := sd_saw K s y.1.toInt64
    have rows := o5 _ _ hx
    rcases rf_rowKey (h := h.saw O 0 y.1.toInt64) s1'.2.2.2.1 N (m := R.length) (s := sf) (by omega) o2 o1 p0 with ⟨i, e, il, jm⟩ | ⟨z, _⟩
    · have ei : i = p0.toInt.toNat := by
        have := ni_of ok.1
        exact (ni_inj (by omega) (by omega)).mp (e.symm.trans this)
      have jm2 : J_X10_rowKey N M (h.saw O 0 y.1.toInt64) p0 = some ((h.saw O 0 y.1.toInt64).sgi 1300 M 0, y.1) := by
        rw [jm, ei]
        show some (_, h.bi (M + 33) (sf + p0.toInt.toNat)) = _
        rw [rows.1]
      have f : RfO [] [1300] M (h.saw O 0 y.1.toInt64) ((h.saw O 0 y.1.toInt64).sgi 1300 M 0) := RfO.sgi (by decide) _
      refine Or.inl ⟨h, _, y.1, jx, jm2, gi_same, step_id K1 s1' f (fo_X10_rowKey _ _ _ _ jm2) (cpl_1300 (q.eqv (RfE.saw M h O 0 _)) 0) x rm hj1 (Nat.le_succ _) ?_ ?_⟩
      · show c1 + (h.nx - h.nx) ≤ c1 + 1; omega
      · show s1 + (h.su - h.su) ≤ s1 + 6; omega
    · exact absurd ⟨p0.toInt.toNat, ni_of ok.1, hl⟩ z
  · refine Or.inr ⟨h, by rw [← s.2.1]; exact (kr_rowX K N ok).1, fun n1 hn => ?_⟩
    rcases rf_rowKey (h := h.thr n1) (s.2.2.2.1.thr n1) N (m := R.length) (s := sf) (by omega) o2 o1 p0 with ⟨i, e, il, jm⟩ | ⟨_, jm⟩
    · exact absurd ⟨by rw [e, nI_toInt (by omega)]; omega, by rw [e, nI_toInt (by omega)]; omega⟩ ok
    · exact ⟨_, _, jm, gi_same, step_thr K s hn (A := []) (Gf := [1300]) (RfO.sgi (by decide) _) (fo_X10_rowKey _ _ _ _ jm) (cpl_1300 (cpl_thr q n1) 1) x rm hj1 (Nat.le_succ _)⟩
theorem s_rowValue (I : Inv se X M O j h c1 s1) (hj1 : j + 1 ≤ 512) (p0 : Int32) : S_rowValue N X M O h p0 (fun h9 c2 s2 => Inv se X M O (j + 1) h9 (c1 + c2) (s1 + s2)) := by
  unfold S_rowValue
  obtain ⟨g, p, G, fv, lr, B, V, ts, D, ac, cm, ot, ct, rs, d0, R, cO, b, c, w, l, v, k, r, clk, nr, a, a0, sc, K, s, q, x, rm⟩ := I
  obtain ⟨sf, o1, o2, o3, o4, o5⟩ := q.2.2.2.2.2.2.2.2.2.2.2.2.2.2.1
  have r5 := q.1.2.2.2.2.2.2.2.2.2.2.2.2.2
  by_cases ok : 0 ≤ p0.toInt ∧ p0.toInt < R.length
  · have hl : p0.toInt.toNat < R.length := by omega
    obtain ⟨y, hx⟩ : ∃ y, R[p0.toInt.toNat]? = some y := ⟨_, List.getElem?_eq_getElem hl⟩
    have jx := (kr_rowKey K N ok.1 hx).2
    rw [s.2.1] at jx
    obtain ⟨K1, s1'⟩ := sd_saw K s y.2
    have rows := o5 _ _ hx
    rcases rf_rowValue (h := h.saw O 0 y.2) s1'.2.2.2.1 N (m := R.length) (s := sf) (by omega) o2 o1 p0 with ⟨i, e, il, jm⟩ | ⟨z, _⟩
    · have ei : i = p0.toInt.toNat := by
        have := ni_of ok.1
        exact (ni_inj (by omega) (by omega)).mp (e.symm.trans this)
      have jm2 : J_X10_rowValue N M (h.saw O 0 y.2) p0 = some ((h.saw O 0 y.2).sgi 1300 M 0, y.2) := by
        rw [jm, ei]
        show some (_, h.bw (M + 34) (sf + p0.toInt.toNat)) = _
        rw [rows.2]
      have f : RfO [] [1300] M (h.saw O 0 y.2) ((h.saw O 0 y.2).sgi 1300 M 0) := RfO.sgi (by decide) _
      refine Or.inl ⟨h, _, y.2, jx, jm2, gi_same, step_id K1 s1' f (fo_X10_rowValue _ _ _ _ jm2) (cpl_1300 (q.eqv (RfE.saw M h O 0 _)) 0) x rm hj1 (Nat.le_succ _) ?_ ?_⟩
      · show c1 + (h.nx - h.nx) ≤ c1 + 1; omega
      · show s1 + (h.su - h.su) ≤ s1 + 6; omega
    · exact absurd ⟨p0.toInt.toNat, ni_of ok.1, hl⟩ z
  · refine Or.inr ⟨h, by rw [← s.2.1]; exact (kr_rowX K N ok).2, fun n1 hn => ?_⟩
    rcases rf_rowValue (h := h.thr n1) (s.2.2.2.1.thr n1) N (m := R.length) (s := sf) (by omega) o2 o1 p0 with ⟨i, e, il, jm⟩ | ⟨_, jm⟩
    · exact absurd ⟨by rw [e, nI_toInt (by omega)]; omega, by rw [e, nI_toInt (by omega)]; omega⟩ ok
    · exact ⟨_, _, jm, gi_same, step_thr K s hn (A := []) (Gf := [1300]) (RfO.sgi (by decide) _) (fo_X10_rowValue _ _ _ _ jm) (cpl_1300 (cpl_thr q n1) 1) x rm hj1 (Nat.le_succ _)⟩
end SOP3
/-! the audit -/
theorem ncl_sum (D : Nat → TD) : ∀ (cm : List Nat), ((List.range cm.length).map (ncl D cm)).sum = (cm.map (fun j => (tC (D j)).length)).sum := by
  intro cm
  have : (List.range cm.length).map (ncl D cm) = cm.map (fun j => (tC (D j)).length) := by
    refine List.ext_getElem? (fun n => ?_)
    rw [List.getElem?_map, List.getElem?_map]
    by_cases z : n < cm.length
    · rw [List.getElem?_range z, List.getElem?_eq_getElem z]
      show some (ncl D cm n) = _
      unfold ncl
      rw [List.getElem?_eq_getElem z]
      rfl
    · rw [List.getElem?_eq_none (by rw [List.length_range]; omega), List.getElem?_eq_none (by omega)]
      rfl
  rw [this]
theorem sum_le (f : Nat → Nat) : ∀ (n : Nat) (xs : List Nat), xs.Nodup → (∀ i ∈ xs, i < n) → (xs.map f).sum ≤ sumF f n := by
  intro n xs nd hx
  rw [sum_list (P := fun i => i ∈ xs) f n xs nd (fun i => ⟨fun z => ⟨hx i z, z⟩, fun z => z.2⟩)]
  clear nd hx
  induction n with
  | zero => exact Nat.le_refl _
  | succ n ih =>
    show sumF _ n + (if n ∈ xs then f n else 0) ≤ sumF f n + f n
    by_cases z : n ∈ xs
    · rw [if_pos z]; omega
    · rw [if_neg z]; omega
section SOP4
variable {se : Nat × Nat} {X M O N j c1 s1 : Nat} {h : Hp}
theorem s_astray (I : Inv se X M O j h c1 s1) (hj1 : j + 1 ≤ 512) (hN : 1000000 < N) : S_astray N X M h (fun h9 c2 s2 => Inv se X M O (j + 1) h9 (c1 + c2) (s1 + s2)) := by
  unfold S_astray
  obtain ⟨g, p, G, fv, lr, B, V, ts, D, ac, cm, ot, ct, rs, d0, R, cO, b, c, w, l, v, k, r, clk, nr, a, a0, sc, K, s, q, x, rm⟩ := I
  have eX := s.2.1
  have ki := ex_ki q x
  have b5 := q.1.2.2.2.2.2.2.2.1
  have c5 := q.1.2.2.2.2.2.2.2.2.1
  have r5 := q.1.2.2.2.2.2.2.2.2.2.2.2.2.2
  have caq := q.2.2.2.2.2.2.2.2.2.2.2.1
  have x' := x
  obtain ⟨⟨x1, x2, x3, x4, x5, x6, x7, x8, x9, x10⟩, ⟨y1, y2, y3⟩, ⟨z1, z2⟩, x11, x12, x13, x14, x15, x16, x17⟩ := x'
  have bnd : ∀ i, i < b → (tC (D i)).length < 100000 := fun i hi => by
    have sg : (tC (D i)).length ≤ sumF (fun i => (tC (D i)).length) b := sumF_ge (fun i => (tC (D i)).length) b hi
    omega
  by_cases he : G 1212 = nI cm.length
  · have jx := kr_astray0 K N he
    rw [eX] at jx
    have ea : a0 = c := by
      rw [x14, q.2.2.1] at he
      exact (ni_inj (by omega) (by omega)).mp he
    obtain ⟨h2, y, jm, f, _, am⟩ := rf_astray s.2.2.2.1 q.1 N (by omega) (cpl_vt q) q.2.2.2.2.2.2.2.2.2.1.2.2 (okX_all b5 r5 caq)
    have e := astray_eq q K.pu x12 x13 bnd (x17 ea) am
    rw [e] at jx
    refine ⟨h, h2, y, jx, jm, step_id K s f (fo_X10_astray _ _ _ jm) (q.eqv (RfE.ro f (by decide) (by decide))) x rm hj1 (Nat.le_succ _) ?_ ?_⟩
    · have := f.1; omega
    · have := f.2.1; omega
  · have hs : ((List.range cm.length).map (ncl D cm)).sum ≤ nr - b := by
      rw [ncl_sum]
      have := sum_le (fun i => (tC (D i)).length) b cm ki.2.2.2.2.2.1 (fun i hi => by have := ki.2.2.2.2.1 i hi; rw [q.2.1] at this; exact this)
      omega
    have hmo : ∀ m i, cm[m]? = some i → (D i).1 1007 = nI (m + 1) := fun m i hm => by
      obtain ⟨u1, _, u3⟩ := q.2.2.2.2.2.2.1.2.1 m i hm
      exact (q.2.2.2.1 i u1).2.2.2.2.1.trans u3
    obtain ⟨h1, g', d', y, jx, ar, K1, w1, n1, u1⟩ := kr_astray1 K s.1 N hN he (by rw [q.2.2.1]; omega) (ki.st K.pu.1 K.pu.2.2.1) ki.2.2.2.2.1 hmo (T := nr - b) (by omega) hs (fun i hi => (rows_ok (caq.1 i (by have := ki.2.2.2.2.1 i hi; rw [q.2.1] at this; exact this))).1)
    rw [eX] at jx
    rw [q.2.2.1] at n1 u1 K1
    have m1 := mo_X9_astray _ _ _ jx
    obtain ⟨s1', e1⟩ := sd_cls s m1 (fo_X9_astray _ _ _ jx) w1
    have q0 := q.eqv e1
    obtain ⟨h2, y2', jm, f, _, am⟩ := rf_astray s1'.2.2.2.1 q0.1 N (by omega) (cpl_vt q0) q0.2.2.2.2.2.2.2.2.2.1.2.2 (okX_all b5 r5 q0.2.2.2.2.2.2.2.2.2.2.2.1)
    have e := astray_eq q0 K.pu x12 x13 bnd ar am
    rw [← e] at jm
    have q1 := cpl_G (G' := va_up (va_up G 1213 y) 1212 (nI c)) (q0.eqv (RfE.ro f (by decide) (by decide))) (by rw [va_up_ne _ _ (by decide), va_up_ne _ _ (by decide)])
    obtain ⟨K2, s2'⟩ := sd_ref K1 s1' f (fo_X10_astray _ _ _ jm)
    have n2 : h2.nx = h1.nx := f.1
    have u2 : h2.su = h1.su := f.2.1
    have mn := m1.2.1
    have mu := m1.2.2.1
    obtain ⟨r1, r2, r3⟩ := rm
    have an : a0 ≠ c := fun z => he (by rw [x14, z, q.2.2.1])
    refine ⟨h1, h2, y, jx, jm, _, _, _, _, _, _, _, _, _, _, _, _, _, _, _, _, _, _, _, _, _, _, _, _, _, nr, a + 1, c, sc, K2, s2', q1, ⟨⟨?_, x2, by omega, x4, x5, x6, by omega, x8, x9, hj1⟩, ⟨y1, y2, y3⟩, ⟨z1, z2⟩, x11, x12, x13, va_up_self _ _ _, by omega, Nat.le_refl _, fun _ => ?_⟩, by omega, by omega, r3⟩
    · rw [va_up_ne _ _ (by decide), va_up_ne _ _ (by decide)]
      exact x1
    · rw [va_up_ne _ _ (by decide), va_up_self]
      exact ar
end SOP4
