/-! a looking call leaves its row; read -/
section ROW
variable {h h1 h2 h' : Hp} {M b c w l v k r clk : Nat} {G G' : Nat → Int32} {fv fv' : Int64} {V : List Kv} {ts : List Nat} {D D' : Nat → TD} {ac cm : List Nat} {ct rs : Nat → Int32} {R R' : List (Int32 × Int64)}
theorem clD_i {i : Nat} {cs : List (Nat × Ck)} : (clD D i cs i).1 = (D i).1 ∧ tL (clD D i cs i) = tL (D i) ∧ tP (clD D i cs i) = tP (D i) ∧ tN (clD D i cs i) = tN (D i) ∧ tS (clD D i cs i) = tS (D i) ∧ tC (clD D i cs i) = cs := by
  unfold clD
  rw [va_up_self]
  exact ⟨rfl, rfl, rfl, rfl, rfl, rfl⟩
theorem clD_j {i j : Nat} {cs : List (Nat × Ck)} (e : j ≠ i) : clD D i cs j = D j := va_up_ne _ _ e
theorem cpl_row {A Gf : List Nat} {r' i : Nat} {y : Nat × Ck} (q : Cpl h M b c w l v k r clk G fv V ts D ac cm ct rs R) (f : RfO A Gf M h h') (hA : ∀ x ∈ [1, 2, 3, 4, 5, 6, 7, 8, 9, 10, 11, 12, 13, 14, 15, 16, 17, 18, 19, 20, 21, 22], x ∉ A) (hG : 1313 ∉ Gf) (n' : Rn h' M b c w l v (k + 1) r') (kp : RwK h h' M k w r) (hr : r ≤ r') (hi : i < b) (e24 : h'.bi (M + 24) k = nI (i + 1)) (e29 : ∀ j, k + 1 ≤ j → j < 514 → h'.bi (M + 29) j = h.bi (M + 29) j) (row : RowM h' M w r' k y.2) (yk : y.2.1.1 ≠ 4 ∧ y.2.1.1 ≠ 5) (wh : Whq h' M G' fv' rs) (ro : Roq h' M r' R') : Cpl h' M b c w l v (k + 1) r' clk G' fv' V ts (clD D i (tC (D i) ++ [y])) ac cm ct rs R' := by
  obtain ⟨q1, q2, q3, q4, q5, q6, q7, q8, q9, q10, q11, q12, q13, q14, q15, q16⟩ := q
  have hb := q1.2.2.2.2.2.2.2.1
  have sub : ∀ (S : List Nat), (∀ x ∈ S, x ∈ [1, 2, 3, 4, 5, 6, 7, 8, 9, 10, 11, 12, 13, 14, 15, 16, 17, 18, 19, 20, 21, 22]) → ∀ x ∈ S, x ∉ A := fun S hS x hx => hA x (hS x hx)
  have eF : ∀ j, (clD D i (tC (D i) ++ [y]) j).1 = (D j).1 ∧ tL (clD D i (tC (D i) ++ [y]) j) = tL (D j) ∧ tP (clD D i (tC (D i) ++ [y]) j) = tP (D j) ∧ tN (clD D i (tC (D i) ++ [y]) j) = tN (D j) ∧ tS (clD D i (tC (D i) ++ [y]) j) = tS (D j) := by
    intro j
    by_cases e : j = i
    · rw [e]
      have := clD_i (D := D) (i := i) (cs := tC (D i) ++ [y])
      exact ⟨this.1, this.2.1, this.2.2.1, this.2.2.2.1, this.2.2.2.2.1⟩
    · rw [clD_j e]; exact ⟨rfl, rfl, rfl, rfl, rfl⟩
  refine ⟨n', q2, q3, (Fld.ro f (sub _ (by decide)) q4).upd (fun j _ => ⟨(eF j).1, by rw [(eF j).2.2.1]⟩), Rng.ro f (sub _ (by decide)) q5, ⟨fun t t1 t2 => ?_, fun j h1 h2 => by rw [f.bi (hA 15 (by decide))]; exact q6.2.1 j h1 h2, fun j hj => by rw [f.bi (hA 15 (by decide))]; exact q6.2.2.1 j hj, fun j h1 h2 => by rw [e29 j h1 h2]; exact q6.2.2.2.1 j (by omega) h2, fun j hj => by rw [f.bi (hA 11 (by decide))]; exact q6.2.2.2.2 j hj⟩, Lsq.ro f (sub _ (by decide)) q7, (Ouq.ro f (sub _ (by decide)) q8).upd (fun j _ => by rw [(eF j).1]), fun j hj => ?_, (Loq.ro f (sub _ (by decide)) q10).upd (fun j _ => (eF j).2.2.2.2), Veq.ro f (sub _ (by decide)) q11, ?_, Cnq.ro f (sub _ (by decide)) q13, wh, ro, (Saq.ro f (sub _ (by decide)) (fun x hx => by rw [List.mem_singleton.mp hx]; exact hG) q16).upd (fun j _ => by rw [(eF j).1])⟩
  · rw [f.bi (hA 4 (by decide)), f.bi (hA 7 (by decide)), f.bi (hA 8 (by decide)), f.bi (hA 9 (by decide))]
    exact q6.1 t t1 t2
  · rw [(eF j).2.1, (eF j).2.2.1, (eF j).2.2.2.1]
    exact Owq.ro f (sub _ (by decide)) q9 j hj
  · refine Caq.log (p' := 0) q12 kp (Nat.le_refl _) hr hi hb e24 row ?_ (fun j hj e => ?_) (clD_i (D := D)).2.2.2.2.2
    · rw [(eF i).2.2.1]
      exact Or.inr (Or.inr ⟨yk.1, yk.2, rfl⟩)
    · rw [(eF j).2.2.1, clD_j e]
      exact ⟨rfl, rfl⟩
/-- what found() leaves -/
theorem fnd_rows {key : Int32} {x : Int64} (j : Nat) : (fndH h M k key x).bi (M + 29) j = (if j = k then 1 else h.bi (M + 29) j) ∧ (fndH h M k key x).bi (M + 30) j = (if j = k then key else h.bi (M + 30) j) ∧ (fndH h M k key x).bw (M + 31) j = (if j = k then x else h.bw (M + 31) j) ∧ (fndH h M k key x).gi 1344 M = key ∧ (fndH h M k key x).gl 1343 M = x := by
  unfold fndH
  refine ⟨?_, ?_, ?_, ?_, ?_⟩
  · rw [pj_sbw_bi, bi_oth (by omega), bi_at, pj_sgl_bi, pj_sgi_bi]
  · rw [pj_sbw_bi, bi_at, bi_oth (by omega), pj_sgl_bi, pj_sgi_bi]
  · rw [bw_at, pj_sbi_bw, pj_sbi_bw, pj_sgl_bw, pj_sgi_bw]
  · rw [pj_sbw_gi, pj_sbi_gi, pj_sbi_gi, pj_sgl_gi, gi_same]
  · rw [pj_sbw_gl, pj_sbi_gl, pj_sbi_gl, gl_same]
/-- the row of read or near: found, or not -/
theorem cpl_fnd {i : Nat} {kind key : Int32} {hS : Hp} {y : Nat × Ck} {e : AnD} (q : Cpl h M b c w l v k r clk G fv V ts D ac cm ct rs R) (hi : i < b) (hk : k < 512) (fS : RfO [] [1351] M (logH h M k kind (nI (i + 1)) key) hS) (ye : y.2.2 = some e) (er : e.2.2.1 = []) (yk : y.2.1.1 ≠ 4 ∧ y.2.1.1 ≠ 5) (mk : ∀ h2 : Hp, h2.bi (M + 23) k = kind → h2.bi (M + 25) k = key → AnsM h2 M k (some e) → RowM h2 M w r k y.2) (cs : (h' = hS ∧ e.1 = 0 ∧ e.2.1 = none) ∨ ∃ fk fx, h' = fndH hS M k fk fx ∧ e.1 = 1 ∧ e.2.1 = some (fk, fx)) : h'.bi (M + 29) k = e.1 ∧ RfO [23, 24, 25, 29, 30, 31] [1339, 1343, 1344, 1351] M h h' ∧ Cpl h' M b c w l v (k + 1) r clk (match e.2.1 with | none => G | some z => va_up G 1209 z.1) (match e.2.1 with | none => fv | some z => z.2) V ts (clD D i (tC (D i) ++ [y])) ac cm ct rs R := by
  have q' := q
  obtain ⟨q1, q2, q3, q4, q5, q6, q7, q8, q9, q10, q11, q12, q13, q14, q15, q16⟩ := q'
  have fl := logH.ro (h := h) (M := M) (k := k) (kind := kind) (t := nI (i + 1)) (key := key)
  have lr := fun j => log_rows (h := h) (M := M) (k := k) (kind := kind) (t := nI (i + 1)) (key := key) j
  have nl := logH.rn q1 hk (kind := kind) (t := nI (i + 1)) (key := key)
  have f1 : RfO [23, 24, 25, 29, 30, 31] [1339, 1343, 1344, 1351] M h hS := (fl.mono (by decide) (by decide)).tr (fS.mono (fun _ z => nomatch z) (by decide))
  have s23 : hS.bi (M + 23) k = kind := by rw [fS.bi (fun z => nomatch z), (lr k).1, if_pos rfl]
  have s24 : hS.bi (M + 24) k = nI (i + 1) := by rw [fS.bi (fun z => nomatch z), (lr k).2.1, if_pos rfl]
  have s25 : hS.bi (M + 25) k = key := by rw [fS.bi (fun z => nomatch z), (lr k).2.2, if_pos rfl]
  have s29 : hS.bi (M + 29) = h.bi (M + 29) := by rw [fS.bi (fun z => nomatch z), fl.bi (by decide)]
  have kS : RwK h hS M k w r := by
    have k0 : RwK h (logH h M k kind (nI (i + 1)) key) M k w r := RwK.log (RfO.rf [] [] M h) (fun _ _ z => nomatch z)
    unfold RwK at k0 ⊢
    rw [fS.bi (fun z => nomatch z), fS.bi (fun z => nomatch z), fS.bi (fun z => nomatch z), fS.bi (fun z => nomatch z), fS.bi (fun z => nomatch z), fS.bi (fun z => nomatch z), fS.bi (fun z => nomatch z), fS.bi (fun z => nomatch z), fS.bi (fun z => nomatch z), fS.bi (fun z => nomatch z), fS.bw (fun z => nomatch z), fS.bw (fun z => nomatch z), fS.bw (fun z => nomatch z)]
    exact k0
  have nS := fS.rn nl (by decide)
  rcases cs with ⟨c1, c2, c3⟩ | ⟨fk, fx, c1, c2, c3⟩
  · rw [c1, c3]
    have z29 : hS.bi (M + 29) k = 0 := by rw [s29]; exact q6.2.2.2.1 k (Nat.le_refl _) (by omega)
    refine ⟨by rw [z29, c2], f1, cpl_row q f1 (by decide) (by decide) nS kS (Nat.le_refl _) hi s24 (fun j _ _ => by rw [s29]) (mk hS s23 s25 ⟨e, rfl, er, Or.inl ⟨c2, c3, z29⟩⟩) yk ?_ (Roq.ro f1 (by decide) (by decide) q15)⟩
    have fo : RfO [23, 24, 25] [1339, 1351] M h hS := (fl.mono (fun _ z => z) (by decide)).tr (fS.mono (fun _ z => nomatch z) (by decide))
    exact Whq.ro fo (by decide) q14
  · rw [c1, c3]
    have ff := fndH.ro (h := hS) (M := M) (k := k) (key := fk) (x := fx)
    have fr := fun j => fnd_rows (h := hS) (M := M) (k := k) (key := fk) (x := fx) j
    have f2 : RfO [23, 24, 25, 29, 30, 31] [1339, 1343, 1344, 1351] M h (fndH hS M k fk fx) := f1.tr (ff.mono (by decide) (by decide))
    refine ⟨by rw [(fr k).1, if_pos rfl, c2], f2, cpl_row q f2 (by decide) (by decide) (ff.rn nS (by decide)) ?_ (Nat.le_refl _) hi (by rw [ff.bi (by decide)]; exact s24) (fun j h1 h2 => by rw [(fr j).1, if_neg (by omega), s29]) (mk _ (by rw [ff.bi (by decide)]; exact s23) (by rw [ff.bi (by decide)]; exact s25) ⟨e, rfl, er, Or.inr ⟨c2, by rw [(fr k).1, if_pos rfl], by rw [c3, (fr k).2.1, (fr k).2.2.1, if_pos rfl, if_pos rfl]⟩⟩) yk ?_ (Roq.ro f2 (by decide) (by decide) q15)⟩
    · obtain ⟨k1, k2, k3⟩ := kS
      refine ⟨fun j hj => ?_, fun e he => by rw [ff.bi (by decide)]; exact k2 e he, fun j hj => by rw [ff.bi (by decide), ff.bw (by decide)]; exact k3 j hj⟩
      have fj := fr j
      rw [fj.1, fj.2.1, fj.2.2.1, if_neg (by omega), if_neg (by omega), if_neg (by omega), ff.bi (by decide), ff.bi (by decide), ff.bi (by decide), ff.bi (by decide), ff.bi (by decide), ff.bw (by decide), ff.bi (by decide)]
      exact k1 j hj
    · have fo : RfO [23, 24, 25, 29, 30, 31] [1339, 1343, 1344, 1351] M h (fndH hS M k fk fx) := f2
      refine ⟨?_, ?_, ?_, ?_, ?_, ?_⟩
      · rw [fo.gi (by decide)]; exact q14.1
      · rw [fo.gi (by decide)]; exact q14.2.1
      · rw [fo.gi (by decide)]; exact q14.2.2.1
      · rw [fo.gi (by decide)]; exact q14.2.2.2.1
      · show va_up G 1209 fk 1209 = _
        rw [va_up_self]; exact (fr k).2.2.2.1.symm
      · exact (fr k).2.2.2.2.symm
/-- read: the row -/
theorem cpl_read {i : Nat} {key x : Int32} {c0 : Nat} {e : AnD} (q : Cpl h M b c w l v k r clk G fv V ts D ac cm ct rs R) (hi : i < b) (hk : k < 512) (er : e.1 = (if visL (tL (D i)) V (h.bi (M + 3) (i + 1)) key = none then 0 else 1) ∧ e.2.1 = (visL (tL (D i)) V (h.bi (M + 3) (i + 1)) key).map (fun x => (key, x)) ∧ e.2.2.1 = []) (rd : RdR h M w v k (i + 1) key h' x) : x = e.1 ∧ RfO [23, 24, 25, 29, 30, 31] [1339, 1343, 1344, 1351] M h h' ∧ Cpl h' M b c w l v (k + 1) r clk (match e.2.1 with | none => G | some z => va_up G 1209 z.1) (match e.2.1 with | none => fv | some z => z.2) V ts (clD D i (tC (D i) ++ [(c0, (0, key, 0, 0, 0, 0), some e)])) ac cm ct rs R := by
  have q' := q
  obtain ⟨q1, q2, q3, q4, q5, q6, q7, q8, q9, q10, q11, q12, q13, q14, q15, q16⟩ := q'
  have hw := q1.2.2.2.2.2.2.2.2.2.1
  have hv := q1.2.2.2.2.2.2.2.2.2.2.2.1
  obtain ⟨hS, y, s1, s2⟩ := rd
  have fl := logH.ro (h := h) (M := M) (k := k) (kind := 1) (t := nI (i + 1)) (key := key)
  have se := see_eq hw hv (Owq.ro fl (by decide) q9 i hi) (Veq.ro fl (by decide) q11) s1
  rw [fl.bi (by decide)] at se
  have mk : ∀ h2 : Hp, h2.bi (M + 23) k = 1 → h2.bi (M + 25) k = key → AnsM h2 M k (some e) → RowM h2 M w r k ((0, key, 0, 0, 0, 0), some e) := fun h2 a1 a2 a3 => Or.inl ⟨rfl, a1, a2, a3, fun e' z h1 h2 => by
    rw [← Option.some.inj h1, er.2.1] at h2
    cases u : visL (tL (D i)) V (h.bi (M + 3) (i + 1)) key with
    | none => rw [u] at h2; exact nomatch h2
    | some x0 =>
      rw [u] at h2
      have h3 : (key, x0) = z := Option.some.inj h2
      rw [← h3]⟩
  have cs : (h' = hS ∧ e.1 = 0 ∧ e.2.1 = none) ∨ ∃ fk fx, h' = fndH hS M k fk fx ∧ e.1 = 1 ∧ e.2.1 = some (fk, fx) := by
    rcases s2 with ⟨y0, y1, y2⟩ | ⟨y0, y1, y2⟩
    · rcases se with ⟨z1, z2⟩ | ⟨z1, z2⟩
      · refine Or.inl ⟨y1, ?_, ?_⟩
        · rw [er.1, if_pos z1]
        · rw [er.2.1, z1]; rfl
      · exact absurd y0 z1
    · rcases se with ⟨z1, z2⟩ | ⟨z1, z2⟩
      · exact absurd z2 y0
      · refine Or.inr ⟨key, hS.gl 1351 M, y1, ?_, ?_⟩
        · rw [er.1, if_neg (by rw [z2]; exact fun u => nomatch u)]
        · rw [er.2.1, z2]; rfl
  obtain ⟨a1, a2, a3⟩ := cpl_fnd (y := (c0, (0, key, 0, 0, 0, 0), some e)) q hi hk s1.ro rfl er.2.2 ⟨show ¬ (0 : Int32) = 4 by decide, show ¬ (0 : Int32) = 5 by decide⟩ mk cs
  refine ⟨?_, a2, a3⟩
  rcases s2 with ⟨y0, y1, y2⟩ | ⟨y0, y1, y2⟩
  · rw [y2, ← a1, y1, s1.ro.bi (fun z => nomatch z), fl.bi (by decide)]
  · rw [y2, ← a1, y1, (fnd_rows k).1, if_pos rfl]
end ROW
