/-! a commit refused -/
section TRI
variable {h hc h1 h2 h' : Hp} {M b c w l v k r clk y : Nat} {G G' : Nat → Int32} {fv : Int64} {V : List Kv} {ts : List Nat} {D D' : Nat → TD} {ac cm : List Nat} {ct rs : Nat → Int32} {R : List (Int32 × Int64)}
theorem rsnH_bi {a b c d : Int32} : (rsnH h M a b c d).bi = h.bi := by
  unfold rsnH
  rw [pj_sgi_bi, pj_sgi_bi, pj_sgi_bi, pj_sgi_bi]
theorem rsnH_bw {a b c d : Int32} : (rsnH h M a b c d).bw = h.bw := by
  unfold rsnH
  rw [pj_sgi_bw, pj_sgi_bw, pj_sgi_bw, pj_sgi_bw]
theorem rsnH_gl {a b c d : Int32} : (rsnH h M a b c d).gl = h.gl := by
  unfold rsnH
  rw [pj_sgi_gl, pj_sgi_gl, pj_sgi_gl, pj_sgi_gl]
theorem outS_cg {l' v' a n : Nat} {x : Int32} (e : ∀ u, 1 ≤ u → u < n → (outC h' M l' v' a u ↔ outC h M l v a u)) (m : ∀ u, 1 ≤ u → u < n → outC h M l v a u → h'.bi (M + 4) u = h.bi (M + 4) u) : outS h' M l' v' a n x ↔ outS h M l v a n x := by
  unfold outS
  refine or_congr (and_congr Iff.rfl ⟨fun z u u1 u2 y => z u u1 u2 ((e u u1 u2).mpr y), fun z u u1 u2 y => z u u1 u2 ((e u u1 u2).mp y)⟩) ⟨?_, ?_⟩
  · rintro ⟨u, u1, u2, u3, u4, u5, u6⟩
    have c3 := (e u u1 u2).mp u3
    refine ⟨u, u1, u2, c3, by rw [← m u u1 u2 c3]; exact u4, u5, fun u' v1 v2 v3 => ?_⟩
    rw [← m u' v1 v2 v3]
    exact u6 u' v1 v2 ((e u' v1 v2).mpr v3)
  · rintro ⟨u, u1, u2, u3, u4, u5, u6⟩
    refine ⟨u, u1, u2, (e u u1 u2).mpr u3, by rw [m u u1 u2 u3]; exact u4, u5, fun u' v1 v2 v3 => ?_⟩
    have c3 := (e u' v1 v2).mp v3
    rw [m u' v1 v2 c3]
    exact u6 u' v1 v2 c3
/-- OUT of the one on trial, and of those committed -/
theorem outS_cm (q : Cpl h M b c w l v k r clk G fv V ts D ac cm ct rs R) {i : Nat} (hi : i < b) (ai : h.bi (M + 1) (i + 1) = 1) (ch : CmH h M c w v (i + 1) y hc) {a : Nat} (ha : a < b) (aa : h.bi (M + 1) (a + 1) = 1 ∨ h.bi (M + 1) (a + 1) = 2) (np : h.bi (M + 1) (a + 1) = 1 → ¬ prec hc M l y (a + 1) (i + 1)) {x : Int32} : outS hc M l y (a + 1) (b + 1) x ↔ outS h M l v (a + 1) (b + 1) x := by
  refine outS_cg (fun u u1 u2 => ?_) (fun u u1 u2 z => ?_)
  · rw [outC_cm q hi ai ch ha aa u1 (by omega)]
    exact ⟨fun z => z.elim id (fun z => absurd z.2.2 (np z.2.1)), Or.inl⟩
  · rw [ch.2.2.1, if_neg (fun e => by have := z.1; rw [e, ai] at this; exact absurd this (by decide))]
/-- OUT of one at work that the one on trial overwrote -/
theorem outS_act (q : Cpl h M b c w l v k r clk G fv V ts D ac cm ct rs R) {i : Nat} (hi : i < b) (ai : h.bi (M + 1) (i + 1) = 1) (ch : CmH h M c w v (i + 1) y hc) {a : Nat} (ha : a < b) (aa : h.bi (M + 1) (a + 1) = 1) (pr : prec hc M l y (a + 1) (i + 1)) {o : Int32} (os : outS h M l v (a + 1) (b + 1) o) : outS hc M l y (a + 1) (b + 1) (if o = 0 then nI (c + 1) else o) := by
  have oc := fun u u1 (u2 : u ≤ b) => outC_cm q hi ai ch ha (Or.inl aa) (u := u) u1 u2
  have hc512 := q.1.2.2.2.2.2.2.2.2.1
  have mt : hc.bi (M + 4) (i + 1) = nI (c + 1) := by rw [ch.2.2.1, if_pos rfl]
  have mo : ∀ u, outC h M l v (a + 1) u → hc.bi (M + 4) u = h.bi (M + 4) u := fun u z => by
    rw [ch.2.2.1, if_neg (fun e => by have := z.1; rw [e, ai] at this; exact absurd this (by decide))]
  by_cases z : o = 0
  · rw [if_pos z]
    have none_ : ∀ u, 1 ≤ u → u < b + 1 → ¬ outC h M l v (a + 1) u := by
      rcases os with ⟨_, o2⟩ | ⟨_, _, _, _, _, o3, _⟩
      · exact o2
      · rw [z] at o3; exact absurd o3 (by decide)
    refine Or.inr ⟨i + 1, by omega, by omega, (oc (i + 1) (by omega) (by omega)).mpr (Or.inr ⟨rfl, aa, pr⟩), mt.symm, (ni_gz (by omega)).mpr (by omega), fun u u1 u2 u3 => ?_⟩
    rcases (oc u u1 (by omega)).mp u3 with x | x
    · exact absurd x (none_ u u1 u2)
    · rw [x.1, mt]; exact Int32.le_refl _
  · rw [if_neg z]
    rcases os with ⟨o1, _⟩ | ⟨u, u1, u2, u3, u4, u5, u6⟩
    · exact absurd o1 z
    · refine Or.inr ⟨u, u1, u2, (oc u u1 (by omega)).mpr (Or.inl u3), by rw [mo u u3]; exact u4, u5, fun u' v1 v2 v3 => ?_⟩
      rcases (oc u' v1 (by omega)).mp v3 with x | x
      · rw [mo u' x]; exact u6 u' v1 v2 x
      · rw [x.1, mt, u4]
        obtain ⟨_, _, _, _, s, s1, s2, s3⟩ := q.2.2.2.2.1.2 u u1 (by omega)
        rcases s3 with s3 | ⟨_, m, m1, _, m3⟩
        · rcases s3.1 with y | y | y | y <;> rw [u3.1] at y <;> exact absurd y (by decide)
        · rw [m1, ni_le (by omega) (by omega)]; omega
theorem mayN_cm (q : Cpl h M b c w l v k r clk G fv V ts D ac cm ct rs R) {i : Nat} (hi : i < b) (ai : h.bi (M + 1) (i + 1) = 1) (ch : CmH h M c w v (i + 1) y hc) {a : Nat} (ha : a < b) (na : a ≠ i) (aa : h.bi (M + 1) (a + 1) = 1 ∨ h.bi (M + 1) (a + 1) = 2) : mayN hc M b l y (a + 1) (i + 1) ↔ mayNotF (D a).1 ((D i).1 1008) := by
  rw [← mayN_eq q.2.2.2.1 q.2.2.2.2.1 q.2.2.2.2.2.2.2.1 ha hi aa (Or.inl ai)]
  have np : ¬ prec hc M l y (i + 1) (i + 1) := fun z => z.1 rfl
  have e1 : hc.bi (M + 1) (a + 1) = h.bi (M + 1) (a + 1) := by rw [ch.2.1, if_neg (by omega)]
  have e4 : hc.bi (M + 4) (a + 1) = h.bi (M + 4) (a + 1) := by rw [ch.2.2.1, if_neg (by omega)]
  unfold mayN endT
  rw [ch.1.bi (show 2 ∉ _ by decide), ch.1.bi (show 3 ∉ _ by decide), e1, e4]
  exact ⟨fun ⟨x, x1, x2⟩ => ⟨x, (outS_cm q hi ai ch hi (Or.inl ai) (fun _ => np)).mp x1, x2⟩, fun ⟨x, x1, x2⟩ => ⟨x, (outS_cm q hi ai ch hi (Or.inl ai) (fun _ => np)).mpr x1, x2⟩⟩
/-- those gathered are those that precede -/
theorem gar_eq (q : Cpl h M b c w l v k r clk G fv V ts D ac cm ct rs R) {i s : Nat} (hi : i < b) (ai : h.bi (M + 1) (i + 1) = 1) (ch : CmH h M c w v (i + 1) y hc) {As : Shf} (hs : Srt As) (hn : ∀ y ∈ As, y.2 ≠ []) (bk : BkL As (tL (D i))) (eA : (D i).2.2.1 = As) (es : (D i).1 1001 = nI s) (hsc : s ≤ cm.length) {ot : List Nat} (ga : GaR D i (cm.drop s ++ ac) ot) (j : Nat) : j ∈ ot ↔ (j < b ∧ prec hc M l y (j + 1) (i + 1)) := by
  have q' := q
  obtain ⟨q1, q2, q3, q4, q5, q6, q7, q8, q9, q10, q11, q12, q13, q14, q15, q16⟩ := q'
  have hw := q1.2.2.2.2.2.2.2.2.2.1
  have hc512 : cm.length ≤ 512 := by rw [q3]; exact q1.2.2.2.2.2.2.2.2.1
  have ie : h.bi (M + 3) (i + 1) = nI s := by rw [← (q4 i hi).2.1]; exact es
  have mem : j ∈ cm.drop s ++ ac ↔ (j < b ∧ (h.bi (M + 1) (j + 1) = 1 ∨ (h.bi (M + 1) (j + 1) = 2 ∧ h.bi (M + 3) (i + 1) < h.bi (M + 4) (j + 1)))) := by
    rw [List.mem_append, q7.1]
    constructor
    · rintro (z | z)
      · obtain ⟨n, hn⟩ := List.getElem?_of_mem z
        rw [List.getElem?_drop] at hn
        obtain ⟨z1, z2, z3⟩ := q7.2.1 _ j hn
        have nl : s + n < cm.length := by
          rcases Nat.lt_or_ge (s + n) cm.length with q | q
          · exact q
          · rw [List.getElem?_eq_none q] at hn; cases hn
        refine ⟨z1, Or.inr ⟨z2, ?_⟩⟩
        rw [z3, ie, ni_lt (by omega) (by omega)]
        omega
      · exact ⟨z.1, Or.inl z.2⟩
    · rintro ⟨z1, z2 | ⟨z2, z3⟩⟩
      · exact Or.inr ⟨z1, z2⟩
      · left
        obtain ⟨m, hm⟩ := q7.2.2 j z1 z2
        obtain ⟨_, _, m3⟩ := q7.2.1 m j hm
        have ml : m < cm.length := by
          rcases Nat.lt_or_ge m cm.length with q | q
          · exact q
          · rw [List.getElem?_eq_none q] at hm; cases hm
        rw [m3, ie, ni_lt (by omega) (by omega)] at z3
        refine List.mem_of_getElem? (i := m - s) ?_
        rw [List.getElem?_drop, show s + (m - s) = m by omega]
        exact hm
  have keys : ∀ key, (∃ y ∈ As, y.1 = key) ↔ owns h M w (i + 1) key := by
    intro key
    have oe : owns h M w (i + 1) key ↔ chn (tL (D i)) key ≠ [] := own_eq hw (q9 i hi) key
    rw [oe, ← bk]
    constructor
    · rintro ⟨y, y1, y2⟩
      rw [← y2, look_mem hs (by rw [Prod.eta]; exact y1)]
      exact hn y y1
    · intro ne
      obtain ⟨n, hn'⟩ := look_some hs ne
      exact ⟨_, List.mem_of_getElem? hn', rfl⟩
  rw [ga.1 j, mem]
  unfold Rd
  rw [eA]
  constructor
  · rintro ⟨⟨z1, z2⟩, z3, z4, yv, y1, y2⟩
    refine ⟨z1, (prec_cm q hi ai ch z1).mpr ⟨z3, z2, ?_, yv.1, (keys _).mp ⟨yv, y1, rfl⟩, y2⟩⟩
    intro e7
    rw [(q4 j z1).2.2.1] at z4
    by_cases r0 : h.bi (M + 2) (j + 1) = 0
    · have := (q5.2 (j + 1) (by omega) (by omega)).2.2.1 r0
      rw [e7] at this
      exact absurd this (by decide)
    · rw [if_neg r0, e7] at z4
      exact z4 rfl
  · rintro ⟨z1, z2⟩
    obtain ⟨p1, p2, p3, key, p4, p5⟩ := (prec_cm q hi ai ch z1).mp z2
    obtain ⟨yv, y1, y2⟩ := (keys key).mpr p4
    refine ⟨⟨z1, p2⟩, p1, ?_, yv, y1, by rw [y2]; exact p5⟩
    rw [(q4 j z1).2.2.1]
    by_cases r0 : h.bi (M + 2) (j + 1) = 0
    · rw [if_pos r0]; decide
    · rw [if_neg r0]
      rcases (q5.2 (j + 1) (by omega) (by omega)).2.1 with x | x | x
      · rw [x]; decide
      · exact absurd x p3
      · rw [x]; decide
/-- what counts of the reference, but for the rows of versions -/
def RfV (M v : Nat) (h h' : Hp) : Prop := (∀ k, k ≤ 34 → k ≠ 19 → k ≠ 20 → k ≠ 21 → k ≠ 22 → h'.bi (M + k) = h.bi (M + k)) ∧ (∀ k ∈ [13, 28, 31, 34], h'.bw (M + k) = h.bw (M + k)) ∧ (∀ f, f ≠ 1300 → f < 1351 → h'.gi f M = h.gi f M) ∧ (∀ f, f ≠ 1300 → f ≠ 1328 → f < 1351 → h'.gl f M = h.gl f M) ∧ ∀ j, j < v → h'.bi (M + 19) j = h.bi (M + 19) j ∧ h'.bi (M + 20) j = h.bi (M + 20) j ∧ h'.bw (M + 21) j = h.bw (M + 21) j ∧ h'.bi (M + 22) j = h.bi (M + 22) j
/-- rows of versions that don't count -/
theorem cpl_vx (q : Cpl h M b c w l v k r clk G fv V ts D ac cm ct rs R) (g : RfV M v h h') : Cpl h' M b c w l v k r clk G fv V ts D ac cm ct rs R := by
  obtain ⟨q1, q2, q3, q4, q5, q6, q7, q8, q9, q10, q11, q12, q13, q14, q15, q16⟩ := q
  obtain ⟨gb, gw, gg, gl, rows⟩ := g
  have B : ∀ (S : List Nat), (∀ k ∈ S, k ≤ 34 ∧ k ≠ 19 ∧ k ≠ 20 ∧ k ≠ 21 ∧ k ≠ 22) → ∀ k ∈ S, h'.bi (M + k) = h.bi (M + k) := fun S hS k hk => gb k (hS k hk).1 (hS k hk).2.1 (hS k hk).2.2.1 (hS k hk).2.2.2.1 (hS k hk).2.2.2.2
  have b1 : h'.bi (M + 1) = h.bi (M + 1) := gb 1 (by decide) (by decide) (by decide) (by decide) (by decide)
  have b2 : h'.bi (M + 2) = h.bi (M + 2) := gb 2 (by decide) (by decide) (by decide) (by decide) (by decide)
  have b3 : h'.bi (M + 3) = h.bi (M + 3) := gb 3 (by decide) (by decide) (by decide) (by decide) (by decide)
  have b4 : h'.bi (M + 4) = h.bi (M + 4) := gb 4 (by decide) (by decide) (by decide) (by decide) (by decide)
  have b5 : h'.bi (M + 5) = h.bi (M + 5) := gb 5 (by decide) (by decide) (by decide) (by decide) (by decide)
  have b6 : h'.bi (M + 6) = h.bi (M + 6) := gb 6 (by decide) (by decide) (by decide) (by decide) (by decide)
  have b7 : h'.bi (M + 7) = h.bi (M + 7) := gb 7 (by decide) (by decide) (by decide) (by decide) (by decide)
  have b12 : h'.bi (M + 12) = h.bi (M + 12) := gb 12 (by decide) (by decide) (by decide) (by decide) (by decide)
  have b14 : h'.bi (M + 14) = h.bi (M + 14) := gb 14 (by decide) (by decide) (by decide) (by decide) (by decide)
  have b16 : h'.bi (M + 16) = h.bi (M + 16) := gb 16 (by decide) (by decide) (by decide) (by decide) (by decide)
  have b17 : h'.bi (M + 17) = h.bi (M + 17) := gb 17 (by decide) (by decide) (by decide) (by decide) (by decide)
  have b18 : h'.bi (M + 18) = h.bi (M + 18) := gb 18 (by decide) (by decide) (by decide) (by decide) (by decide)
  have oc : ∀ a u, outC h' M l v a u ↔ outC h M l v a u := by
    intro a u
    unfold outC prec inT endT rdK
    rw [b1, b3, b4, b7, b16, b17, b18]
    have e : (∃ j, j < v ∧ h'.bi (M + 20) j = nI u ∧ h.bi (M + 7) a ≠ 1 ∧ ∃ x, x < l ∧ h.bi (M + 16) x = nI a ∧ h.bi (M + 17) x ≤ h'.bi (M + 19) j ∧ h'.bi (M + 19) j ≤ h.bi (M + 18) x) ↔ (∃ j, j < v ∧ h.bi (M + 20) j = nI u ∧ h.bi (M + 7) a ≠ 1 ∧ ∃ x, x < l ∧ h.bi (M + 16) x = nI a ∧ h.bi (M + 17) x ≤ h.bi (M + 19) j ∧ h.bi (M + 19) j ≤ h.bi (M + 18) x) := by
      constructor
      · rintro ⟨j, j1, j2⟩
        rw [(rows j j1).1, (rows j j1).2.1] at j2
        exact ⟨j, j1, j2⟩
      · rintro ⟨j, j1, j2⟩
        refine ⟨j, j1, ?_⟩
        rw [(rows j j1).1, (rows j j1).2.1]
        exact j2
    rw [e]
  have os : ∀ a n x, outS h' M l v a n x ↔ outS h M l v a n x := fun a n x => outS_cg (fun u _ _ => oc a u) (fun u _ _ _ => by rw [b4])
  have vm : ∀ j, j < v → vMo h' M j = vMo h M j := by
    intro j hj
    unfold vMo
    rw [(rows j hj).2.1, b4]
  have jv : ∀ t x, jdV h' M b l v t x ↔ jdV h M b l v t x := by
    intro t x
    have bs : bdS h' M b l v t t ↔ bdS h M b l v t t := by
      unfold bdS bdC
      rw [b1, b2, b3, b5, b6]
      have : ∀ u x, outS h' M l v u (b + 1) x = outS h M l v u (b + 1) x := fun u x => propext (os u _ x)
      simp only [this]
    have ws : wtS h' M t ↔ wtS h M t := by
      unfold wtS
      rw [b1, b2]
    unfold jdV
    rw [bs, ws]
  refine ⟨?_, q2, q3, Fld.eb (B _ (by decide)) q4, Rng.eb (B _ (by decide)) q5, Fre.eb (B _ (by decide)) q6, Lsq.eb (B _ (by decide)) q7, fun i hi a => ?_, Owq.eb (B _ (by decide)) (fun k hk => gw k (by simp at hk ⊢; omega)) q9, Loq.eb (B _ (by decide)) q10, ⟨q11.1, ⟨fun j hj => ?_, fun j hj => ?_⟩, fun j x hx => ?_⟩, Caq.eb (B _ (by decide)) (fun k hk => gw k (by simp at hk ⊢; omega)) q12, Cnq.eb (B _ (by decide)) q13, Whq.eb (fun f hf => ⟨gg f (by simp at hf; omega) (by simp at hf; omega), gl f (by simp at hf; omega) (by simp at hf; omega) (by simp at hf; omega)⟩) q14, Roq.eb (B _ (by decide)) (fun k hk => gw k (by simp at hk ⊢; omega)) (fun f hf => ⟨gg f (by simp at hf; omega) (by simp at hf; omega), gl f (by simp at hf; omega) (by simp at hf; omega) (by simp at hf; omega)⟩) q15, ?_, fun t t1 t2 => ?_, fun i hi a1 a2 => ?_⟩
  · unfold Rn at q1 ⊢
    rw [gg 1311 (by decide) (by decide), gg 1312 (by decide) (by decide), gg 1319 (by decide) (by decide), gg 1323 (by decide) (by decide), gg 1328 (by decide) (by decide), gg 1339 (by decide) (by decide), gg 1342 (by decide) (by decide)]
    exact q1
  · rw [b1] at a
    exact (os _ _ _).mpr (q8 i hi a)
  · rw [b14]; exact q11.2.1.1 j hj
  · rw [(rows j hj).2.2.2]; exact q11.2.1.2 j hj
  · have jv : j < v := by
      rw [← q11.1]
      rcases Nat.lt_or_ge j V.length with z | z
      · exact z
      · rw [List.getElem?_eq_none z] at hx; cases hx
    have rj := rows j jv
    rw [rj.1, rj.2.1, rj.2.2.1, rj.2.2.2, vm j jv, b1, b12]
    exact q11.2.2 j x hx
  · rw [gg 1313 (by decide) (by decide)]; exact q16.1
  · rw [b1, b5, b6]
    exact q16.2.1 t t1 t2
  · rw [b1] at a1
    rw [b2] at a2
    have ws : wtS h' M (i + 1) ↔ wtS h M (i + 1) := by
      unfold wtS
      rw [b1, b2]
    rw [b1, b2, b7, jv, ws]
    exact q16.2.2 i hi a1 a2
theorem cpl_cdang (q : Cpl h M b c w l v k r clk G fv V ts D ac cm ct rs R) {i j : Nat} (hi : i < b) (ai : h.bi (M + 1) (i + 1) = 1) (hj : ac[j]? = some i) (nd : ac.Nodup) (ch : CmH h M c w v (i + 1) y hc) {ot : List Nat} (go : ∀ j, j ∈ ot ↔ (j < b ∧ prec hc M l y (j + 1) (i + 1))) {b0 a : Nat} (fd : Fdq D ((D i).1 1008) ot (some b0)) (a1 : 1 ≤ a) (a2 : a ≤ b) (wy : Wayq hc M b l y a (i + 1)) (fst : ∀ a', 1 ≤ a' → a' < a → ¬ Wayq hc M b l y a' (i + 1)) (dg : DgR hc M b l y a (i + 1) h1) (jd : JdR ((((h1.sgi 1328 M (nI v)).sbi (M + 4) (i + 1) 0).sbi (M + 1) (i + 1) 5).sbi (M + 6) (i + 1) (h.gi 1313 M)) M b l v (b + 1) h2) : Cpl h2 M b c w l v k r clk G fv V ts (endD D i (nI 5) (ac.eraseIdx j)) (ac.eraseIdx j) cm (endC ct 5) (va_up (va_up (va_up (va_up rs 0 2) 1 ((D b0).1 1000)) 2 ((D i).1 1000)) 3 (nmOf ts D cm ((D i).1 1008))) R := by
  have q' := q
  obtain ⟨q1, q2, q3, q4, q5, q6, q7, q8, q9, q10, q11, q12, q13, q14, q15, q16⟩ := q'
  have hb := q1.2.2.2.2.2.2.2.1
  have c512 := q1.2.2.2.2.2.2.2.2.1
  have hc512 : cm.length ≤ 512 := by rw [q3]; exact c512
  have way : ∀ x, x < b → (Wayq hc M b l y (x + 1) (i + 1) ↔ x ∈ ot ∧ mayNotF (D x).1 ((D i).1 1008)) := by
    intro x hx
    unfold Wayq
    rw [go]
    constructor
    · rintro ⟨p, m⟩
      have pp := (prec_cm q hi ai ch hx).mp p
      exact ⟨⟨hx, p⟩, (mayN_cm q hi ai ch hx pp.1 (pp.2.1.imp id (fun u => u.1))).mp m⟩
    · rintro ⟨⟨_, p⟩, m⟩
      have pp := (prec_cm q hi ai ch hx).mp p
      exact ⟨p, (mayN_cm q hi ai ch hx pp.1 (pp.2.1.imp id (fun u => u.1))).mpr m⟩
  rcases fd with ⟨z, _⟩ | ⟨k0, e0, m0, n0, min⟩
  · cases z
  · rw [← Option.some.inj e0] at m0 n0 min
    have bb := ((go b0).mp m0).1
    obtain ⟨a', rfl⟩ : ∃ a', a = a' + 1 := ⟨a - 1, by omega⟩
    have wa := (way a' (by omega)).mp wy
    have le1 := min a' wa.1 wa.2
    rw [(q4 b0 bb).1, (q4 a' (by omega)).1, ni_le (by omega) (by omega)] at le1
    have ab : a' = b0 := by
      rcases Nat.lt_or_ge b0 a' with z | z
      · exact absurd ((way b0 bb).mpr ⟨m0, n0⟩) (fst (b0 + 1) (by omega) (by omega))
      · omega
    obtain ⟨o, x, o1, o2, o3⟩ := dg
    rw [ab] at o3
    have np : ¬ prec hc M l y (i + 1) (i + 1) := fun z => z.1 rfl
    have oh := (outS_cm q hi ai ch hi (Or.inl ai) (fun _ => np)).mp o1
    have oe : o = (D i).1 1008 := oh.uniq (q8 i hi (Or.inl ai))
    have o0 : o ≠ 0 := by rw [oe]; exact n0.1
    have oc : o ≠ nI (c + 1) := by
      rcases oh with ⟨z, _⟩ | ⟨u, u1, u2, u3, u4, _⟩
      · exact absurd z o0
      · obtain ⟨_, _, _, _, s, s1, s2, s3⟩ := q5.2 u u1 (by omega)
        rcases s3 with s3 | ⟨_, m, m1, _, m3⟩
        · rcases s3.1 with y | y | y | y <;> rw [u3.1] at y <;> exact absurd y (by decide)
        · rw [u4, m1]
          exact fun z => by have := (ni_inj (by omega) (by omega)).mp z; omega
    have atx : atM h M b o x := by
      rcases o2 with ⟨x1, x2⟩ | ⟨x1, x2, x3, x4⟩
      · refine Or.inl ⟨x1, fun u u1 u2 z => x2 u u1 u2 ?_⟩
        have ut : u ≠ i + 1 := fun e => by rw [e, ai] at z; exact absurd z.1 (by decide)
        rw [ch.2.1, ch.2.2.1, if_neg ut, if_neg ut]
        exact z
      · have xt : x ≠ i + 1 := fun e => by
          rw [e, ch.2.2.1, if_pos rfl] at x4
          exact oc x4.symm
        rw [ch.2.1, if_neg xt] at x3
        rw [ch.2.2.1, if_neg xt] at x4
        exact Or.inr ⟨x1, x2, x3, x4⟩
    have nm : nmOf ts D cm ((D i).1 1008) = nI x := by
      rw [← oe]
      exact nm_eq q4 q5 q7 hc512 hb o0 oh.nn atx
    have i4 : h.bi (M + 4) (i + 1) = 0 := by
      obtain ⟨_, _, _, _, s, s1, s2, s3⟩ := q5.2 (i + 1) (by omega) (by omega)
      rcases s3 with s3 | ⟨z, _⟩
      · exact s3.2
      · rw [ai] at z; exact absurd z (by decide)
    -- the heap with how and end as they were
    obtain ⟨hX, eX⟩ : ∃ hX, hX = (((h1.sgi 1328 M (nI v)).sbi (M + 4) (i + 1) 0).sbi (M + 1) (i + 1) 5).sbi (M + 6) (i + 1) (h.gi 1313 M) := ⟨_, rfl⟩
    rw [← eX] at jd
    obtain ⟨hR, eR⟩ : ∃ hR, hR = rsnH h M 2 (nI (b0 + 1)) (nI (i + 1)) (nI x) := ⟨_, rfl⟩
    have qr := cpl_rsn q 2 (nI (b0 + 1)) (nI (i + 1)) (nI x)
    rw [← eR] at qr
    obtain ⟨hB, eB⟩ : ∃ hB, hB = (hX.sbi (M + 1) (i + 1) 1).sbi (M + 6) (i + 1) (h.bi (M + 6) (i + 1)) := ⟨_, rfl⟩
    have xb : ∀ k, k ≠ 1 → k ≠ 4 → k ≠ 6 → hX.bi (M + k) = hc.bi (M + k) := fun k z1 z4 z6 => by
      rw [eX, bi_oth (by omega), bi_oth (by omega), bi_oth (by omega), pj_sgi_bi, o3, rsnH_bi]
    have xw : ∀ k, hX.bw k = hc.bw k := fun k => by rw [eX, pj_sbi_bw, pj_sbi_bw, pj_sbi_bw, pj_sgi_bw, o3, rsnH_bw]
    have x1 : ∀ u, hX.bi (M + 1) u = if u = i + 1 then 5 else h.bi (M + 1) u := fun u => by
      rw [eX, bi_oth (by omega), bi_at, bi_oth (by omega), pj_sgi_bi, o3, rsnH_bi]
      show (if u = i + 1 then 5 else hc.bi (M + 1) u) = _
      rw [ch.2.1]
      by_cases z : u = i + 1
      · rw [if_pos z, if_pos z]
      · rw [if_neg z, if_neg z, if_neg z]
    have x4 : hX.bi (M + 4) = h.bi (M + 4) := by
      funext u
      rw [eX, bi_oth (by omega), bi_oth (by omega), bi_at, pj_sgi_bi, o3, rsnH_bi]
      show (if u = i + 1 then 0 else hc.bi (M + 4) u) = _
      rw [ch.2.2.1]
      by_cases z : u = i + 1
      · rw [if_pos z, z, i4]
      · rw [if_neg z, if_neg z]
    have x6 : ∀ u, hX.bi (M + 6) u = if u = i + 1 then h.gi 1313 M else h.bi (M + 6) u := fun u => by
      rw [eX, bi_at, bi_oth (by omega), bi_oth (by omega), pj_sgi_bi, o3, rsnH_bi]
      show (if u = i + 1 then h.gi 1313 M else hc.bi (M + 6) u) = _
      rw [ch.2.2.2.1]
      by_cases z : u = i + 1
      · rw [if_pos z, if_pos z]
      · rw [if_neg z, if_neg z]
    have xg : ∀ f, f ≠ 1300 → f < 1351 → hX.gi f M = hR.gi f M := fun f z1 z2 => by
      have e1 : hX.gi f M = ((rsnH hc M 2 (nI (b0 + 1)) (nI (i + 1)) (nI x)).sgi 1328 M (nI v)).gi f M := by rw [eX, pj_sbi_gi, pj_sbi_gi, pj_sbi_gi, o3]
      rw [e1, eR]
      by_cases z : f = 1328
      · rw [z, gi_same]
        unfold rsnH
        rw [gi_oth (by decide), gi_oth (by decide), gi_oth (by decide), gi_oth (by decide)]
        exact q1.2.2.2.2.1.symm
      · rw [gi_oth z]
        unfold rsnH
        by_cases y0 : f = 1350
        · rw [y0, gi_same, gi_same]
        · rw [gi_oth y0, gi_oth y0]
          by_cases y1 : f = 1349
          · rw [y1, gi_same, gi_same]
          · rw [gi_oth y1, gi_oth y1]
            by_cases y2 : f = 1348
            · rw [y2, gi_same, gi_same]
            · rw [gi_oth y2, gi_oth y2]
              by_cases y3 : f = 1347
              · rw [y3, gi_same, gi_same]
              · rw [gi_oth y3, gi_oth y3]
                exact ch.1.gi (by simp; omega)
    have rv : RfV M v hR hB := by
      refine ⟨fun k hk n19 n20 n21 n22 => ?_, fun k hk => ?_, fun f z1 z2 => ?_, fun f z1 z3 z2 => ?_, fun j hj => ?_⟩
      · have rR : hR.bi (M + k) = h.bi (M + k) := by rw [eR]; rfl
        rw [rR, eB]
        by_cases k1 : k = 1
        · rw [k1, bi_oth (by omega)]
          funext u
          rw [bi_at, x1]
          by_cases z : u = i + 1
          · rw [if_pos z, z, ai]
          · rw [if_neg z, if_neg z]
        · by_cases k6 : k = 6
          · rw [k6]
            funext u
            rw [bi_at, bi_oth (by omega), x6]
            by_cases z : u = i + 1
            · rw [if_pos z, z]
            · rw [if_neg z, if_neg z]
          · rw [bi_oth (by omega), bi_oth (by omega)]
            by_cases k4 : k = 4
            · rw [k4]; exact x4
            · rw [xb k k1 k4 k6]
              exact ch.1.bi (by simp; omega)
      · have rR : hR.bw (M + k) = h.bw (M + k) := by rw [eR]; rfl
        have e : hB.bw (M + k) = hX.bw (M + k) := by rw [eB]; rfl
        rw [rR, e, xw]
        exact ch.1.bw (by simp at hk ⊢; omega)
      · have e : hB.gi f M = hX.gi f M := by rw [eB]; rfl
        rw [e]; exact xg f z1 z2
      · have e : hB.gl f M = hc.gl f M := by rw [eB, pj_sbi_gl, pj_sbi_gl, eX, pj_sbi_gl, pj_sbi_gl, pj_sbi_gl, pj_sgi_gl, o3, rsnH_gl]
        have rR : hR.gl f M = h.gl f M := by rw [eR]; rfl
        rw [e, rR]
        exact ch.1.gl (by simp; omega)
      · have cv := ch.2.2.2.2.1 j hj
        have r19 : hR.bi (M + 19) j = h.bi (M + 19) j := by rw [eR]; rfl
        have r20 : hR.bi (M + 20) j = h.bi (M + 20) j := by rw [eR]; rfl
        have r21 : hR.bw (M + 21) j = h.bw (M + 21) j := by rw [eR]; rfl
        have r22 : hR.bi (M + 22) j = h.bi (M + 22) j := by rw [eR]; rfl
        have e21 : hB.bw (M + 21) = hc.bw (M + 21) := by
          have e : hB.bw (M + 21) = hX.bw (M + 21) := by rw [eB]; rfl
          rw [e, xw]
        rw [r19, r20, r21, r22, e21, eB, bi_oth (by omega), bi_oth (by omega), bi_oth (by omega), bi_oth (by omega), bi_oth (by omega), bi_oth (by omega), xb 19 (by decide) (by decide) (by decide), xb 20 (by decide) (by decide) (by decide), xb 22 (by decide) (by decide) (by decide)]
        exact cv
    have qB := cpl_vx qr rv
    have B1 : ∀ u, hB.bi (M + 1) u = if u = i + 1 then 1 else hX.bi (M + 1) u := fun u => by rw [eB, bi_oth (by omega), bi_at]
    have B6 : ∀ u, hB.bi (M + 6) u = if u = i + 1 then h.bi (M + 6) (i + 1) else hX.bi (M + 6) u := fun u => by rw [eB, bi_at, bi_oth (by omega)]
    have fX : RfO [1, 6] [] M hB hX := by
      refine ⟨by rw [eB]; rfl, by rw [eB]; rfl, by rw [eB]; rfl, by rw [eB]; rfl, by rw [eB]; rfl, by rw [eB]; rfl, fun f _ => by rw [eB]; rfl, fun f _ => by rw [eB]; rfl, fun k hk => ?_, fun k hk => by rw [eB]; rfl⟩
      rw [eB, bi_oth (fun z => hk (by rw [show k = 6 by omega]; decide)), bi_oth (fun z => hk (by rw [show k = 1 by omega]; decide))]
    have gc : hB.gi 1313 M = h.gi 1313 M := by
      have e : hB.gi 1313 M = hX.gi 1313 M := by rw [eB]; rfl
      rw [e, xg 1313 (by decide) (by decide), eR]
      exact rsnH.ro2.gi (by decide)
    rw [nm, (q4 b0 bb).1, (q4 i hi).1]
    refine cpl_endG (s := 5) qB hi (by rw [B1, if_pos rfl]) hj nd (Or.inr (Or.inr rfl)) fX (fun u => ?_) (fun u => ?_) jd
    · rw [x1, B1, x1]
      by_cases z : u = i + 1
      · rw [if_pos z, if_pos z]; rfl
      · rw [if_neg z, if_neg z, if_neg z]
    · rw [x6, B6, x6, gc]
      by_cases z : u = i + 1
      · rw [if_pos z, if_pos z]
      · rw [if_neg z, if_neg z, if_neg z]
end TRI
