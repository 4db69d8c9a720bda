/-! a write, a place, coming back: both sides keep step -/
def ownD (D : Nat → TD) (i : Nat) (A : Shf) (L : List Kv) (P : List Nat) (n : Nat) (cs : List (Nat × Ck)) : Nat → TD := va_up D i ((D i).1, (D i).2.1, A, L, P, n, tS (D i), cs)
theorem ownD_eq (D : Nat → TD) (i : Nat) (A : Shf) (L : List Kv) (P : List Nat) (n : Nat) (cs : List (Nat × Ck)) : clD (vwD D i A L P n) i cs = ownD D i A L P n cs := by
  unfold clD vwD ownD
  rw [va_up_self]
  funext j
  by_cases e : j = i
  · rw [e, va_up_self, va_up_self]
  · rw [va_up_ne _ _ e, va_up_ne _ _ e, va_up_ne _ _ e]
theorem ownD_i (D : Nat → TD) (i : Nat) (A : Shf) (L : List Kv) (P : List Nat) (n : Nat) (cs : List (Nat × Ck)) : ownD D i A L P n cs i = ((D i).1, (D i).2.1, A, L, P, n, tS (D i), cs) := va_up_self _ _ _
theorem ownD_j (D : Nat → TD) {i j : Nat} (A : Shf) (L : List Kv) (P : List Nat) (n : Nat) (cs : List (Nat × Ck)) (e : j ≠ i) : ownD D i A L P n cs j = D j := va_up_ne _ _ e
section OW2
variable {h h' : Hp} {M b c w l v k r clk : Nat} {G G' : Nat → Int32} {fv : Int64} {V : List Kv} {ts : List Nat} {D D' : Nat → TD} {ac cm : List Nat} {ct rs : Nat → Int32} {R : List (Int32 × Int64)}
theorem Fld.upd (q : Fld h M b D) (e : ∀ i, i < b → (D' i).1 = (D i).1 ∧ (tP (D' i)).length = (tP (D i)).length) : Fld h M b D' := by
  intro i hi
  rw [(e i hi).1, (e i hi).2]
  exact q i hi
theorem Ouq.upd (q : Ouq h M b l v D) (e : ∀ i, i < b → (D' i).1 1008 = (D i).1 1008) : Ouq h M b l v D' := by
  intro i hi
  rw [e i hi]
  exact q i hi
theorem Loq.upd (q : Loq h M b l D) (e : ∀ i, i < b → tS (D' i) = tS (D i)) : Loq h M b l D' := by
  refine ⟨fun i hi => ?_, q.2⟩
  rw [e i hi]
  exact q.1 i hi
theorem Saq.upd (q : Saq h M b l v clk D) (e : ∀ i, i < b → (D' i).1 1010 = (D i).1 1010) : Saq h M b l v clk D' := by
  refine ⟨q.1, q.2.1, fun i hi a1 a2 => ?_⟩
  rw [e i hi]
  exact q.2.2 i hi a1 a2
theorem Whq.upd (q : Whq h M G fv rs) (e : G' 1209 = G 1209) : Whq h M G' fv rs := by
  unfold Whq at q ⊢
  rw [e]
  exact q
theorem ownD_F (i : Nat) (A : Shf) (L : List Kv) (P : List Nat) (n : Nat) (cs : List (Nat × Ck)) (j : Nat) : (ownD D i A L P n cs j).1 = (D j).1 ∧ tS (ownD D i A L P n cs j) = tS (D j) := by
  by_cases e : j = i
  · rw [e, ownD_i]; exact ⟨rfl, rfl⟩
  · rw [ownD_j D A L P n cs e]; exact ⟨rfl, rfl⟩
/-- rows of the log: what one more leaves -/
theorem log_rows {kind t key : Int32} (j : Nat) : (logH h M k kind t key).bi (M + 23) j = (if j = k then kind else h.bi (M + 23) j) ∧ (logH h M k kind t key).bi (M + 24) j = (if j = k then t else h.bi (M + 24) j) ∧ (logH h M k kind t key).bi (M + 25) j = (if j = k then key else h.bi (M + 25) j) := by
  unfold logH
  refine ⟨?_, ?_, ?_⟩
  · rw [pj_sgi_bi, bi_oth (by omega), bi_oth (by omega), bi_at]
  · rw [pj_sgi_bi, bi_oth (by omega), bi_at, bi_oth (by omega)]
  · rw [pj_sgi_bi, bi_at, bi_oth (by omega), bi_oth (by omega)]
theorem cpl_write (q : Cpl h M b c w l v k r clk G fv V ts D ac cm ct rs R) {i : Nat} (hi : i < b) (hw : w < 512) (hk : k < 512) (key : Int32) (x : Int64) {is : Int32} (his : is = 0 ∨ is = 1) (A' : Shf) (c0 : Nat) (hn : tN (D i) < 90000) (hG : G' 1209 = G 1209) : Cpl (wr2H h M w k (nI (i + 1)) key x is) M b c (w + 1) l v (k + 1) r clk G' fv V ts (ownD D i A' (tL (D i) ++ [(key, nI (tN (D i) + 1), (D i).1 1000, is, x)]) (tP (D i)) (tN (D i) + 1) (tC (D i) ++ [(c0, (3, key, 0, 0, is, x), none)])) ac cm ct rs R := by
  obtain ⟨q1, q2, q3, q4, q5, q6, q7, q8, q9, q10, q11, q12, q13, q14, q15, q16⟩ := q
  have hb := q1.2.2.2.2.2.2.2.1
  have f := wr2H.ro (h := h) (M := M) (w := w) (k := k) (t := nI (i + 1)) (key := key) (x := x) (is := is)
  have lr := fun j => log_rows (h := wrtH h M w (nI (i + 1)) key x is) (M := M) (k := k) (kind := if is = 0 then 6 else 5) (t := nI (i + 1)) (key := key) j
  have wa := fun j => wrtH.a (h := h) (M := M) (w := w) (t := nI (i + 1)) (key := key) (x := x) (is := is) j
  have e11 : ∀ j, (wr2H h M w k (nI (i + 1)) key x is).bi (M + 11) j = if j = w then nI (i + 1) else h.bi (M + 11) j := fun j => by
    unfold wr2H; rw [pj_sbw_bi, logH.ro.bi (by decide)]; exact (wa j).1
  have e12 : ∀ j, (wr2H h M w k (nI (i + 1)) key x is).bi (M + 12) j = if j = w then key else h.bi (M + 12) j := fun j => by
    unfold wr2H; rw [pj_sbw_bi, logH.ro.bi (by decide)]; exact (wa j).2.1
  have e13 : ∀ j, (wr2H h M w k (nI (i + 1)) key x is).bw (M + 13) j = if j = w then x else h.bw (M + 13) j := fun j => by
    unfold wr2H; rw [bw_oth (by omega), logH.ro.bw (by decide)]; exact (wa j).2.2.1
  have e14 : ∀ j, (wr2H h M w k (nI (i + 1)) key x is).bi (M + 14) j = if j = w then is else h.bi (M + 14) j := fun j => by
    unfold wr2H; rw [pj_sbw_bi, logH.ro.bi (by decide)]; exact (wa j).2.2.2
  have e23 : ∀ j, (wr2H h M w k (nI (i + 1)) key x is).bi (M + 23) j = if j = k then (if is = 0 then 6 else 5) else h.bi (M + 23) j := fun j => by
    unfold wr2H; rw [pj_sbw_bi, (lr j).1, wrtH.ro.bi (by decide)]
  have e24 : ∀ j, (wr2H h M w k (nI (i + 1)) key x is).bi (M + 24) j = if j = k then nI (i + 1) else h.bi (M + 24) j := fun j => by
    unfold wr2H; rw [pj_sbw_bi, (lr j).2.1, wrtH.ro.bi (by decide)]
  have e25 : ∀ j, (wr2H h M w k (nI (i + 1)) key x is).bi (M + 25) j = if j = k then key else h.bi (M + 25) j := fun j => by
    unfold wr2H; rw [pj_sbw_bi, (lr j).2.2, wrtH.ro.bi (by decide)]
  have e28 : ∀ j, (wr2H h M w k (nI (i + 1)) key x is).bw (M + 28) j = if j = k then x else h.bw (M + 28) j := fun j => by
    unfold wr2H; rw [bw_at, logH.ro.bw (by decide), wrtH.ro.bw (by decide)]
  have n' := wr2H.rn q1 hw hk (t := nI (i + 1)) (key := key) (x := x) (is := is)
  generalize wr2H h M w k (nI (i + 1)) key x is = h2 at f e11 e12 e13 e14 e23 e24 e25 e28 n' ⊢
  have e15 : h2.bi (M + 15) = h.bi (M + 15) := f.bi (by decide)
  have e10 : h2.bi (M + 10) = h.bi (M + 10) := f.bi (by decide)
  have eF := fun j => ownD_F (D := D) i A' (tL (D i) ++ [(key, nI (tN (D i) + 1), (D i).1 1000, is, x)]) (tP (D i)) (tN (D i) + 1) (tC (D i) ++ [(c0, (3, key, 0, 0, is, x), none)]) j
  have eP : ∀ j, tP (ownD D i A' (tL (D i) ++ [(key, nI (tN (D i) + 1), (D i).1 1000, is, x)]) (tP (D i)) (tN (D i) + 1) (tC (D i) ++ [(c0, (3, key, 0, 0, is, x), none)]) j) = tP (D j) := by
    intro j
    by_cases e : j = i
    · rw [e, ownD_i]
    · rw [ownD_j D _ _ _ _ _ e]
  have k4 : Fld h2 M b D := Fld.ro f (by decide) q4
  have k5 : Rng h2 M b c := Rng.ro f (by decide) q5
  have k7 : Lsq h2 M b ac cm := Lsq.ro f (by decide) q7
  have k8 : Ouq h2 M b l v D := Ouq.ro f (by decide) q8
  have k10 : Loq h2 M b l D := Loq.ro f (by decide) q10
  have k13 : Cnq h2 M b ct := Cnq.ro f (by decide) q13
  have k14 : Whq h2 M G fv rs := Whq.ro f (by decide) q14
  have k15 : Roq h2 M r R := Roq.ro f (by decide) (by decide) q15
  have k16 : Saq h2 M b l v clk D := Saq.ro f (by decide) (by decide) q16
  refine ⟨n', q2, q3, k4.upd (fun j _ => ⟨(eF j).1, by rw [eP j]⟩), k5, ?_, k7, k8.upd (fun j _ => by rw [(eF j).1]), ?_, k10.upd (fun j _ => (eF j).2), ?_, ?_, k13, k14.upd hG, k15, k16.upd (fun j _ => by rw [(eF j).1])⟩
  · refine ⟨?_, fun j h1 h2 => by rw [e15]; exact q6.2.1 j (by omega) h2, fun j hj => ?_, fun j h1 h2 => by rw [f.bi (by decide)]; exact q6.2.2.2.1 j (by omega) h2, fun j hj => ?_⟩
    · rw [f.bi (by decide), f.bi (by decide), f.bi (by decide), f.bi (by decide)]
      exact q6.1
    · rw [e15]
      by_cases e : j = w
      · rw [e]; exact Or.inl (q6.2.1 w (Nat.le_refl _) (by omega))
      · exact q6.2.2.1 j (by omega)
    · rw [e11]
      by_cases e : j = w
      · rw [if_pos e]; exact ⟨i + 1, by omega, by omega, rfl⟩
      · rw [if_neg e]; exact q6.2.2.2.2 j (by omega)
  · intro j hj
    obtain ⟨o1, o2, o3⟩ := q9 j hj
    have oc : ownI h2 M w (j + 1) = ownI h M w (j + 1) := ownI_con (j + 1) (fun u hu => ⟨by rw [e11, if_neg (by omega)], by rw [e15]⟩)
    have own15 : h2.bi (M + 15) w = 0 := by rw [e15]; exact q6.2.1 w (Nat.le_refl _) (by omega)
    have old : ∀ L, F2 (fun (x : Kv) (u : Nat) => x.1 = h.bi (M + 12) u ∧ x.2.2.1 = nI (j + 1) ∧ x.2.2.2.1 = h.bi (M + 14) u ∧ x.2.2.2.2 = h.bw (M + 13) u ∧ ∀ (q p : Nat), (tP (D j))[q]? = some p → ∃ a, h.bi (M + 10) (10 * (j + 1) + q) = nI a ∧ a ≤ w ∧ (x.2.1 ≤ nI p ↔ u < a)) L (ownI h M w (j + 1)) → F2 (fun (x : Kv) (u : Nat) => x.1 = h2.bi (M + 12) u ∧ x.2.2.1 = nI (j + 1) ∧ x.2.2.2.1 = h2.bi (M + 14) u ∧ x.2.2.2.2 = h2.bw (M + 13) u ∧ ∀ (q p : Nat), (tP (D j))[q]? = some p → ∃ a, h2.bi (M + 10) (10 * (j + 1) + q) = nI a ∧ a ≤ w + 1 ∧ (x.2.1 ≤ nI p ↔ u < a)) L (ownI h2 M w (j + 1)) := by
      intro L fL
      rw [oc]
      refine F2.monoM (fun u hu y r => ?_) fL
      have ul := ownI_lt hu
      rw [e12, e13, e14, if_neg (by omega), if_neg (by omega), if_neg (by omega), e10]
      refine ⟨r.1, r.2.1, r.2.2.1, r.2.2.2.1, fun q p hp => ?_⟩
      obtain ⟨a, a1, a2, a3⟩ := r.2.2.2.2 q p hp
      exact ⟨a, a1, by omega, a3⟩
    have pl : ∀ (q p : Nat), (tP (D j))[q]? = some p → ∃ a, h2.bi (M + 10) (10 * (j + 1) + q) = nI a ∧ a ≤ w + 1 := by
      intro q p hp
      obtain ⟨_, a, a1, a2⟩ := o2 q p hp
      exact ⟨a, by rw [e10]; exact a1, by omega⟩
    unfold OwnR
    rw [eP j, ownI_s, e11, if_pos rfl]
    by_cases e : j = i
    · rw [e, ownD_i, if_pos ⟨rfl, own15⟩]
      rw [e] at old o1 o2 pl
      refine ⟨F2.snoc ?_ (old _ o1), fun q p hp => ⟨?_, pl q p hp⟩, by rw [e] at o3; exact o3⟩
      · refine ⟨?_, (q4 i hi).1, ?_, ?_, fun q p hp => ?_⟩
        · rw [e12, if_pos rfl]
        · rw [e14, if_pos rfl]
        · rw [e13, if_pos rfl]
        · obtain ⟨p1, a, a1, a2⟩ := o2 q p hp
          refine ⟨a, by rw [e10]; exact a1, by omega, fun u => ?_, fun u => by omega⟩
          have u : nI (tN (D i) + 1) ≤ nI p := u
          rw [ni_le (by omega) (by omega)] at u
          omega
      · have := (o2 q p hp).1
        show p ≤ tN (D i) + 1
        omega
    · rw [ownD_j D _ _ _ _ _ e, if_neg (fun u => e (by have := (ni_inj (by omega) (by omega)).mp u.1; omega)), List.append_nil]
      exact ⟨old _ o1, fun q p hp => ⟨(o2 q p hp).1, pl q p hp⟩, o3⟩
  · refine ⟨q11.1, ⟨fun j hj => ?_, fun j hj => by rw [f.bi (by decide)]; exact q11.2.1.2 j hj⟩, fun j y hy => ?_⟩
    · rw [e14]
      by_cases e : j = w
      · rw [if_pos e]; exact his
      · rw [if_neg e]; exact q11.2.1.1 j (by omega)
    · obtain ⟨a1, a2, a3, a4, a5, a6, u, u1, u2⟩ := q11.2.2 j y hy
      refine ⟨by rw [f.bi (by decide)]; exact a1, ?_, by rw [f.bi (by decide)]; exact a3, by rw [f.bi (by decide)]; exact a4, by rw [f.bw (by decide)]; exact a5, by rw [f.bi (by decide), f.bi (by decide)]; exact a6, u, by omega, ?_⟩
      · rw [a2, vMo.con f (by decide) (by decide)]
      · rw [e12, if_neg (by omega), f.bi (by decide)]
        exact u2
  · refine Caq.log q12 (h' := h2) (i := i) (y := (c0, (3, key, 0, 0, is, x), none)) (p' := 0) ?_ (by omega) (Nat.le_refl _) hi hb (by rw [e24, if_pos rfl]) ?_ ?_ (fun j hj e => ?_) ?_
    · refine ⟨fun j hj => ?_, fun e he => by rw [e12, if_neg (by omega)], fun j hj => by rw [f.bi (by decide), f.bw (by decide)]; exact ⟨rfl, rfl⟩⟩
      rw [e23, e24, e25, e28, if_neg (by omega), if_neg (by omega), if_neg (by omega), if_neg (by omega), f.bi (by decide), f.bi (by decide), f.bi (by decide), f.bi (by decide), f.bw (by decide), f.bi (by decide)]
      exact ⟨rfl, rfl, rfl, rfl, rfl, rfl, rfl, rfl, rfl, rfl⟩
    · refine Or.inr (Or.inr (Or.inr (Or.inl ⟨rfl, his, ?_, ?_, ?_, rfl, w, by omega, ?_⟩)))
      · rw [e23, if_pos rfl]
      · rw [e25, if_pos rfl]
      · rw [e28, if_pos rfl]
      · rw [e12, if_pos rfl]
    · rw [eP i]
      exact Or.inr (Or.inr ⟨show ¬ (3 : Int32) = 4 by decide, show ¬ (3 : Int32) = 5 by decide, rfl⟩)
    · rw [eP j, ownD_j D _ _ _ _ _ e]
      exact ⟨rfl, rfl⟩
    · rw [ownD_i]
end OW2
