/-! a looking refused -/
section DNG
variable {h h1 h2 h' : Hp} {M b c w l v k r clk : Nat} {G G' : Nat → Int32} {fv : Int64} {V : List Kv} {ts : List Nat} {D D' : Nat → TD} {ac cm : List Nat} {ct rs : Nat → Int32} {R : List (Int32 × Int64)}
theorem cpl_D (q : Cpl h M b c w l v k r clk G fv V ts D ac cm ct rs R) (e : ∀ i, i < b → (D' i).1 = (D i).1 ∧ tL (D' i) = tL (D i) ∧ tP (D' i) = tP (D i) ∧ tN (D' i) = tN (D i) ∧ tS (D' i) = tS (D i) ∧ tC (D' i) = tC (D i)) : Cpl h M b c w l v k r clk G fv V ts D' ac cm ct rs R := by
  obtain ⟨q1, q2, q3, q4, q5, q6, q7, q8, q9, q10, q11, q12, q13, q14, q15, q16⟩ := q
  refine ⟨q1, q2, q3, q4.upd (fun i hi => ⟨(e i hi).1, by rw [(e i hi).2.2.1]⟩), q5, q6, q7, q8.upd (fun i hi => by rw [(e i hi).1]), fun i hi => ?_, q10.upd (fun i hi => (e i hi).2.2.2.2.1), q11, ⟨fun i hi => ?_, q12.2⟩, q13, q14, q15, q16.upd (fun i hi => by rw [(e i hi).1])⟩
  · rw [(e i hi).2.1, (e i hi).2.2.1, (e i hi).2.2.2.1]
    exact q9 i hi
  · rw [(e i hi).2.2.2.2.2, (e i hi).2.2.1]
    exact q12.1 i hi
theorem rsnH.ro2 {a e d g : Int32} : RfO [] [1347, 1348, 1349, 1350] M h (rsnH h M a e d g) := (((RfO.sgi (by decide) _).tr (RfO.sgi (by decide) _)).tr (RfO.sgi (by decide) _)).tr (RfO.sgi (by decide) _)
theorem cpl_rsn (q : Cpl h M b c w l v k r clk G fv V ts D ac cm ct rs R) (a e d g : Int32) : Cpl (rsnH h M a e d g) M b c w l v k r clk G fv V ts D ac cm ct (va_up (va_up (va_up (va_up rs 0 a) 1 e) 2 d) 3 g) R := by
  obtain ⟨q1, q2, q3, q4, q5, q6, q7, q8, q9, q10, q11, q12, q13, q14, q15, q16⟩ := q
  have f := rsnH.ro2 (h := h) (M := M) (a := a) (e := e) (d := d) (g := g)
  have g7 : (rsnH h M a e d g).gi 1347 M = a := by unfold rsnH; rw [gi_oth (by decide), gi_oth (by decide), gi_oth (by decide), gi_same]
  have g8 : (rsnH h M a e d g).gi 1348 M = e := by unfold rsnH; rw [gi_oth (by decide), gi_oth (by decide), gi_same]
  have g9 : (rsnH h M a e d g).gi 1349 M = d := by unfold rsnH; rw [gi_oth (by decide), gi_same]
  have g0 : (rsnH h M a e d g).gi 1350 M = g := by unfold rsnH; rw [gi_same]
  refine ⟨f.rn q1 (by decide), q2, q3, Fld.ro f (fun _ _ z => nomatch z) q4, Rng.ro f (fun _ _ z => nomatch z) q5, Fre.ro f (fun _ _ z => nomatch z) q6, Lsq.ro f (fun _ _ z => nomatch z) q7, Ouq.ro f (fun _ _ z => nomatch z) q8, Owq.ro f (fun _ _ z => nomatch z) q9, Loq.ro f (fun _ _ z => nomatch z) q10, Veq.ro f (fun _ _ z => nomatch z) q11, Caq.ro f (fun _ _ z => nomatch z) q12, Cnq.ro f (fun _ _ z => nomatch z) q13, ⟨?_, ?_, ?_, ?_, ?_, ?_⟩, Roq.ro f (fun _ _ z => nomatch z) (by decide) q15, Saq.ro f (fun _ _ z => nomatch z) (by decide) q16⟩
  · rw [g7, va_up_ne _ _ (by decide), va_up_ne _ _ (by decide), va_up_ne _ _ (by decide), va_up_self]
  · rw [g8, va_up_ne _ _ (by decide), va_up_ne _ _ (by decide), va_up_self]
  · rw [g9, va_up_ne _ _ (by decide), va_up_self]
  · rw [g0, va_up_self]
  · rw [f.gi (by decide)]; exact q14.2.2.2.2.1
  · rw [f.gl (by decide)]; exact q14.2.2.2.2.2
theorem asc_le {V : List Kv} (as : Asc V) {i j : Nat} {x y : Kv} (hij : i ≤ j) (hx : V[i]? = some x) (hy : V[j]? = some y) : x.2.1 ≤ y.2.1 := by
  by_cases e : i = j
  · rw [e] at hx
    have : x = y := Option.some.inj (hx.symm.trans hy)
    rw [this]; exact Int32.le_refl _
  · have jl : j < V.length := by
      rcases Nat.lt_or_ge j V.length with z | z
      · exact z
      · rw [List.getElem?_eq_none z] at hy; cases hy
    have := (List.pairwise_iff_getElem.mp as) i j (by omega) jl (by omega)
    rw [List.getElem?_eq_getElem (by omega)] at hx
    rw [List.getElem?_eq_getElem jl] at hy
    rw [← Option.some.inj hx, ← Option.some.inj hy]
    exact this
/-- moments are told apart -/
theorem mom_inj (q7 : Lsq h M b ac cm) (hc : cm.length ≤ 512) {i j : Nat} (hi : i < b) (hj : j < b) (ci : h.bi (M + 1) (i + 1) = 2) (cj : h.bi (M + 1) (j + 1) = 2) (e : h.bi (M + 4) (i + 1) = h.bi (M + 4) (j + 1)) : i = j := by
  obtain ⟨m, hm⟩ := q7.2.2 i hi ci
  obtain ⟨n, hn⟩ := q7.2.2 j hj cj
  have m3 := (q7.2.1 m i hm).2.2
  have n3 := (q7.2.1 n j hn).2.2
  have ml : m < cm.length := by
    rcases Nat.lt_or_ge m cm.length with z | z
    · exact z
    · rw [List.getElem?_eq_none z] at hm; cases hm
  have nl : n < cm.length := by
    rcases Nat.lt_or_ge n cm.length with z | z
    · exact z
    · rw [List.getElem?_eq_none z] at hn; cases hn
  have : m = n := by
    have := (ni_inj (by omega) (by omega)).mp (m3.symm.trans (e.trans n3))
    omega
  rw [this, hn] at hm
  exact (Option.some.inj hm).symm
theorem outS.nn {a n : Nat} {x : Int32} (s : outS h M l v a n x) : 0 ≤ x.toInt := by
  rcases s with ⟨z, _⟩ | ⟨u, _, _, _, _, z, _⟩
  · rw [z]; exact Int.le_refl _
  · rw [Int32.lt_iff_toInt_lt, i0] at z
    omega
/-- who is forbidden, on both sides -/
theorem lkb_ot {B : Shf} (q : Cpl h M b c w l v k r clk G fv V ts D ac cm ct rs R) (hs : Srt B) (bk : BkL B V) (as : Asc V) {i kk : Nat} (hi : i < b) (ai : h.bi (M + 1) (i + 1) = 1) {lo hh : Int32} (ix : IsIx B lo.toInt kk) (x j : Nat) : (x < v ∧ LkB h M b l v (i + 1) lo hh x (j + 1)) ↔ (x < v ∧ LkC h M (i + 1) lo hh x ∧ j < b ∧ h.bi (M + 20) x = nI (j + 1) ∧ mayNotF (D i).1 ((D j).1 1008)) := by
  obtain ⟨q1, q2, q3, q4, q5, q6, q7, q8, q9, q10, q11, q12, q13, q14, q15, q16⟩ := q
  have hb := q1.2.2.2.2.2.2.2.1
  have cj : x < v → h.bi (M + 20) x = nI (j + 1) → j < b → h.bi (M + 1) (j + 1) = 2 := by
    intro xv e jb
    obtain ⟨y, hy⟩ : ∃ y, V[x]? = some y := ⟨_, List.getElem?_eq_getElem (by rw [q11.1]; exact xv)⟩
    obtain ⟨_, _, _, _, _, ⟨u, u1, u2, u3, u4⟩, _⟩ := q11.2.2 x y hy
    rw [(ni_inj (by omega) (by omega)).mp (u3.symm.trans e)] at u4
    exact u4
  constructor
  · rintro ⟨x1, x2, x3, x4, x5, x6⟩
    exact ⟨x1, x2, by omega, x5, (mayN_eq q4 q5 q8 hi (by omega) (Or.inl ai) (Or.inr (cj x1 x5 (by omega)))).mp x6⟩
  · rintro ⟨x1, x2, x3, x4, x5⟩
    exact ⟨x1, x2, by omega, by omega, x4, (mayN_eq q4 q5 q8 hi x3 (Or.inl ai) (Or.inr (cj x1 x4 x3))).mpr x5⟩
theorem cpl_dang {B : Shf} (q : Cpl h M b c w l v k r clk G fv V ts D ac cm ct rs R) (hs : Srt B) (bk : BkL B V) (as : Asc V) {i j kk b0 : Nat} (hi : i < b) (ai : h.bi (M + 1) (i + 1) = 1) (hj : ac[j]? = some i) (nd : ac.Nodup) {lo hh y : Int32} (ix : IsIx B lo.toInt kk) (fb : Fb D (D i).1 ((ovs B ((D i).1 1001) hh kk).map (ixm cm)) (some b0)) (lo_ : LooR h M b l v (i + 1) lo hh h' y) : y = 0 ∧ Cpl h' M b c w l v k r clk G fv V ts (endD D i (nI 5) (ac.eraseIdx j)) (ac.eraseIdx j) cm (endC ct 5) (va_up (va_up (va_up (va_up rs 0 2) 1 ((D i).1 1000)) 2 ((D b0).1 1000)) 3 (nmOf ts D cm ((D b0).1 1008))) R := by
  have q' := q
  obtain ⟨q1, q2, q3, q4, q5, q6, q7, q8, q9, q10, q11, q12, q13, q14, q15, q16⟩ := q'
  have hb := q1.2.2.2.2.2.2.2.1
  have hc : cm.length ≤ 512 := by rw [q3]; exact q1.2.2.2.2.2.2.2.2.1
  have st : (D i).1 1001 = h.bi (M + 3) (i + 1) := (q4 i hi).2.1
  rw [st] at fb
  have om := fun j => ot_mem hs bk as q7 q11 hb hc (t := i + 1) (hi := hh) ix j
  rcases fb with ⟨z, _⟩ | ⟨b', e0, m0, n0, min⟩
  · cases z
  · have e0 : b0 = b' := Option.some.inj e0
    rw [← e0] at m0 n0 min
    obtain ⟨x0, x1, x2, x3, x4⟩ := (om b0).mp m0
    have lb0 := (lkb_ot q hs bk as hi ai ix x0 b0).mpr ⟨x1, x2, by omega, x4, n0⟩
    rcases lo_ with ⟨y0, x, u, h1, u1, u2, u3, u4, u5⟩ | ⟨_, no, _⟩
    · refine ⟨y0, ?_⟩
      obtain ⟨u', rfl⟩ : ∃ u', u = u' + 1 := ⟨u - 1, by have := u2.2.1; omega⟩
      obtain ⟨_, v2, v3, v4, v5⟩ := (lkb_ot q hs bk as hi ai ix x u').mp ⟨u1, u2⟩
      have mu : u' ∈ (ovs B (h.bi (M + 3) (i + 1)) hh kk).map (ixm cm) := (om u').mpr ⟨x, u1, v2, by omega, v4⟩
      have mm := min u' mu v5
      have xle : x ≤ x0 := Nat.le_of_not_lt (fun z => u3 x0 (b0 + 1) z lb0.2)
      obtain ⟨yx, hx⟩ : ∃ y, V[x]? = some y := ⟨_, List.getElem?_eq_getElem (by rw [q11.1]; exact u1)⟩
      obtain ⟨y0', hx0⟩ : ∃ y, V[x0]? = some y := ⟨_, List.getElem?_eq_getElem (by rw [q11.1]; exact x1)⟩
      have al := asc_le as xle hx hx0
      have vx := q11.2.2 x yx hx
      have vx0 := q11.2.2 x0 y0' hx0
      rw [vx.2.1, vx0.2.1, vMo_u (show u' + 1 ≤ 512 by omega) v4, vMo_u (show b0 + 1 ≤ 512 by omega) x4] at al
      rw [(q4 b0 (by omega)).2.2.2.2.1, (q4 u' v3).2.2.2.2.1] at mm
      have cu : h.bi (M + 1) (u' + 1) = 2 := by
        obtain ⟨_, _, _, _, _, ⟨a, a1, a2, a3, a4⟩, _⟩ := vx
        rw [(ni_inj (by omega) (by omega)).mp (a3.symm.trans v4)] at a4
        exact a4
      have cb : h.bi (M + 1) (b0 + 1) = 2 := by
        obtain ⟨_, _, _, _, _, ⟨a, a1, a2, a3, a4⟩, _⟩ := vx0
        rw [(ni_inj (by omega) (by omega)).mp (a3.symm.trans x4)] at a4
        exact a4
      have ub : u' = b0 := mom_inj q7 hc v3 (by omega) cu cb (Int32.toInt_inj.mp (by
        rw [Int32.le_iff_toInt_le] at al mm
        omega))
      obtain ⟨o, x', o1, o2, o3⟩ := u4
      rw [ub] at o1 o3
      have oe : o = (D b0).1 1008 := o1.uniq (q8 b0 (by omega) (Or.inr cb))
      have nm : nmOf ts D cm ((D b0).1 1008) = nI x' := by
        rw [← oe]
        exact nm_eq q4 q5 q7 hc hb (by rw [oe]; exact n0.1) o1.nn o2
      have qr := cpl_rsn q 2 (nI (i + 1)) (nI (b0 + 1)) (nI x')
      rw [← o3] at qr
      have f := rsnH.ro2 (h := h) (M := M) (a := 2) (e := nI (i + 1)) (d := nI (b0 + 1)) (g := nI x')
      rw [← o3] at f
      rw [← f.gi (show 1313 ∉ _ by decide)] at u5
      have := cpl_end qr hi (by rw [f.bi (fun z => nomatch z)]; exact ai) hj nd (s := 5) (Or.inr (Or.inr rfl)) u5
      rw [nm, (q4 i hi).1, (q4 b0 (by omega)).1]
      exact this
    · exact absurd lb0.2 (no x0 (b0 + 1) x1)
end DNG
