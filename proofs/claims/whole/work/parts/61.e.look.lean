/-! a looking allowed -/
def ntO (o : Int32) (ms : List Int32) : Int32 := ms.foldl (fun o m => if o = 0 then m else if o ≤ m then o else m) o
theorem ntO_spec : ∀ (ms : List Int32) (o : Int32), 0 ≤ o.toInt → (∀ m ∈ ms, 0 < m.toInt) → (ntO o ms = o ∨ ntO o ms ∈ ms) ∧ (o ≠ 0 → ntO o ms ≤ o) ∧ (∀ m ∈ ms, ntO o ms ≤ m) ∧ (ntO o ms = 0 → o = 0 ∧ ms = []) ∧ 0 ≤ (ntO o ms).toInt := by
  intro ms
  induction ms with
  | nil => intro o h0 _; exact ⟨Or.inl rfl, fun _ => Int32.le_refl _, fun m hm => (by cases hm), fun z => ⟨z, rfl⟩, h0⟩
  | cons m ms ih =>
    intro o h0 hm
    have mp := hm m List.mem_cons_self
    have e : ntO o (m :: ms) = ntO (if o = 0 then m else if o ≤ m then o else m) ms := rfl
    rw [e]
    have m0 : m ≠ 0 := fun z => by rw [z, i0] at mp; omega
    have hms : ∀ x ∈ ms, 0 < x.toInt := fun x hx => hm x (List.mem_cons_of_mem _ hx)
    by_cases z : o = 0
    · rw [if_pos z]
      obtain ⟨a1, a2, a3, a4, a5⟩ := ih m (by omega) hms
      refine ⟨Or.inr (a1.elim (fun y => by rw [y]; exact List.mem_cons_self) (fun y => List.mem_cons_of_mem _ y)), fun y => absurd z y, fun x hx => ?_, fun y => absurd (a4 y).1 m0, a5⟩
      rcases List.mem_cons.mp hx with y | y
      · rw [y]; exact a2 m0
      · exact a3 x y
    · rw [if_neg z]
      by_cases y : o ≤ m
      · rw [if_pos y]
        obtain ⟨a1, a2, a3, a4, a5⟩ := ih o h0 hms
        refine ⟨a1.imp id (fun y => List.mem_cons_of_mem _ y), a2, fun x hx => ?_, fun u => absurd (a4 u).1 z, a5⟩
        rcases List.mem_cons.mp hx with u | u
        · rw [u]; exact Int32.le_trans (a2 z) y
        · exact a3 x u
      · rw [if_neg y]
        obtain ⟨a1, a2, a3, a4, a5⟩ := ih m (by omega) hms
        have mo : m ≤ o := by
          rw [Int32.le_iff_toInt_le] at y ⊢
          omega
        refine ⟨Or.inr (a1.elim (fun u => by rw [u]; exact List.mem_cons_self) (fun u => List.mem_cons_of_mem _ u)), fun _ => Int32.le_trans (a2 m0) mo, fun x hx => ?_, fun u => absurd (a4 u).1 m0, a5⟩
        rcases List.mem_cons.mp hx with u | u
        · rw [u]; exact a2 m0
        · exact a3 x u
theorem ntF (F : Nat → Int32) (x : Int32) : (noteOutF F x) 1008 = (if F 1008 = 0 then x else if F 1008 ≤ x then F 1008 else x) ∧ ∀ f, f ≠ 1008 → (noteOutF F x) f = F f := by
  unfold noteOutF
  by_cases z : F 1008 = 0
  · rw [if_pos z, if_pos z]
    exact ⟨va_up_self _ _ _, fun f hf => va_up_ne _ _ hf⟩
  · rw [if_neg z, if_neg z]
    by_cases y : F 1008 ≤ x
    · rw [if_pos y, if_pos y]
      exact ⟨rfl, fun _ _ => rfl⟩
    · rw [if_neg y, if_neg y]
      exact ⟨va_up_self _ _ _, fun f hf => va_up_ne _ _ hf⟩
theorem lkD_at (i : Nat) : ∀ (xs : List Nat) (D : Nat → TD), i ∉ xs → (∀ j, j ≠ i → (∀ f, (lkD D i xs j).1 f = if f = 1009 ∧ j ∈ xs then 1 else (D j).1 f) ∧ (lkD D i xs j).2 = (D j).2) ∧ (lkD D i xs i).2 = (D i).2 ∧ (lkD D i xs i).1 1008 = ntO ((D i).1 1008) (xs.map (fun x => (D x).1 1007)) ∧ ∀ f, f ≠ 1008 → (lkD D i xs i).1 f = (D i).1 f := by
  intro xs
  induction xs with
  | nil =>
    intro D _
    exact ⟨fun j _ => ⟨fun f => by rw [if_neg (fun z => by cases z.2)]; rfl, rfl⟩, rfl, rfl, fun _ _ => rfl⟩
  | cons x xs ih =>
    intro D no
    have nx : i ≠ x := fun e => no (by rw [e]; exact List.mem_cons_self)
    have nxs : i ∉ xs := fun e => no (List.mem_cons_of_mem _ e)
    have e : lkD D i (x :: xs) = lkD (lk1 D i x) i xs := rfl
    have l1 : ∀ j, j ≠ i → j ≠ x → lk1 D i x j = D j := fun j h1 h2 => by
      unfold lk1
      rw [va_up_ne _ _ h1, va_up_ne _ _ h2]
    have l2 : lk1 D i x x = (va_up (D x).1 1009 1, (D x).2) := by
      unfold lk1
      rw [va_up_ne _ _ (Ne.symm nx), va_up_self]
    have l3 : lk1 D i x i = (noteOutF (D i).1 ((D x).1 1007), (D i).2) := by
      unfold lk1
      rw [va_up_self]
    obtain ⟨a1, a2, a3, a4⟩ := ih (lk1 D i x) nxs
    rw [e]
    refine ⟨fun j hj => ⟨fun f => ?_, ?_⟩, ?_, ?_, fun f hf => ?_⟩
    · rw [(a1 j hj).1 f]
      by_cases z : f = 1009 ∧ j ∈ xs
      · rw [if_pos z, if_pos ⟨z.1, List.mem_cons_of_mem _ z.2⟩]
      · rw [if_neg z]
        by_cases y : j = x
        · rw [y, l2]
          by_cases u : f = 1009
          · rw [if_pos ⟨u, List.mem_cons_self⟩, u]
            show va_up (D x).1 1009 1 1009 = 1
            exact va_up_self _ _ _
          · rw [if_neg (fun w => u w.1)]
            exact va_up_ne _ _ u
        · rw [l1 j hj y, if_neg (fun w => z ⟨w.1, (List.mem_cons.mp w.2).resolve_left y⟩)]
    · rw [(a1 j hj).2]
      by_cases y : j = x
      · rw [y, l2]
      · rw [l1 j hj y]
    · rw [a2, l3]
    · rw [a3, l3]
      have ml : xs.map (fun y => (lk1 D i x y).1 1007) = xs.map (fun y => (D y).1 1007) := by
        refine List.map_congr_left (fun y hy => ?_)
        have yi : y ≠ i := fun z => nxs (by rw [← z]; exact hy)
        by_cases u : y = x
        · rw [u, l2]
          show va_up (D x).1 1009 1 1007 = _
          exact va_up_ne _ _ (by decide)
        · rw [l1 y yi u]
      rw [ml]
      show ntO (noteOutF (D i).1 ((D x).1 1007) 1008) _ = _
      rw [(ntF (D i).1 ((D x).1 1007)).1]
      rfl
    · rw [a4 f hf, l3]
      exact (ntF (D i).1 ((D x).1 1007)).2 f hf
section LOK
variable {h h1 h2 h' : Hp} {M b c w l v k r clk : Nat} {G G' : Nat → Int32} {fv : Int64} {V : List Kv} {ts : List Nat} {D D' : Nat → TD} {ac cm : List Nat} {ct rs : Nat → Int32} {R : List (Int32 × Int64)}
theorem lok_rows {t a z : Int32} (j : Nat) : (lokH h M l t a z).bi (M + 16) j = (if j = l then t else h.bi (M + 16) j) ∧ (lokH h M l t a z).bi (M + 17) j = (if j = l then a else h.bi (M + 17) j) ∧ (lokH h M l t a z).bi (M + 18) j = (if j = l then z else h.bi (M + 18) j) := by
  unfold lokH
  refine ⟨?_, ?_, ?_⟩
  · rw [pj_sgi_bi, bi_oth (by omega), bi_oth (by omega), bi_at]
  · rw [pj_sgi_bi, bi_oth (by omega), bi_at, bi_oth (by omega)]
  · rw [pj_sgi_bi, bi_at, bi_oth (by omega), bi_oth (by omega)]
theorem cpl_look {B : Shf} (q : Cpl h M b c w l v k r clk G fv V ts D ac cm ct rs R) (hs : Srt B) (bk : BkL B V) (as : Asc V) (hl : l < 512) {i kk : Nat} (hi : i < b) (ai : h.bi (M + 1) (i + 1) = 1) {lo hh y : Int32} (lh : lo.toInt ≤ hh.toInt) (ix : IsIx B lo.toInt kk) (fb : Fb D (D i).1 ((ovs B ((D i).1 1001) hh kk).map (ixm cm)) none) (lo_ : LooR h M b l v (i + 1) lo hh h' y) {la ha : Nat} {sp : List Iv} (isp : ∀ key, InS sp key ↔ (InS (tS (D i)) key ∨ (lo.toInt ≤ key.toInt ∧ key.toInt ≤ hh.toInt))) : y = 1 ∧ RfO [8, 16, 17, 18] [1323] M h h' ∧ Cpl h' M b c w (l + 1) v k r clk G fv V ts (if (D i).1 1005 = 2 then spD D i la ha sp else lkD (spD D i la ha sp) i ((ovs B ((D i).1 1001) hh kk).map (ixm cm))) ac cm ct rs R := by
  have q' := q
  obtain ⟨q1, q2, q3, q4, q5, q6, q7, q8, q9, q10, q11, q12, q13, q14, q15, q16⟩ := q'
  have hb := q1.2.2.2.2.2.2.2.1
  have hv := q1.2.2.2.2.2.2.2.2.2.2.2.1
  have hc : cm.length ≤ 512 := by rw [q3]; exact q1.2.2.2.2.2.2.2.2.1
  have st : (D i).1 1001 = h.bi (M + 3) (i + 1) := (q4 i hi).2.1
  rw [st] at fb ⊢
  obtain ⟨ot, eo⟩ : ∃ ot, ot = (ovs B (h.bi (M + 3) (i + 1)) hh kk).map (ixm cm) := ⟨_, rfl⟩
  rw [← eo] at fb ⊢
  have om : ∀ j, j ∈ ot ↔ ∃ x, x < v ∧ LkC h M (i + 1) lo hh x ∧ j + 1 ≤ b ∧ h.bi (M + 20) x = nI (j + 1) := fun j => by
    rw [eo]; exact ot_mem hs bk as q7 q11 hb hc (t := i + 1) (hi := hh) ix j
  have noF : ∀ j ∈ ot, ¬ mayNotF (D i).1 ((D j).1 1008) := by
    rcases fb with ⟨_, z⟩ | ⟨_, z, _⟩
    · exact z
    · cases z
  rcases lo_ with ⟨_, x, u, h1, u1, u2, _⟩ | ⟨y1, _, pr⟩
  · obtain ⟨u', rfl⟩ : ∃ u', u = u' + 1 := ⟨u - 1, by have := u2.2.1; omega⟩
    obtain ⟨_, v2, v3, v4, v5⟩ := (lkb_ot q hs bk as hi ai ix x u').mp ⟨u1, u2⟩
    exact absurd v5 (noF u' ((om u').mpr ⟨x, u1, v2, by omega, v4⟩))
  · refine ⟨y1, ?_⟩
    have fl := lokH.ro (h := h) (M := M) (l := l) (t := nI (i + 1)) (a := lo) (z := hh)
    have fp := pr.1
    have f : RfO [8, 16, 17, 18] [1323] M h h' := (fl.mono (by decide) (fun _ z => z)).tr (fp.mono (by decide) (fun _ z => nomatch z))
    refine ⟨f, ?_⟩
    have lr := fun j => lok_rows (h := h) (M := M) (l := l) (t := nI (i + 1)) (a := lo) (z := hh) j
    have e16 : ∀ j, h'.bi (M + 16) j = if j = l then nI (i + 1) else h.bi (M + 16) j := fun j => by rw [fp.bi (by decide)]; exact (lr j).1
    have e17 : ∀ j, h'.bi (M + 17) j = if j = l then lo else h.bi (M + 17) j := fun j => by rw [fp.bi (by decide)]; exact (lr j).2.1
    have e18 : ∀ j, h'.bi (M + 18) j = if j = l then hh else h.bi (M + 18) j := fun j => by rw [fp.bi (by decide)]; exact (lr j).2.2
    have lkc : ∀ x, LkC (lokH h M l (nI (i + 1)) lo hh) M (i + 1) lo hh x ↔ LkC h M (i + 1) lo hh x := by
      intro x
      unfold LkC
      rw [fl.bi (by decide), fl.bi (by decide), vMo.con fl (by decide) (by decide)]
    have e8 : ∀ j, j < b → (h.bi (M + 7) (i + 1) ≠ 1 ∧ j ∈ ot → h'.bi (M + 8) (j + 1) = 1) ∧ (¬ (h.bi (M + 7) (i + 1) ≠ 1 ∧ j ∈ ot) → h'.bi (M + 8) (j + 1) = h.bi (M + 8) (j + 1)) := by
      intro j hj
      have ee : (h.bi (M + 7) (i + 1) ≠ 1 ∧ j ∈ ot) ↔ ((lokH h M l (nI (i + 1)) lo hh).bi (M + 7) (i + 1) ≠ 1 ∧ ∃ x, x < v ∧ LkC (lokH h M l (nI (i + 1)) lo hh) M (i + 1) lo hh x ∧ (lokH h M l (nI (i + 1)) lo hh).bi (M + 20) x = nI (j + 1)) := by
        rw [fl.bi (by decide), fl.bi (by decide), om]
        refine and_congr Iff.rfl ⟨fun ⟨x, x1, x2, x3, x4⟩ => ⟨x, x1, (lkc x).mpr x2, x4⟩, fun ⟨x, x1, x2, x4⟩ => ⟨x, x1, (lkc x).mp x2, by omega, x4⟩⟩
      have p := pr.2 (j + 1) (by omega)
      refine ⟨fun z => p.1 (ee.mp z), fun z => ?_⟩
      rw [p.2 (fun u => z (ee.mpr u)), fl.bi (by decide)]
    have nit : i ∉ ot := by
      intro z
      obtain ⟨x, x1, x2, x3, x4⟩ := (om i).mp z
      obtain ⟨yv, hy⟩ : ∃ y, V[x]? = some y := ⟨_, List.getElem?_eq_getElem (by rw [q11.1]; exact x1)⟩
      obtain ⟨_, _, _, _, _, ⟨a, a1, a2, a3, a4⟩, _⟩ := q11.2.2 x yv hy
      rw [(ni_inj (by omega) (by omega)).mp (a3.symm.trans x4), ai] at a4
      exact absurd a4 (by decide)
    have com : ∀ j ∈ ot, j < b ∧ h.bi (M + 1) (j + 1) = 2 := by
      intro j z
      obtain ⟨x, x1, x2, x3, x4⟩ := (om j).mp z
      obtain ⟨yv, hy⟩ : ∃ y, V[x]? = some y := ⟨_, List.getElem?_eq_getElem (by rw [q11.1]; exact x1)⟩
      obtain ⟨_, _, _, _, _, ⟨a, a1, a2, a3, a4⟩, _⟩ := q11.2.2 x yv hy
      rw [(ni_inj (by omega) (by omega)).mp (a3.symm.trans x4)] at a4
      exact ⟨by omega, a4⟩
    have k2 : (D i).1 1005 = 2 ↔ h.bi (M + 7) (i + 1) = 1 := by
      rw [(q4 i hi).2.2.1]
      obtain ⟨r1, r2, r3, _⟩ := q5.2 (i + 1) (by omega) (by omega)
      by_cases z : h.bi (M + 2) (i + 1) = 0
      · rw [if_pos z, r3 z]; decide
      · rw [if_neg z]
        rcases r2 with x | x | x <;> rw [x] <;> decide
    -- the class's fields
    obtain ⟨D2, eD⟩ : ∃ D2, D2 = (if (D i).1 1005 = 2 then spD D i la ha sp else lkD (spD D i la ha sp) i ot) := ⟨_, rfl⟩
    rw [← eD]
    have spj : ∀ j, j ≠ i → spD D i la ha sp j = D j := fun j z => by unfold spD; exact va_up_ne _ _ z
    have spi : (spD D i la ha sp i).1 = (D i).1 ∧ tL (spD D i la ha sp i) = tL (D i) ∧ tP (spD D i la ha sp i) = tP (D i) ∧ tN (spD D i la ha sp i) = tN (D i) ∧ tS (spD D i la ha sp i) = sp ∧ tC (spD D i la ha sp i) = tC (D i) := by
      unfold spD
      rw [va_up_self]
      exact ⟨rfl, rfl, rfl, rfl, rfl, rfl⟩
    have lk := lkD_at i ot (spD D i la ha sp) nit
    have two : ∀ j, (D2 j).2 = (spD D i la ha sp j).2 := by
      intro j
      rw [eD]
      by_cases z : (D i).1 1005 = 2
      · rw [if_pos z]
      · rw [if_neg z]
        by_cases e : j = i
        · rw [e]; exact lk.2.1
        · exact (lk.1 j e).2
    have Fj : ∀ j, j ≠ i → ∀ f, (D2 j).1 f = if f = 1009 ∧ j ∈ ot ∧ h.bi (M + 7) (i + 1) ≠ 1 then 1 else (D j).1 f := by
      intro j hj f
      rw [eD]
      by_cases z : (D i).1 1005 = 2
      · rw [if_pos z, if_neg (fun u => u.2.2 (k2.mp z)), spj j hj]
      · rw [if_neg z, (lk.1 j hj).1 f, spj j hj]
        by_cases y : f = 1009 ∧ j ∈ ot
        · rw [if_pos y, if_pos ⟨y.1, y.2, fun u => z (k2.mpr u)⟩]
        · rw [if_neg y, if_neg (fun u => y ⟨u.1, u.2.1⟩)]
    have Fi : ∀ f, f ≠ 1008 → (D2 i).1 f = (D i).1 f := by
      intro f hf
      rw [eD]
      by_cases z : (D i).1 1005 = 2
      · rw [if_pos z, spi.1]
      · rw [if_neg z, lk.2.2.2 f hf, spi.1]
    have Fo : (h.bi (M + 7) (i + 1) = 1 ∧ (D2 i).1 1008 = (D i).1 1008) ∨ (h.bi (M + 7) (i + 1) ≠ 1 ∧ (D2 i).1 1008 = ntO ((D i).1 1008) (ot.map (fun x => (D x).1 1007))) := by
      rw [eD]
      by_cases z : (D i).1 1005 = 2
      · rw [if_pos z, spi.1]
        exact Or.inl ⟨k2.mp z, rfl⟩
      · rw [if_neg z, lk.2.2.1, spi.1]
        refine Or.inr ⟨fun u => z (k2.mpr u), ?_⟩
        congr 1
        refine List.map_congr_left (fun x hx => ?_)
        rw [spj x (fun e => nit (by rw [← e]; exact hx))]
    have d2 : ∀ j, j ≠ i → (D2 j).2 = (D j).2 := fun j hj => by rw [two, spj j hj]
    have eL : ∀ j, tL (D2 j) = tL (D j) ∧ tP (D2 j) = tP (D j) ∧ tN (D2 j) = tN (D j) ∧ tC (D2 j) = tC (D j) := by
      intro j
      have t1 : tL (D2 j) = tL (spD D i la ha sp j) ∧ tP (D2 j) = tP (spD D i la ha sp j) ∧ tN (D2 j) = tN (spD D i la ha sp j) ∧ tC (D2 j) = tC (spD D i la ha sp j) := by
        have := two j
        refine ⟨?_, ?_, ?_, ?_⟩
        · show (D2 j).2.2.2.1 = _; rw [this]
        · show (D2 j).2.2.2.2.1 = _; rw [this]
        · show (D2 j).2.2.2.2.2.1 = _; rw [this]
        · show (D2 j).2.2.2.2.2.2.2 = _; rw [this]
      by_cases e : j = i
      · rw [e] at t1 ⊢
        exact ⟨t1.1.trans spi.2.1, t1.2.1.trans spi.2.2.1, t1.2.2.1.trans spi.2.2.2.1, t1.2.2.2.trans spi.2.2.2.2.2⟩
      · rw [spj j e] at t1; exact t1
    -- reading keys
    have rk : ∀ a key, a ≤ b → (rdK h' M (l + 1) a key ↔ rdK h M l a key ∨ (a = i + 1 ∧ h.bi (M + 7) a ≠ 1 ∧ lo ≤ key ∧ key ≤ hh)) := by
      intro a key hab
      unfold rdK
      rw [f.bi (show 7 ∉ _ by decide)]
      constructor
      · rintro ⟨z, x, x1, x2, x3, x4⟩
        rw [e16] at x2; rw [e17] at x3; rw [e18] at x4
        by_cases e : x = l
        · rw [if_pos e] at x2 x3 x4
          exact Or.inr ⟨(ni_inj (by omega) (by omega)).mp x2.symm, z, x3, x4⟩
        · rw [if_neg e] at x2 x3 x4
          exact Or.inl ⟨z, x, by omega, x2, x3, x4⟩
      · rintro (⟨z, x, x1, x2, x3, x4⟩ | ⟨z1, z2, z3, z4⟩)
        · refine ⟨z, x, by omega, ?_, ?_, ?_⟩
          · rw [e16, if_neg (by omega)]; exact x2
          · rw [e17, if_neg (by omega)]; exact x3
          · rw [e18, if_neg (by omega)]; exact x4
        · refine ⟨z2, l, by omega, ?_, ?_, ?_⟩
          · rw [e16, if_pos rfl, z1]
          · rw [e17, if_pos rfl]; exact z3
          · rw [e18, if_pos rfl]; exact z4
    have oc : ∀ a u, a ≤ b → a ≠ i + 1 → (outC h' M (l + 1) v a u ↔ outC h M l v a u) := by
      intro a u hab na
      have rke : rdK h' M (l + 1) a = rdK h M l a := funext fun key => propext ((rk a key hab).trans ⟨fun z => z.elim id (fun z => absurd z.1 na), Or.inl⟩)
      unfold outC prec endT inT
      rw [rke, f.bi (show 1 ∉ _ by decide), f.bi (show 3 ∉ _ by decide), f.bi (show 4 ∉ _ by decide), f.bi (show 19 ∉ _ by decide), f.bi (show 20 ∉ _ by decide)]
    have os : ∀ a n x, a ≤ b → a ≠ i + 1 → (outS h' M (l + 1) v a n x ↔ outS h M l v a n x) := by
      intro a n x hab na
      have : outC h' M (l + 1) v a = outC h M l v a := funext fun u => propext (oc a u hab na)
      unfold outS
      rw [this, f.bi (show 4 ∉ _ by decide)]
    have oct : ∀ u, 1 ≤ u → u ≤ b → (outC h' M (l + 1) v (i + 1) u ↔ outC h M l v (i + 1) u ∨ (h.bi (M + 7) (i + 1) ≠ 1 ∧ u - 1 ∈ ot)) := by
      intro u u1 u2
      unfold outC prec endT inT
      rw [f.bi (show 1 ∉ _ by decide), f.bi (show 3 ∉ _ by decide), f.bi (show 4 ∉ _ by decide), f.bi (show 19 ∉ _ by decide), f.bi (show 20 ∉ _ by decide), if_pos ai]
      constructor
      · rintro ⟨a1, a2, a3, a4, a5, a6, a7, x, x1, x2, x3⟩
        rcases (rk (i + 1) _ (by omega)).mp x3 with z | z
        · exact Or.inl ⟨a1, a2, a3, a4, a5, a6, a7, x, x1, x2, z⟩
        · refine Or.inr ⟨z.2.1, (om (u - 1)).mpr ⟨x, x1, ⟨?_, ?_, ?_⟩, by omega, by rw [Nat.sub_add_cancel u1]; exact x2⟩⟩
          · have := z.2.2.1; rw [Int32.le_iff_toInt_le] at this; rw [Int32.lt_iff_toInt_lt]; omega
          · have := z.2.2.2; rw [Int32.le_iff_toInt_le] at this; rw [Int32.lt_iff_toInt_lt]; omega
          · rw [vMo_u (by omega) x2]; exact a6
      · rintro (⟨a1, a2, a3, a4, a5, a6, a7, x, x1, x2, x3⟩ | ⟨z1, z2⟩)
        · exact ⟨a1, a2, a3, a4, a5, a6, a7, x, x1, x2, (rk (i + 1) _ (by omega)).mpr (Or.inl x3)⟩
        · obtain ⟨x, x1, ⟨y1, y2, y3⟩, x3, x4⟩ := (om (u - 1)).mp z2
          rw [Nat.sub_add_cancel u1] at x4
          have cu := (com (u - 1) z2).2
          rw [Nat.sub_add_cancel u1] at cu
          rw [vMo_u (by omega) x4] at y3
          have mb : h.bi (M + 4) u < 2147483647 ∧ h.bi (M + 3) u < 2147483647 := by
            obtain ⟨_, _, _, _, s, s1, s2, s3⟩ := q5.2 u u1 u2
            have cc : c ≤ 512 := q1.2.2.2.2.2.2.2.2.1
            have e : (2147483647 : Int32) = nI 2147483647 := by decide
            rcases s3 with s3 | ⟨_, m, m1, m2, m3⟩
            · rcases s3.1 with y | y | y | y <;> rw [cu] at y <;> exact absurd y (by decide)
            · rw [m1, s1, e, ni_lt (by omega) (by omega), ni_lt (by omega) (by omega)]
              omega
          refine ⟨cu, mb.1, fun e => ?_, cu, Or.inl ai, y3, mb.2, x, x1, x4, (rk (i + 1) _ (by omega)).mpr (Or.inr ⟨rfl, z1, ?_, ?_⟩)⟩
          · rw [← e, ai] at cu; exact absurd cu (by decide)
          · rw [Int32.le_iff_toInt_le]; rw [Int32.lt_iff_toInt_lt] at y1; omega
          · rw [Int32.le_iff_toInt_le]; rw [Int32.lt_iff_toInt_lt] at y2; omega
    have jd : ∀ t x, t ≤ b → (jdV h' M b (l + 1) v t x ↔ jdV h M b l v t x) := by
      intro t x ht
      have bc : ∀ u, u < t → (bdC h' M b (l + 1) v t u ↔ bdC h M b l v t u) := by
        intro u hu
        unfold bdC
        rw [f.bi (show 1 ∉ _ by decide), f.bi (show 2 ∉ _ by decide), f.bi (show 3 ∉ _ by decide), f.bi (show 5 ∉ _ by decide), f.bi (show 6 ∉ _ by decide)]
        refine and_congr Iff.rfl ⟨fun z => ⟨z.1, z.2.1, ?_⟩, fun z => ⟨z.1, z.2.1, ?_⟩⟩
        · obtain ⟨o, o1, o2⟩ := z.2.2
          exact ⟨o, (os u _ _ (by omega) (fun e => by rw [e, ai] at z; exact absurd z.1 (by decide))).mp o1, o2⟩
        · obtain ⟨o, o1, o2⟩ := z.2.2
          exact ⟨o, (os u _ _ (by omega) (fun e => by rw [e, ai] at z; exact absurd z.1 (by decide))).mpr o1, o2⟩
      have b1 : bdS h' M b (l + 1) v t t ↔ bdS h M b l v t t := ⟨fun ⟨u, u1, u2, u3⟩ => ⟨u, u1, u2, (bc u u2).mp u3⟩, fun ⟨u, u1, u2, u3⟩ => ⟨u, u1, u2, (bc u u2).mpr u3⟩⟩
      have b2 : wtS h' M t ↔ wtS h M t := by
        unfold wtS
        rw [f.bi (show 1 ∉ _ by decide), f.bi (show 2 ∉ _ by decide)]
      unfold jdV
      rw [b1, b2]
    refine ⟨?_, q2, q3, fun j hj => ?_, ⟨fun t t' => by rw [f.bi (by decide)]; exact q5.1 t t', fun t t1 t2 => ?_⟩, ⟨fun t t1 t2 => ?_, fun j h1 h2 => by rw [f.bi (by decide)]; exact q6.2.1 j h1 h2, fun j hj => by rw [f.bi (by decide)]; exact q6.2.2.1 j hj, fun j h1 h2 => by rw [f.bi (by decide)]; exact q6.2.2.2.1 j h1 h2, fun j hj => by rw [f.bi (by decide)]; exact q6.2.2.2.2 j hj⟩, Lsq.ro f (by decide) q7, fun j hj a => ?_, fun j hj => ?_, ⟨fun j hj key => ?_, fun j hj => ?_, fun j hj => ?_⟩, Veq.ro f (by decide) q11, ⟨fun j hj => ?_, (Caq.ro f (by decide) q12).2⟩, Cnq.ro f (by decide) q13, Whq.ro f (by decide) q14, Roq.ro f (by decide) (by decide) q15, ?_, fun t t1 t2 => ?_, fun j hj a1 a2 => ?_⟩
    · exact fp.rn (lokH.rn q1 hl) (fun _ _ z => nomatch z)
    · obtain ⟨w1, w2, w3, w4, w5, w6, w7⟩ := q4 j hj
      rw [f.bi (show 1 ∉ _ by decide), f.bi (show 2 ∉ _ by decide), f.bi (show 3 ∉ _ by decide), f.bi (show 4 ∉ _ by decide), f.bi (show 7 ∉ _ by decide), f.bi (show 9 ∉ _ by decide), (eL j).2.1]
      by_cases e : j = i
      · rw [e] at w1 w2 w3 w4 w5 w6 w7 ⊢
        rw [Fi 1000 (by decide), Fi 1001 (by decide), Fi 1005 (by decide), Fi 1006 (by decide), Fi 1007 (by decide), Fi 1009 (by decide), (e8 i hi).2 (fun z => nit z.2)]
        exact ⟨w1, w2, w3, w4, w5, w6, w7⟩
      · have Fn : ∀ f, f ≠ 1009 → (D2 j).1 f = (D j).1 f := fun f hf => by rw [Fj j e f, if_neg (fun z => hf z.1)]
        rw [Fn 1000 (by decide), Fn 1001 (by decide), Fn 1005 (by decide), Fn 1006 (by decide), Fn 1007 (by decide), Fj j e 1009]
        refine ⟨w1, w2, w3, w4, w5, ?_, w7⟩
        by_cases z : h.bi (M + 7) (i + 1) ≠ 1 ∧ j ∈ ot
        · rw [if_pos ⟨rfl, z.2, z.1⟩, (e8 j hj).1 z]
        · rw [if_neg (fun u => z ⟨u.2.2, u.2.1⟩), (e8 j hj).2 z]
          exact w6
    · obtain ⟨r1, r2, r3, r4, r5⟩ := q5.2 t t1 t2
      rw [f.bi (show 1 ∉ _ by decide), f.bi (show 2 ∉ _ by decide), f.bi (show 3 ∉ _ by decide), f.bi (show 4 ∉ _ by decide), f.bi (show 7 ∉ _ by decide)]
      refine ⟨r1, r2, r3, ?_, r5⟩
      obtain ⟨t', rfl⟩ : ∃ t', t = t' + 1 := ⟨t - 1, by omega⟩
      by_cases z : h.bi (M + 7) (i + 1) ≠ 1 ∧ t' ∈ ot
      · exact Or.inr ((e8 t' (by omega)).1 z)
      · rw [(e8 t' (by omega)).2 z]; exact r4
    · rw [f.bi (show 4 ∉ _ by decide), f.bi (show 7 ∉ _ by decide), f.bi (show 9 ∉ _ by decide)]
      have : h'.bi (M + 8) t = h.bi (M + 8) t := by
        rw [(pr.2 t (by omega)).2 (fun z => ?_), fl.bi (by decide)]
        obtain ⟨_, x, x1, x2, x3⟩ := z
        rw [fl.bi (by decide)] at x3
        obtain ⟨yv, hy⟩ : ∃ y, V[x]? = some y := ⟨_, List.getElem?_eq_getElem (by rw [q11.1]; exact x1)⟩
        obtain ⟨_, _, _, _, _, ⟨a, a1, a2, a3, a4⟩, _⟩ := q11.2.2 x yv hy
        have := (ni_inj (by omega) (by omega)).mp (a3.symm.trans x3)
        omega
      rw [this]
      exact q6.1 t t1 t2
    · rw [f.bi (show 1 ∉ _ by decide)] at a
      by_cases e : j = i
      · rw [e]
        have o := q8 i hi (Or.inl ai)
        rcases Fo with ⟨z1, z2⟩ | ⟨z1, z2⟩
        · rw [z2]
          have oo : outC h' M (l + 1) v (i + 1) = outC h M l v (i + 1) := by
            funext u
            refine propext ⟨fun y => ?_, fun y => ?_⟩
            · obtain ⟨_, _, _, _, x, _, _, y2⟩ := y.2.2.2
              exact absurd (by rw [f.bi (show 7 ∉ _ by decide)]; exact z1) y2.1
            · obtain ⟨_, _, _, _, x, _, _, y2⟩ := y.2.2.2
              exact absurd z1 y2.1
          unfold outS at o ⊢
          rw [oo, f.bi (show 4 ∉ _ by decide)]
          exact o
        · rw [z2]
          have mpos : ∀ m ∈ ot.map (fun x => (D x).1 1007), 0 < m.toInt := by
            intro m hm
            obtain ⟨x, x1, x2⟩ := List.mem_map.mp hm
            obtain ⟨xb, xc⟩ := com x x1
            rw [← x2, (q4 x xb).2.2.2.2.1]
            obtain ⟨_, _, _, _, s, s1, s2, s3⟩ := q5.2 (x + 1) (by omega) (by omega)
            have cc : c ≤ 512 := q1.2.2.2.2.2.2.2.2.1
            rcases s3 with s3 | ⟨_, m, m1, m2, m3⟩
            · rcases s3.1 with y | y | y | y <;> rw [xc] at y <;> exact absurd y (by decide)
            · rw [m1, nI_toInt (by omega)]; omega
          obtain ⟨n1, n2, n3, n4, n5⟩ := ntO_spec (ot.map (fun x => (D x).1 1007)) ((D i).1 1008) o.nn mpos
          generalize ntO ((D i).1 1008) (ot.map (fun x => (D x).1 1007)) = rr at n1 n2 n3 n4 n5 ⊢
          have mem : ∀ x ∈ ot, rr ≤ h.bi (M + 4) (x + 1) := by
            intro x hx
            have := n3 _ (List.mem_map.mpr ⟨x, hx, rfl⟩)
            rw [(q4 x (com x hx).1).2.2.2.2.1] at this
            exact this
          by_cases r0 : rr = 0
          · obtain ⟨o0, oe⟩ := n4 r0
            have oe : ot = [] := List.map_eq_nil_iff.mp oe
            refine Or.inl ⟨r0, fun u u1 u2 z => ?_⟩
            rcases (oct u u1 (by omega)).mp z with y | y
            · rcases o with ⟨_, o2⟩ | ⟨_, _, _, _, _, o3, _⟩
              · exact o2 u u1 u2 y
              · rw [o0] at o3; exact absurd o3 (by decide)
            · rw [oe] at y; cases y.2
          · have rp : 0 < rr := by
              rw [Int32.lt_iff_toInt_lt, i0]
              have : rr.toInt ≠ 0 := fun z => r0 (Int32.toInt_inj.mp (z.trans i0.symm))
              omega
            have wit : ∃ u, 1 ≤ u ∧ u < b + 1 ∧ outC h' M (l + 1) v (i + 1) u ∧ rr = h'.bi (M + 4) u := by
              rw [f.bi (show 4 ∉ _ by decide)]
              rcases n1 with z | z
              · rcases o with ⟨o1, _⟩ | ⟨u, u1, u2, u3, u4, _⟩
                · exact absurd (z.trans o1) r0
                · exact ⟨u, u1, u2, (oct u u1 (by omega)).mpr (Or.inl u3), z.trans u4⟩
              · obtain ⟨x, x1, x2⟩ := List.mem_map.mp z
                obtain ⟨xb, _⟩ := com x x1
                rw [(q4 x xb).2.2.2.2.1] at x2
                exact ⟨x + 1, by omega, by omega, (oct (x + 1) (by omega) (by omega)).mpr (Or.inr ⟨z1, by rw [Nat.add_sub_cancel]; exact x1⟩), x2.symm⟩
            obtain ⟨u, u1, u2, u3, u4⟩ := wit
            refine Or.inr ⟨u, u1, u2, u3, u4, rp, fun u' v1 v2 v3 => ?_⟩
            rw [f.bi (show 4 ∉ _ by decide)]
            rcases (oct u' v1 (by omega)).mp v3 with y | y
            · rcases o with ⟨_, o2⟩ | ⟨_, _, _, _, _, o3, o4⟩
              · exact absurd y (o2 u' v1 v2)
              · have : (D i).1 1008 ≠ 0 := fun z => by rw [z] at o3; exact absurd o3 (by decide)
                exact Int32.le_trans (n2 this) (o4 u' v1 v2 y)
            · have := mem (u' - 1) y.2
              rw [Nat.sub_add_cancel v1] at this
              exact this
      · rw [Fj j e 1008, if_neg (fun z => absurd z.1 (by decide))]
        exact (os (j + 1) _ _ (by omega) (by omega)).mpr (q8 j hj a)
    · rw [(eL j).1, (eL j).2.1, (eL j).2.2.1]
      exact Owq.ro f (by decide) q9 j hj
    · by_cases e : j = i
      · have t5 : tS (D2 i) = sp := by
          show (D2 i).2.2.2.2.2.2.1 = sp
          rw [two i]; exact spi.2.2.2.2.1
        rw [e, t5, isp, q10.1 i hi key]
        constructor
        · rintro (⟨x, x1, x2, x3, x4⟩ | z)
          · refine ⟨x, by omega, ?_, ?_, ?_⟩
            · rw [e16, if_neg (by omega)]; exact x2
            · rw [e17, if_neg (by omega)]; exact x3
            · rw [e18, if_neg (by omega)]; exact x4
          · refine ⟨l, by omega, ?_, ?_, ?_⟩
            · rw [e16, if_pos rfl]
            · rw [e17, if_pos rfl, Int32.le_iff_toInt_le]; exact z.1
            · rw [e18, if_pos rfl, Int32.le_iff_toInt_le]; exact z.2
        · rintro ⟨x, x1, x2, x3, x4⟩
          rw [e16] at x2; rw [e17] at x3; rw [e18] at x4
          by_cases e : x = l
          · rw [if_pos e] at x3 x4
            rw [Int32.le_iff_toInt_le] at x3 x4
            exact Or.inr ⟨x3, x4⟩
          · rw [if_neg e] at x2 x3 x4
            exact Or.inl ⟨x, by omega, x2, x3, x4⟩
      · have t5 : tS (D2 j) = tS (D j) := by
          show (D2 j).2.2.2.2.2.2.1 = _
          rw [d2 j e]
        rw [t5, q10.1 j hj key]
        constructor
        · rintro ⟨x, x1, x2, x3, x4⟩
          refine ⟨x, by omega, ?_, ?_, ?_⟩
          · rw [e16, if_neg (by omega)]; exact x2
          · rw [e17, if_neg (by omega)]; exact x3
          · rw [e18, if_neg (by omega)]; exact x4
        · rintro ⟨x, x1, x2, x3, x4⟩
          rw [e16] at x2; rw [e17] at x3; rw [e18] at x4
          by_cases u : x = l
          · rw [if_pos u] at x2
            exact absurd ((ni_inj (by omega) (by omega)).mp x2) (by omega)
          · rw [if_neg u] at x2 x3 x4
            exact ⟨x, by omega, x2, x3, x4⟩
    · rw [e17, e18]
      by_cases e : j = l
      · rw [if_pos e, if_pos e, Int32.le_iff_toInt_le]; exact lh
      · rw [if_neg e, if_neg e]
        exact q10.2.1 j (by omega)
    · rw [e16]
      by_cases e : j = l
      · rw [if_pos e]
        exact ⟨i + 1, by omega, by omega, rfl⟩
      · rw [if_neg e]
        exact q10.2.2 j (by omega)
    · rw [(eL j).2.2.2, (eL j).2.1]
      exact (Caq.ro f (by decide) q12).1 j hj
    · rw [f.gi (by decide)]; exact q16.1
    · rw [f.bi (show 1 ∉ _ by decide), f.bi (show 5 ∉ _ by decide), f.bi (show 6 ∉ _ by decide)]
      exact q16.2.1 t t1 t2
    · rw [f.bi (show 1 ∉ _ by decide)] at a1
      rw [f.bi (show 2 ∉ _ by decide)] at a2
      obtain ⟨s1, s2, s3⟩ := q16.2.2 j hj a1 a2
      have F10 : (D2 j).1 1010 = (D j).1 1010 := by
        by_cases e : j = i
        · rw [e]; exact Fi 1010 (by decide)
        · rw [Fj j e 1010, if_neg (fun z => absurd z.1 (by decide))]
      rw [F10, f.bi (show 1 ∉ _ by decide), f.bi (show 2 ∉ _ by decide), f.bi (show 7 ∉ _ by decide), jd (j + 1) 0 (by omega)]
      refine ⟨s1, s2, fun z => ?_⟩
      unfold wtS
      rw [f.bi (show 1 ∉ _ by decide), f.bi (show 2 ∉ _ by decide)]
      exact s3 z
end LOK
