theorem Al.sfr {g : Nat → Nat} {h : Hp} {l : Nat} {xs : List Nat} (a : Al g h l xs) {f c : Nat} {v : Option Nat} (hc : c ≠ l ∨ f ≠ 201) : Al g (h.sfr f c v) l xs := by
  obtain ⟨a1, a2, a3, a4, e, a5, a6⟩ := a
  refine ⟨a1, a2, a3, a4, e, ?_, a6⟩
  rw [pj_sfr_fr]
  by_cases q : 201 = f
  · rw [if_pos q, if_neg (fun z => hc.elim (fun y => y z.symm) (fun y => y q.symm))]
    exact a5
  · rw [if_neg q]; exact a5
/-- room for one more put -/
def Pt (h h' : Hp) (l n : Nat) : Prop := h'.su + 4 * cap h l ≤ h.su + 7 + 4 * cap h' l ∧ cap h l ≤ cap h' l ∧ cap h' l ≤ max (cap h l) (2 * n + 10) ∧ h'.nx ≤ h.nx + 3 ∧ h'.su ≤ h.su + 2 * n + 17
theorem sh_len {g : Nat → Nat} {h : Hp} {s l : Nat} {L : List (Int32 × List Ent)} (q : Sh g h s l L) : L.length < 100000 := by
  obtain ⟨_, _, _, _, _, cs, q6, q7, _⟩ := q
  have := q6.2.1
  omega
/-- the top of a chain gets a new entry: the code from 37 on -/
theorem sh_top {g : Nat → Nat} {h : Hp} {s l c i : Nat} {L : List (Int32 × List Ent)} {cs : List Nat} {k : Int32} {ch : List Ent} (w : Wf g h) (N : Nat) (q1 : h.kd s = 8) (q2 : h.fr 800 s = some l) (q3 : g l = s) (q4 : Srt L) (q6 : Al g h l cs) (q7 : cs.length = L.length) (q8 : ∀ (i c : Nat) (y : Int32 × List Ent), cs[i]? = some c → L[i]? = some y → Chq g h s c y.1 y.2) (q9 : ∀ (j : Nat) (y : Int32 × List Ent), L[j]? = some y → j ≠ i → y.2 ≠ []) (hc : cs[i]? = some c) (hi : L[i]? = some (k, ch)) (hch : ch.length < 99999) (e : Ent) (he : e.2.2.1 = 0 ∨ e.2.2.1 = 1) : ∃ h2 g2, B_X5_put_37 N s h e.1 e.2.1 e.2.2.1 e.2.2.2 (some c) = some (h2, ()) ∧ Sh g2 h2 s l (L.set i (k, e :: ch)) ∧ Fr g g2 s h h2 ∧ cap h2 l = cap h l ∧ h2.nx = h.nx + 1 ∧ h2.su = h.su + 5 := by
  have hcc := q8 i c _ hc hi
  have hcn := w.lt hcc.1 (by decide)
  have hln := w.lt q6.1 (by decide)
  have hsn := w.lt q1 (by decide)
  have hcs : c ≠ s := ne_kd hcc.1 q1 (by decide)
  have hls : l ≠ s := ne_kd q6.1 q1 (by decide)
  have hcl : c ≠ l := ne_kd hcc.1 q6.1 (by decide)
  obtain ⟨h2, e1, e2, F, n1, n2⟩ := en_new w N hcc.2.2.2.1 e he
  have kc : h2.kd c = 6 := F.kd w hcc.1 (by decide)
  have gc : va_up g h.nx h.nx c = s := (F.gg w hcc.1 (by decide)).trans hcc.2.1
  have F2 := Fr.sfr F.wf (Un.rf _ c) 601 (some h.nx)
  have F3 : Fr g (va_up g h.nx h.nx) s h (h2.sfr 601 c (some h.nx)) := (F.any w (Nat.le_refl _) s).tru w F2 (Un.ch hcc.2.1)
  have Al2 := q6.fr w F (sep_ge w (Nat.le_refl _) hln)
  refine ⟨h2.sfr 601 c (some h.nx), va_up g h.nx h.nx, ?_, ⟨?_, ?_, ?_, q4.set hi, ?_, cs, Al2.sfr (Or.inl hcl), ?_, ?_⟩, F3, ?_, n1, n2⟩
  · unfold B_X5_put_37 B_X5_put_42
    refine (dr_e (by exact rfl) (by exact (new_kd_ne w hcc.1 (by decide)))).trans ?_
    refine (dr_e (by exact rfl) (by exact new_kd)).trans ?_
    have : (h.new 7 0 5).fr 601 c = h.fr 601 c := by rw [pj_new_fr, if_neg (by omega)]
    rw [this]
    refine (bnd (by exact e1)).trans ?_
    unfold B_X5_put_57
    refine (dr_e (by exact rfl) (by exact kc)).trans ?_
    rfl
  · exact F3.kd w q1 (by decide)
  · show (h2.sfr 601 c (some h.nx)).fr 800 s = _
    rw [pj_sfr_fr, if_neg (by decide)]
    exact ((F.ag w q1 (by decide) (sep_ge w (Nat.le_refl _) hsn).1).fr _).trans q2
  · exact (F3.gg w q6.1 (by decide)).trans q3
  · intro y hy
    obtain ⟨j, hj⟩ := List.getElem?_of_mem hy
    rw [List.getElem?_set] at hj
    by_cases c3 : i = j
    · rw [if_pos c3] at hj
      by_cases c4 : i < L.length
      · rw [if_pos c4] at hj
        rw [← Option.some.inj hj]
        exact List.cons_ne_nil _ _
      · rw [if_neg c4] at hj; cases hj
    · rw [if_neg c3] at hj
      exact q9 j y hj (Ne.symm c3)
  · rw [List.length_set]; exact q7
  · intro j c' y hj hy
    rw [List.getElem?_set] at hy
    by_cases c3 : i = j
    · subst c3
      rw [hc] at hj
      have hlt : i < L.length := (List.getElem?_eq_some_iff.mp hi).1
      rw [if_pos rfl, if_pos hlt] at hy
      rw [← Option.some.inj hj, ← Option.some.inj hy]
      refine ⟨kc, gc, ((F.ag w hcc.1 (by decide) (sep_ge w (Nat.le_refl _) hcn).1).fi _).trans hcc.2.2.1, ?_, by simp; omega⟩
      show En _ (h2.sfr 601 c (some h.nx)) (e :: ch) ((h2.sfr 601 c (some h.nx)).fr 601 c)
      rw [pj_sfr_fr, if_pos rfl, if_pos rfl]
      exact En.fr F.wf F2 (by rw [kc]; decide) e2
    · rw [if_neg c3] at hy
      have hcj := q8 j c' y hj hy
      have hcn' := w.lt hcj.1 (by decide)
      have hne : c' ≠ c := fun z => by
        have h1 := hcj.2.2.1
        rw [z, hcc.2.2.1] at h1
        rcases Nat.lt_or_gt_of_ne c3 with c5 | c5
        · have := q4 i j _ _ c5 hi hy
          rw [← h1] at this
          exact Int32.lt_irrefl this
        · have := q4 j i _ _ c5 hy hi
          rw [← h1] at this
          exact Int32.lt_irrefl this
      have hc1 := hcj.fr w F (kd_ge w (Nat.le_refl _) (by decide)) (sep_ge w (Nat.le_refl _) hcn').1
      have sp : Sep (va_up g h.nx h.nx) c c' := sep_sib F.wf gc hc1.2.1 (Ne.symm hne) hcs (ne_kd hcj.1 q1 (by decide))
      exact hc1.fr F.wf F2 (by rw [kc]; decide) sp.1
  · have hs1 := cap_fr q6 w F (sep_ge w (Nat.le_refl _) hln)
    rw [← hs1]
    unfold cap
    rw [pj_sfr_fr, if_neg (by decide)]
    rfl
/-- put -/
theorem sh_put {g : Nat → Nat} {h : Hp} {s l : Nat} {L : List (Int32 × List Ent)} (q : Sh g h s l L) (w : Wf g h) (N : Nat) (hN : 100000 < N) (k : Int32) (e : Ent) (he : e.2.2.1 = 0 ∨ e.2.2.1 = 1) (hb : L.length < 90000) (hb2 : (look L k).length < 99999) : ∃ h' g' L', J_X5_put N s h k e.1 e.2.1 e.2.2.1 e.2.2.2 = some (h', ()) ∧ Sh g' h' s l L' ∧ (∀ k', look L' k' = if k' = k then e :: look L k else look L k') ∧ L'.length = L.length + (if look L k = [] then 1 else 0) ∧ Fr g g' s h h' ∧ Pt h h' l L.length := by
  obtain ⟨x, e1, e2⟩ := sh_find q N hN k
  have q0 := q
  obtain ⟨q1, q2, q3, q4, q5, cs, q6, q7, q8⟩ := q
  rcases e2 with ⟨x1, x2⟩ | ⟨c, x1, x2, x3, i, hi, x4⟩
  · subst x1
    -- a new chain
    have hln := w.lt q6.1 (by decide)
    have hsn := w.lt q1 (by decide)
    have F1 := Fr.new w h.nx 6 0 2 s (Nat.le_of_lt hsn)
    have gnx : va_up g h.nx s h.nx = s := va_up_self _ _ _
    have F2 := Fr.sfr F1.wf (Un.rf _ h.nx) 601 none
    have F3 := Fr.sfi F2.wf (Un.rf _ h.nx) 600 k
    have F4 : Fr g (va_up g h.nx s) h.nx h (((h.new 6 0 2).sfr 601 h.nx none).sfi 600 h.nx k) := (F1.tr w F2).tr w F3
    generalize hh4 : (((h.new 6 0 2).sfr 601 h.nx none).sfi 600 h.nx k) = h4 at F4 F3
    have k4 : h4.kd h.nx = 6 := by rw [← hh4]; exact new_kd (n := 0) (sl := 2)
    have key4 : h4.fi 600 h.nx = k := by rw [← hh4, pj_sfi_fi, if_pos rfl, if_pos rfl]
    have top4 : h4.fr 601 h.nx = none := by rw [← hh4, pj_sfi_fr, pj_sfr_fr, if_pos rfl, if_pos rfl]
    have nx4 : h4.nx = h.nx + 1 := by rw [← hh4]; rfl
    have su4 : h4.su = h.su + 2 := by rw [← hh4]; rfl
    have sp : Sep g h.nx s := sep_ge w (Nat.le_refl _) hsn
    have S4 := q0.fr w F4 (kd_ge w (Nat.le_refl _) (by decide)) sp
    have cap4 : cap h4 l = cap h l := cap_fr q6 w F4 (sep_ge w (Nat.le_refl _) hln)
    obtain ⟨i, i0, i1, i2, i3⟩ := sh_index S4 N hN k.toInt64
    rw [toI64] at i2 i3
    have Al4 := q6.fr w F4 (sep_ge w (Nat.le_refl _) hln)
    obtain ⟨h5, g5, j1, j2, j3, j4⟩ := al_ins Al4 F4.wf (x := h.nx) (i := i) (Or.inr (Or.inl k4)) (by omega) (by omega) N
    have gl4 : va_up g h.nx s l = s := (F4.gg w q6.1 (by decide)).trans q3
    have F5 : Fr g g5 s h h5 := (F4.any w (Nat.le_refl _) s).tru w j3 (Un.ch q3)
    have no : ∀ (j : Nat) (y : Int32 × List Ent), L[j]? = some y → y.1 ≠ k := fun j y hj z => by
      have := look_get q4 hj
      rw [z, x2] at this
      exact q5 y (List.mem_of_getElem? hj) this.symm
    have lo : ∀ (j : Nat) (y : Int32 × List Ent), j < i → L[j]? = some y → y.1 < k := fun j y a b => Int32.lt_iff_toInt_lt.mpr (i2 j y a b)
    have up : ∀ (j : Nat) (y : Int32 × List Ent), i ≤ j → L[j]? = some y → k < y.1 := fun j y a b => by
      have h1 := i3 j y a b
      have h2 := no j y b
      refine Int32.lt_iff_toInt_lt.mpr (Int.lt_iff_le_and_ne.mpr ⟨h1, fun z => h2 (toInt_eq z.symm)⟩)
    have hcs5 : ∀ (j c : Nat) (y : Int32 × List Ent), (cs.insertIdx i h.nx)[j]? = some c → (L.insertIdx i (k, ([] : List Ent)))[j]? = some y → Chq g5 h5 s c y.1 y.2 := by
      intro j c y hj hy
      have base : Chq (va_up g h.nx s) h4 s c y.1 y.2 := by
        rw [List.getElem?_insertIdx] at hj hy
        by_cases a1 : j < i
        · rw [if_pos a1] at hj hy
          have hcj := q8 j c y hj hy
          exact hcj.fr w F4 (kd_ge w (Nat.le_refl _) (by decide)) (sep_ge w (Nat.le_refl _) (w.lt hcj.1 (by decide))).1
        · rw [if_neg a1] at hj hy
          by_cases a2 : j = i
          · rw [if_pos a2, if_pos (by omega)] at hj hy
            rw [← Option.some.inj hj, ← Option.some.inj hy]
            exact ⟨k4, gnx, key4, top4, Nat.zero_lt_succ _⟩
          · rw [if_neg a2] at hj hy
            have hcj := q8 (j - 1) c y hj hy
            exact hcj.fr w F4 (kd_ge w (Nat.le_refl _) (by decide)) (sep_ge w (Nat.le_refl _) (w.lt hcj.1 (by decide))).1
      refine base.fr F4.wf j3 (by rw [Al4.1]; decide) ?_
      exact (sep_sib F4.wf gl4 base.2.1 (ne_kd Al4.1 base.1 (by decide)) (ne_kd Al4.1 S4.1 (by decide)) (ne_kd base.1 S4.1 (by decide))).1
    have hgi : (cs.insertIdx i h.nx)[i]? = some h.nx := by rw [List.getElem?_insertIdx, if_neg (by omega), if_pos rfl, if_pos (by omega)]
    have hLi : (L.insertIdx i (k, ([] : List Ent)))[i]? = some (k, []) := by rw [List.getElem?_insertIdx, if_neg (by omega), if_pos rfl, if_pos (by omega)]
    have s5 := F5.kd w q1 (by decide)
    have r5 : h5.fr 800 s = some l := by
      have ag := j3.ag F4.wf S4.1 (by decide) (fun u => by
        have h1 := un_le F4.wf u
        have h2 := F4.wf.2.2.2.1 l
        rw [gl4] at h2
        exact ne_kd q6.1 q1 (by decide) (by omega))
      exact (ag.fr _).trans S4.2.1
    obtain ⟨h6, g6, m1, m2, m3, m4, m5, m6⟩ := sh_top (i := i) (c := h.nx) (k := k) (ch := []) F5.wf N s5 r5 ((F5.gg w q6.1 (by decide)).trans q3) (q4.ins (b := []) (by omega) lo up) j2 (by rw [List.length_insertIdx, List.length_insertIdx, q7]) hcs5 (fun j y hj hn => by
      rw [List.getElem?_insertIdx] at hj
      by_cases a1 : j < i
      · rw [if_pos a1] at hj
        exact q5 y (List.mem_of_getElem? hj)
      · rw [if_neg a1, if_neg hn] at hj
        exact q5 y (List.mem_of_getElem? hj)) hgi hLi (by decide) e he
    refine ⟨h6, g6, _, ?_, m2, fun k' => ?_, ?_, F5.tr w m3, ?_⟩
    · unfold J_X5_put B_X5_put_0
      refine (bnd (by exact e1)).trans ?_
      unfold B_X5_put_5
      refine (nl_ne (by exact rfl)).trans ?_
      unfold B_X5_put_15
      refine (dr_e (by exact rfl) (by exact new_kd)).trans ?_
      unfold J_X3_init B_X3_init_0
      rw [hh4]
      refine (bnd (by exact rfl)).trans ?_
      unfold B_X5_put_20
      refine (bnd (by exact i0)).trans ?_
      unfold B_X5_put_32
      refine (dr_e (by exact S4.2.1) (by exact Al4.1)).trans ?_
      refine (bnd (by exact j1)).trans ?_
      exact m1
    · rw [look_set (q4.ins (by omega) lo up) hLi, look_ins q4 (q4.ins (by omega) lo up) (by omega), x2]
      by_cases c3 : k' = k
      · rw [if_pos c3, if_pos c3]
      · rw [if_neg c3, if_neg c3, if_neg c3]
    · rw [List.length_set, List.length_insertIdx, if_pos (by omega), if_pos x2]
    · obtain ⟨p1, p2, p3, p4, p5⟩ := j4
      unfold Pt
      rw [m4, m5, m6]
      omega
  · subst x1
    obtain ⟨h6, g6, m1, m2, m3, m4, m5, m6⟩ := sh_top w N q1 q2 q3 q4 q6 q7 q8 (fun j y hj _ => q5 y (List.mem_of_getElem? hj)) (x4 cs q6) hi hb2 e he
    refine ⟨h6, g6, _, ?_, m2, fun k' => look_set q4 hi k', ?_, m3, ?_⟩
    · unfold J_X5_put B_X5_put_0
      refine (bnd (by exact e1)).trans ?_
      unfold B_X5_put_5
      refine (nl_so (by exact rfl)).trans ?_
      exact m1
    · rw [List.length_set, if_neg x2]
      rfl
    · unfold Pt
      rw [m4, m5, m6]
      omega
/-- an entry chain's tail is one -/
theorem dropW_len (st : Int32) (L : List Ent) : (dropW st L).length ≤ L.length := (List.dropWhile_suffix _).length_le
theorem ch_drop {g : Nat → Nat} {h : Hp} {s c : Nat} {k : Int32} {L : List Ent} (q : Chq g h s c k L) (w : Wf g h) (N : Nat) (hN : 100000 < N) (st : Int32) : ∃ y, J_X3_dropAfter N c h st = some (h.sfr 601 c y, ()) ∧ Chq g (h.sfr 601 c y) s c k (dropW st L) ∧ ((h.sfr 601 c y).fr 601 c = none ↔ dropW st L = []) := by
  obtain ⟨y, e1, e2⟩ := ch_upTo q N hN st
  have F := Fr.sfr w (Un.rf g c) 601 y
  refine ⟨y, ?_, ⟨q.1, q.2.1, q.2.2.1, ?_, by have := dropW_len st L; have := q.2.2.2.2; omega⟩, ?_⟩
  · unfold J_X3_dropAfter B_X3_dropAfter_0
    refine (bnd (by exact e1)).trans ?_
    unfold B_X3_dropAfter_6
    refine (dr_e (by exact rfl) (by exact q.1)).trans ?_
    rfl
  · rw [pj_sfr_fr, if_pos rfl, if_pos rfl]
    exact En.fr w F (by rw [q.1]; decide) e2
  · rw [pj_sfr_fr, if_pos rfl, if_pos rfl]
    cases e3 : dropW st L with
    | nil => rw [e3] at e2; exact ⟨fun _ => rfl, fun _ => e2⟩
    | cons a r =>
      rw [e3] at e2
      obtain ⟨b, b1, _⟩ := e2
      rw [b1]
      exact ⟨(fun z => by cases z), (fun z => by cases z)⟩
def HasB (L : List (Int32 × List Ent)) (i : Nat) (k : Int32) : Prop := ∃ j : Nat, j < i ∧ ∃ y, L[j]? = some (k, y)
theorem dr_loop {g : Nat → Nat} {s l : Nat} (N : Nat) (hN : 100000 < N) (st : Int32) : ∀ (i F : Nat) (h : Hp) (L : List (Int32 × List Ent)), Sh g h s l L → Wf g h → i ≤ L.length → i < F → ∃ h' L', L_X5_dropAfter_10 N s F h st (nI i - 1) = some (h', ()) ∧ Sh g h' s l L' ∧ (∀ k, (HasB L i k → look L' k = dropW st (look L k)) ∧ (¬ HasB L i k → look L' k = look L k)) ∧ Fr g g s h h' ∧ cap h' l = cap h l ∧ h'.nx = h.nx ∧ h'.su = h.su := by
  intro i
  induction i with
  | zero =>
    intro F h L q w hi hF
    obtain ⟨F, rfl⟩ : ∃ F', F = F' + 1 := ⟨F - 1, by omega⟩
    refine ⟨h, L, ?_, q, fun k => ?_, Fr.rf w s, rfl, rfl, rfl⟩
    · show B_X5_dropAfter_10 N _ s h st (nI 0 - 1) = _
      unfold B_X5_dropAfter_10
      refine (if_pos (by decide)).trans ?_
      rfl
    · exact ⟨fun ⟨j, hj, _⟩ => absurd hj (Nat.not_lt_zero _), fun _ => rfl⟩
  | succ i ih =>
    intro F h L q w hi hF
    obtain ⟨F, rfl⟩ : ∃ F', F = F' + 1 := ⟨F - 1, by omega⟩
    have hlen := sh_len q
    have q0 := q
    obtain ⟨q1, q2, q3, q4, q5, cs, q6, q7, q8⟩ := q
    have hlt : i < cs.length := by omega
    have hc : cs[i]? = some cs[i] := List.getElem?_eq_getElem hlt
    have hy : L[i]? = some (L[i]'(by omega)) := List.getElem?_eq_getElem (by omega)
    generalize hyy : (L[i]'(by omega)) = yy at hy
    obtain ⟨k, ch⟩ := yy
    have hch := q8 i _ _ hc hy
    generalize hcc : cs[i] = c at hc hch
    obtain ⟨y, d1, d2, d3⟩ := ch_drop hch w N hN st
    have F1 := Fr.sfr w (Un.rf g c) 601 y
    have F1s : Fr g g s h (h.sfr 601 c y) := F1.mono (Un.ch hch.2.1)
    have hcl : c ≠ l := ne_kd hch.1 q6.1 (by decide)
    have Al1 : Al g (h.sfr 601 c y) l cs := q6.sfr (Or.inl hcl)
    have cap1 : cap (h.sfr 601 c y) l = cap h l := by
      unfold cap
      rw [pj_sfr_fr, if_neg (by decide)]
      rfl
    have oth : ∀ (j c' : Nat) (z : Int32 × List Ent), j ≠ i → cs[j]? = some c' → L[j]? = some z → Chq g (h.sfr 601 c y) s c' z.1 z.2 := by
      intro j c' z hji hj hz
      have hcj := q8 j c' z hj hz
      have hne : c' ≠ c := fun zz => by
        have h1 := hcj.2.2.1
        rw [zz, hch.2.2.1] at h1
        rcases Nat.lt_or_gt_of_ne hji with c5 | c5
        · have := q4 j i _ _ c5 hz hy
          rw [← h1] at this
          exact Int32.lt_irrefl this
        · have := q4 i j _ _ c5 hy hz
          rw [← h1] at this
          exact Int32.lt_irrefl this
      exact hcj.fr w F1 (by rw [hch.1]; decide) (sep_sib w hch.2.1 hcj.2.1 (Ne.symm hne) (ne_kd hch.1 q1 (by decide)) (ne_kd hcj.1 q1 (by decide))).1
    have r1 : (h.sfr 601 c y).fr 800 s = some l := by rw [pj_sfr_fr, if_neg (by decide)]; exact q2
    have step : ∀ R, (nl ((h.sfr 601 c y).fr 601 c) ((J_Jx4a65c_remove_915e3 N l (h.sfr 601 c y) (nI i)).bind (fun z => L_X5_dropAfter_10 N s F z.1 st (nI i + (-1 : Int32)))) (fun _ => L_X5_dropAfter_10 N s F (h.sfr 601 c y) st (nI i + (-1 : Int32)))) = R → L_X5_dropAfter_10 N s (F + 1) h st (nI (i + 1) - 1) = R := by
      intro R hR
      show B_X5_dropAfter_10 N _ s h st (nI (i + 1) - 1) = _
      rw [ni_pred]
      unfold B_X5_dropAfter_10
      refine (if_neg (by exact ni_nn (by omega))).trans ?_
      refine (dr_e (by exact q2) (by exact q6.1)).trans ?_
      refine (bnd (by exact al_get q6 N hc)).trans ?_
      unfold B_X5_dropAfter_22
      refine (dr_e (by exact rfl) (by exact hch.1)).trans ?_
      refine (bnd (by exact d1)).trans ?_
      unfold B_X5_dropAfter_31
      refine (dr_e (by exact rfl) (by exact hch.1)).trans ?_
      rw [← hR]
      cases e9 : (h.sfr 601 c y).fr 601 c with
      | none =>
        show (dr (h.sfr 601 c y) 2 ((h.sfr 601 c y).fr 800 s) _) = _
        refine (dr_e r1 (by exact q6.1)).trans ?_
        rfl
      | some a2 => rfl
    by_cases c1 : dropW st ch = []
    · -- the chain goes
      obtain ⟨h2, m1, m2, m3, m4, m5, m6⟩ := al_rem Al1 F1.wf hc N
      have F2 : Fr g g s h h2 := F1s.tru w m3 (Un.ch q3)
      have S2 : Sh g h2 s l (L.eraseIdx i) := by
        have hls : l ≠ s := ne_kd q6.1 q1 (by decide)
        have k1 : (h.sfr 601 c y).kd l = 2 := q6.1
        refine ⟨F2.kd w q1 (by decide), ?_, q3, q4.era i, fun z hz => q5 z (List.mem_of_mem_eraseIdx hz), _, m2, ?_, ?_⟩
        · have ag := m3.ag F1.wf (a := s) (k := 8) q1 (by decide) (fun u => by
            have h1 := un_le w u
            have h2 := w.2.2.2.1 l
            rw [q3] at h2
            exact hls (by omega))
          exact (ag.fr _).trans r1
        · rw [List.length_eraseIdx_of_lt hlt, List.length_eraseIdx_of_lt (by omega), q7]
        · intro j c' z hj hz
          have base : Chq g (h.sfr 601 c y) s c' z.1 z.2 := by
            rw [List.getElem?_eraseIdx] at hj hz
            by_cases a1 : j < i
            · rw [if_pos a1] at hj hz
              exact oth j c' z (by omega) hj hz
            · rw [if_neg a1] at hj hz
              exact oth (j + 1) c' z (by omega) hj hz
          exact base.fr F1.wf m3 (by rw [k1]; decide) (sep_sib F1.wf q3 base.2.1 (ne_kd k1 base.1 (by decide)) (ne_kd (h := h) q6.1 q1 (by decide)) (ne_kd (h := h) base.1 q1 (by decide))).1
      obtain ⟨h3, L3, n1, n2, n3, n4, n5, n6, n7⟩ := ih F h2 (L.eraseIdx i) S2 F2.wf (by rw [List.length_eraseIdx_of_lt (by omega)]; omega) (by omega)
      refine ⟨h3, L3, step _ ?_, n2, fun k' => ?_, F2.tr w n4, by rw [n5, m4, cap1], by rw [n6, m5]; rfl, by rw [n7, m6]; rfl⟩
      · refine (nl_ne (by exact d3.mpr c1)).trans ?_
        refine (bnd (by exact m1)).trans ?_
        rw [ni_m]
        exact n1
      · have n3 := n3 k'
        rw [look_era q4 hy] at n3
        by_cases c2 : k' = k
        · rw [if_pos c2] at n3
          have e5 : look L k = ch := look_get' q4 hy
          have e7 : look L3 k' = [] := by
            by_cases c3 : HasB (L.eraseIdx i) i k'
            · exact n3.1 c3
            · exact n3.2 c3
          rw [e7, c2, e5, c1]
          exact ⟨fun _ => rfl, fun z => absurd ⟨i, by omega, ch, hy⟩ z⟩
        · rw [if_neg c2] at n3
          have e6 : HasB L (i + 1) k' ↔ HasB (L.eraseIdx i) i k' := by
            constructor
            · intro ⟨j, hj, z, hz⟩
              by_cases c3 : j = i
              · rw [c3, hy] at hz
                exact absurd (congrArg Prod.fst (Option.some.inj hz)).symm c2
              · exact ⟨j, by omega, z, by rw [List.getElem?_eraseIdx, if_pos (by omega)]; exact hz⟩
            · intro ⟨j, hj, z, hz⟩
              rw [List.getElem?_eraseIdx, if_pos hj] at hz
              exact ⟨j, by omega, z, hz⟩
          rw [e6]
          exact n3
    · have S2 : Sh g (h.sfr 601 c y) s l (L.set i (k, dropW st ch)) := by
        refine ⟨q1, r1, q3, q4.set hy, ?_, cs, Al1, by rw [List.length_set]; exact q7, ?_⟩
        · intro z hz
          obtain ⟨j, hj⟩ := List.getElem?_of_mem hz
          rw [List.getElem?_set] at hj
          by_cases c3 : i = j
          · rw [if_pos c3, if_pos (by omega)] at hj
            rw [← Option.some.inj hj]
            exact c1
          · rw [if_neg c3] at hj
            exact q5 z (List.mem_of_getElem? hj)
        · intro j c' z hj hz
          rw [List.getElem?_set] at hz
          by_cases c3 : i = j
          · subst c3
            rw [if_pos rfl, if_pos (by omega)] at hz
            rw [hc] at hj
            rw [← Option.some.inj hz, ← Option.some.inj hj]
            exact d2
          · rw [if_neg c3] at hz
            exact oth j c' z (Ne.symm c3) hj hz
      obtain ⟨h3, L3, n1, n2, n3, n4, n5, n6, n7⟩ := ih F (h.sfr 601 c y) (L.set i (k, dropW st ch)) S2 F1.wf (by rw [List.length_set]; omega) (by omega)
      refine ⟨h3, L3, step _ ?_, n2, fun k' => ?_, F1s.tr w n4, by rw [n5, cap1], n6, n7⟩
      · cases e9 : (h.sfr 601 c y).fr 601 c with
        | none => exact absurd (d3.mp e9) c1
        | some a2 => rw [ni_m]; exact n1
      · have n3 := n3 k'
        rw [look_set q4 hy] at n3
        by_cases c2 : k' = k
        · rw [if_pos c2] at n3
          have e5 : look L k = ch := look_get' q4 hy
          have e7 := n3.2 (fun ⟨j, hj, z, hz⟩ => by
            rw [List.getElem?_set, if_neg (by omega), c2] at hz
            have := q4 j i _ _ hj hz hy
            exact Int32.lt_irrefl this)
          rw [e7, c2, e5]
          exact ⟨fun _ => rfl, fun z => absurd ⟨i, by omega, ch, hy⟩ z⟩
        · rw [if_neg c2] at n3
          have e6 : HasB L (i + 1) k' ↔ HasB (L.set i (k, dropW st ch)) i k' := by
            constructor
            · intro ⟨j, hj, z, hz⟩
              by_cases c3 : j = i
              · rw [c3, hy] at hz
                exact absurd (congrArg Prod.fst (Option.some.inj hz)).symm c2
              · exact ⟨j, by omega, z, by rw [List.getElem?_set, if_neg (by omega)]; exact hz⟩
            · intro ⟨j, hj, z, hz⟩
              rw [List.getElem?_set, if_neg (by omega)] at hz
              exact ⟨j, by omega, z, hz⟩
          rw [e6]
          exact n3
theorem sh_drop {g : Nat → Nat} {h : Hp} {s l : Nat} {L : List (Int32 × List Ent)} (q : Sh g h s l L) (w : Wf g h) (N : Nat) (hN : 100000 < N) (st : Int32) : ∃ h' L', J_X5_dropAfter N s h st = some (h', ()) ∧ Sh g h' s l L' ∧ (∀ k, look L' k = dropW st (look L k)) ∧ Fr g g s h h' ∧ cap h' l = cap h l ∧ h'.nx = h.nx ∧ h'.su = h.su := by
  have hlen := sh_len q
  obtain ⟨h', L', e1, e2, e3, e4, e5, e6, e7⟩ := dr_loop N hN st L.length N h L q w (Nat.le_refl _) (by omega)
  have q0 := q
  obtain ⟨q1, q2, q3, q4, q5, cs, q6, q7, q8⟩ := q
  refine ⟨h', L', ?_, e2, fun k => ?_, e4, e5, e6, e7⟩
  · unfold J_X5_dropAfter B_X5_dropAfter_0
    refine (dr_e (by exact q2) (by exact q6.1)).trans ?_
    refine (bnd (by exact al_size q6 N)).trans ?_
    rw [q7]
    exact e1
  · by_cases c : look L k = []
    · rw [c]
      have e3 := e3 k
      rw [c] at e3
      by_cases c3 : HasB L L.length k
      · exact e3.1 c3
      · exact e3.2 c3
    · obtain ⟨i, hi⟩ := look_some q4 c
      exact (e3 k).1 ⟨i, (List.getElem?_eq_some_iff.mp hi).1, _, hi⟩
