/-! what a transaction sees is the same on both sides -/
theorem F2.mono {α β : Type} {R S : α → β → Prop} (e : ∀ a b, R a b → S a b) : ∀ {as : List α} {bs : List β}, F2 R as bs → F2 S as bs := by
  intro as
  induction as with
  | nil =>
    intro bs q
    cases bs with
    | nil => trivial
    | cons b bs => exact q.elim
  | cons a as ih =>
    intro bs q
    cases bs with
    | nil => exact q.elim
    | cons b bs => exact ⟨e a b q.1, ih q.2⟩
theorem F2.snoc {α β : Type} {R : α → β → Prop} {a : α} {b : β} (r : R a b) : ∀ {as : List α} {bs : List β}, F2 R as bs → F2 R (as ++ [a]) (bs ++ [b]) := by
  intro as
  induction as with
  | nil =>
    intro bs q
    cases bs with
    | nil => exact ⟨r, trivial⟩
    | cons b bs => exact q.elim
  | cons x as ih =>
    intro bs q
    cases bs with
    | nil => exact q.elim
    | cons y bs => exact ⟨q.1, ih q.2⟩
theorem F2.unsnoc {α β : Type} {R : α → β → Prop} {b : β} : ∀ {bs : List β} {as : List α}, F2 R as (bs ++ [b]) → ∃ as' a, as = as' ++ [a] ∧ F2 R as' bs ∧ R a b := by
  intro bs
  induction bs with
  | nil =>
    intro as q
    cases as with
    | nil => exact q.elim
    | cons a as =>
      cases as with
      | nil => exact ⟨[], a, rfl, trivial, q.1⟩
      | cons a' as => exact q.2.elim
  | cons y bs ih =>
    intro as q
    cases as with
    | nil => exact q.elim
    | cons a as =>
      obtain ⟨as', a', e, f, r⟩ := ih q.2
      exact ⟨a :: as', a', by rw [e]; rfl, ⟨q.1, f⟩, r⟩
theorem F2.len {α β : Type} {R : α → β → Prop} : ∀ {as : List α} {bs : List β}, F2 R as bs → as.length = bs.length := by
  intro as
  induction as with
  | nil =>
    intro bs q
    cases bs with
    | nil => rfl
    | cons b bs => exact q.elim
  | cons x as ih =>
    intro bs q
    cases bs with
    | nil => exact q.elim
    | cons y bs => rw [List.length_cons, List.length_cons, ih q.2]
theorem F2.filter {α β : Type} {R : α → β → Prop} {p : α → Bool} {q : β → Bool} (e : ∀ a b, R a b → p a = q b) : ∀ {as : List α} {bs : List β}, F2 R as bs → F2 R (as.filter p) (bs.filter q) := by
  intro as
  induction as with
  | nil =>
    intro bs f
    cases bs with
    | nil => trivial
    | cons b bs => exact f.elim
  | cons x as ih =>
    intro bs f
    cases bs with
    | nil => exact f.elim
    | cons y bs =>
      have e1 := e x y f.1
      cases z : q y with
      | true =>
        rw [z] at e1
        rw [List.filter_cons_of_pos e1, List.filter_cons_of_pos z]
        exact ⟨f.1, ih f.2⟩
      | false =>
        rw [z] at e1
        rw [List.filter_cons_of_neg (by rw [e1]; decide), List.filter_cons_of_neg (by rw [z]; decide)]
        exact ih f.2
section VIS
variable {h : Hp} {M b c w l v k r : Nat}
theorem ownI_s (t : Nat) : ownI h M (w + 1) t = ownI h M w t ++ (if h.bi (M + 11) w = nI t ∧ h.bi (M + 15) w = 0 then [w] else []) := by
  unfold ownI
  rw [List.range_succ, List.filter_append]
  congr 1
  by_cases z : h.bi (M + 11) w = nI t ∧ h.bi (M + 15) w = 0
  · rw [if_pos z, List.filter_cons_of_pos (by exact decide_eq_true z), List.filter_nil]
  · rw [if_neg z, List.filter_cons_of_neg (by exact fun u => z (of_decide_eq_true u)), List.filter_nil]
/-- the own entry that counts -/
theorem own_last (t : Nat) (key : Int32) : ∀ (w : Nat) (L : List Kv), F2 (fun (x : Kv) (j : Nat) => x.1 = h.bi (M + 12) j ∧ x.2.2.2.1 = h.bi (M + 14) j ∧ x.2.2.2.2 = h.bw (M + 13) j) L (ownI h M w t) → (chn L key = [] ∧ lastS (ownC h M t key) w (-1)) ∨ ∃ e L' j, chn L key = e :: L' ∧ j < w ∧ lastS (ownC h M t key) w (nI j) ∧ e.2.2.1 = h.bi (M + 14) j ∧ e.2.2.2 = h.bw (M + 13) j := by
  intro w
  induction w with
  | zero =>
    intro L f
    cases L with
    | nil => exact Or.inl ⟨rfl, Or.inl ⟨rfl, fun i hi => by omega⟩⟩
    | cons x L => exact f.elim
  | succ w ih =>
    intro L f
    rw [ownI_s] at f
    have skip : ∀ L, F2 (fun (x : Kv) (j : Nat) => x.1 = h.bi (M + 12) j ∧ x.2.2.2.1 = h.bi (M + 14) j ∧ x.2.2.2.2 = h.bw (M + 13) j) L (ownI h M w t) → ¬ ownC h M t key w → (chn L key = [] ∧ lastS (ownC h M t key) (w + 1) (-1)) ∨ ∃ e L' j, chn L key = e :: L' ∧ j < w + 1 ∧ lastS (ownC h M t key) (w + 1) (nI j) ∧ e.2.2.1 = h.bi (M + 14) j ∧ e.2.2.2 = h.bw (M + 13) j := by
      intro L f no
      rcases ih L f with ⟨a1, a2⟩ | ⟨e, L', j, a1, a2, a3, a4⟩
      · exact Or.inl ⟨a1, a2.skip no⟩
      · exact Or.inr ⟨e, L', j, a1, by omega, a3.skip no, a4⟩
    by_cases z : h.bi (M + 11) w = nI t ∧ h.bi (M + 15) w = 0
    · rw [if_pos z] at f
      obtain ⟨L0, x, eL, f0, r⟩ := f.unsnoc
      rw [eL]
      have ex : x = (x.1, x.2) := rfl
      rw [ex, chn_add]
      by_cases zk : key = x.1
      · rw [if_pos zk]
        refine Or.inr ⟨x.2, chn L0 x.1, w, rfl, by omega, Or.inr ⟨w, by omega, rfl, ⟨z.1, ?_, z.2⟩, fun j h1 h2 => by omega⟩, r.2⟩
        rw [zk]; exact r.1.symm
      · rw [if_neg zk]
        exact skip L0 f0 (fun u => zk (by rw [r.1]; exact u.2.1.symm))
    · rw [if_neg z, List.append_nil] at f
      exact skip L f (fun u => z ⟨u.1, u.2.2⟩)
/-- the version that counts -/
theorem ver_last (key st : Int32) : ∀ (n : Nat) (V : List Kv), V.length = n → (∀ (j : Nat) (x : Kv), V[j]? = some x → x.1 = h.bi (M + 19) j ∧ x.2.1 = vMo h M j) → ((dropW st (chn V key)).head? = none ∧ lastS (vatC h M key st) n (-1)) ∨ ∃ e j, (dropW st (chn V key)).head? = some e ∧ j < n ∧ lastS (vatC h M key st) n (nI j) ∧ V[j]? = some (key, e) := by
  intro n
  induction n with
  | zero =>
    intro V hl f
    rw [List.length_eq_zero_iff.mp hl]
    exact Or.inl ⟨rfl, Or.inl ⟨rfl, fun i hi => by omega⟩⟩
  | succ n ih =>
    intro V hl f
    obtain ⟨V0, x, eV⟩ : ∃ V0 x, V = V0 ++ [x] := by
      rcases List.eq_nil_or_concat V with z | ⟨V0, x, z⟩
      · rw [z] at hl; cases hl
      · exact ⟨V0, x, by rw [z, List.concat_eq_append]⟩
    have l0 : V0.length = n := by
      rw [eV, List.length_append, List.length_singleton] at hl
      omega
    have fx := f n x (by rw [eV, List.getElem?_append_right (by omega), l0, Nat.sub_self]; rfl)
    have f0 : ∀ (j : Nat) (y : Kv), V0[j]? = some y → V[j]? = some y := by
      intro j y hy
      have jl : j < V0.length := by
        rcases Nat.lt_or_ge j V0.length with q | q
        · exact q
        · rw [List.getElem?_eq_none q] at hy; cases hy
      rw [eV, List.getElem?_append_left jl]
      exact hy
    have IH := ih V0 l0 (fun j y hy => f j y (f0 j y hy))
    have skip : ¬ vatC h M key st n → dropW st (chn V key) = dropW st (chn V0 key) → ((dropW st (chn V key)).head? = none ∧ lastS (vatC h M key st) (n + 1) (-1)) ∨ ∃ e j, (dropW st (chn V key)).head? = some e ∧ j < n + 1 ∧ lastS (vatC h M key st) (n + 1) (nI j) ∧ V[j]? = some (key, e) := by
      intro no e
      rw [e]
      rcases IH with ⟨a1, a2⟩ | ⟨e, j, a1, a2, a3, a4⟩
      · exact Or.inl ⟨a1, a2.skip no⟩
      · exact Or.inr ⟨e, j, a1, by omega, a3.skip no, f0 _ _ a4⟩
    have ex : x = (x.1, x.2) := rfl
    have ec : chn V key = if key = x.1 then x.2 :: chn V0 x.1 else chn V0 key := by
      rw [eV, ex, chn_add]
    by_cases zk : key = x.1
    · rw [if_pos zk] at ec
      by_cases zs : st < x.2.1
      · refine skip (fun u => ?_) ?_
        · have := u.2
          rw [← fx.2] at this
          rw [Int32.lt_iff_toInt_lt] at zs
          rw [Int32.le_iff_toInt_le] at this
          omega
        · rw [ec, dropW_c, if_pos zs, zk]
      · refine Or.inr ⟨x.2, n, ?_, by omega, Or.inr ⟨n, by omega, rfl, ⟨by rw [← fx.1]; exact zk.symm, ?_⟩, fun j h1 h2 => by omega⟩, ?_⟩
        · rw [ec, dropW_c, if_neg zs]
          rfl
        · rw [← fx.2, Int32.le_iff_toInt_le]
          rw [Int32.lt_iff_toInt_lt] at zs
          omega
        · rw [eV, List.getElem?_append_right (by omega), l0, Nat.sub_self, zk]
          rfl
    · rw [if_neg zk] at ec
      exact skip (fun u => zk (by rw [fx.1]; exact u.1.symm)) (by rw [ec])
theorem seeV.uniq {t : Nat} {key : Int32} {x y : Int64} (hw : w ≤ 512) (hv : v ≤ 512) (p : seeV h M w v t key x) (q : seeV h M w v t key y) : x = y := by
  rcases p with ⟨i, p1, p2, p3⟩ | ⟨p1, i, p2, p3, p4⟩ <;> rcases q with ⟨j, q1, q2, q3⟩ | ⟨q1, j, q2, q3, q4⟩
  · rw [p3, q3, (ni_inj (by omega) (by omega)).mp (p2.uniq q2)]
  · exact absurd (p2.uniq q1) (ni_m1 (by omega))
  · exact absurd (q2.uniq p1) (ni_m1 (by omega))
  · rw [p4, q4, (ni_inj (by omega) (by omega)).mp (p3.uniq q3)]
/-- t sees alike -/
theorem vis_eq {t n : Nat} {L V : List Kv} {P : List Nat} (hw : w ≤ 512) (hv : v ≤ 512) (ow : OwnR h M w t L P n) (ve : Veq h M b w v V) (key : Int32) : (visL L V (h.bi (M + 3) t) key = none ∧ ¬ seeB h M w v t key) ∨ ∃ x, visL L V (h.bi (M + 3) t) key = some x ∧ seeB h M w v t key ∧ seeV h M w v t key x := by
  have f := ow.1.mono (S := fun (x : Kv) (j : Nat) => x.1 = h.bi (M + 12) j ∧ x.2.2.2.1 = h.bi (M + 14) j ∧ x.2.2.2.2 = h.bw (M + 13) j) (fun x j r => ⟨r.1, r.2.2.1, r.2.2.2.1⟩)
  obtain ⟨vl, wv, vf⟩ := ve
  rcases own_last t key w L f with ⟨a1, a2⟩ | ⟨e, L', j, a1, a2, a3, a4, a5⟩
  · have ev : visL L V (h.bi (M + 3) t) key = visE (dropW (h.bi (M + 3) t) (chn V key)).head? := by
      unfold visL visC
      rw [a1]
    rw [ev]
    rcases ver_last key (h.bi (M + 3) t) v V vl (fun j x hx => ⟨(vf j x hx).1, (vf j x hx).2.1⟩) with ⟨b1, b2⟩ | ⟨e, j, b1, b2, b3, b4⟩
    · rw [b1]
      refine Or.inl ⟨rfl, fun s => ?_⟩
      rcases s with ⟨i, i1, i2, _⟩ | ⟨_, i, i1, i2, _⟩
      · exact ni_m1 (by omega) (i2.uniq a2)
      · exact ni_m1 (by omega) (i2.uniq b2)
    · obtain ⟨_, _, _, v4, v5, _⟩ := vf j _ b4
      have v4 : e.2.2.1 = h.bi (M + 22) j := v4
      have v5 : e.2.2.2 = h.bw (M + 21) j := v5
      have ev : visE (some e) = if e.2.2.1 = 0 then none else some e.2.2.2 := rfl
      rw [b1, ev]
      by_cases z : e.2.2.1 = 0
      · rw [if_pos z]
        refine Or.inl ⟨rfl, fun s => ?_⟩
        rcases s with ⟨i, i1, i2, _⟩ | ⟨_, i, i1, i2, i3⟩
        · exact ni_m1 (by omega) (i2.uniq a2)
        · rw [(ni_inj (by omega) (by omega)).mp (i2.uniq b3), ← v4] at i3
          exact i3 z
      · rw [if_neg z]
        exact Or.inr ⟨_, rfl, Or.inr ⟨a2, j, b2, b3, by rw [← v4]; exact z⟩, Or.inr ⟨a2, j, b2, b3, v5⟩⟩
  · have ev : visL L V (h.bi (M + 3) t) key = if e.2.2.1 = 0 then none else some e.2.2.2 := by
      unfold visL visC
      rw [a1]
      rfl
    rw [ev]
    by_cases z : e.2.2.1 = 0
    · rw [if_pos z]
      refine Or.inl ⟨rfl, fun s => ?_⟩
      rcases s with ⟨i, i1, i2, i3⟩ | ⟨i1, _⟩
      · rw [(ni_inj (by omega) (by omega)).mp (i2.uniq a3), ← a4] at i3
        exact i3 z
      · exact ni_m1 (by omega) (a3.uniq i1)
    · rw [if_neg z]
      exact Or.inr ⟨_, rfl, Or.inl ⟨j, a2, a3, by rw [← a4]; exact z⟩, Or.inl ⟨j, a2, a3, a5⟩⟩
theorem own_eq {t n : Nat} {L : List Kv} {P : List Nat} (hw : w ≤ 512) (ow : OwnR h M w t L P n) (key : Int32) : (∃ j, j < w ∧ ownC h M t key j) ↔ chn L key ≠ [] := by
  have f := ow.1.mono (S := fun (x : Kv) (j : Nat) => x.1 = h.bi (M + 12) j ∧ x.2.2.2.1 = h.bi (M + 14) j ∧ x.2.2.2.2 = h.bw (M + 13) j) (fun x j r => ⟨r.1, r.2.2.1, r.2.2.2.1⟩)
  rcases own_last t key w L f with ⟨a1, a2⟩ | ⟨e, L', j, a1, a2, a3, _⟩
  · rw [a1]
    refine ⟨fun ⟨j, h1, h2⟩ => ?_, fun u => absurd rfl u⟩
    rcases a2 with ⟨_, z⟩ | ⟨i, i1, i2, _⟩
    · exact absurd h2 (z j h1)
    · exact absurd i2.symm (ni_m1 (by omega))
  · rw [a1]
    refine ⟨fun _ u => (by cases u), fun _ => ?_⟩
    rcases a3 with ⟨z, _⟩ | ⟨i, i1, _, i3, _⟩
    · exact absurd z (ni_m1 (by omega))
    · exact ⟨i, i1, i3⟩
/-- what sees() leaves -/
theorem see_eq {t n : Nat} {L V : List Kv} {P : List Nat} (hw : w ≤ 512) (hv : v ≤ 512) (ow : OwnR h M w t L P n) (ve : Veq h M b w v V) {key x : Int32} {h' : Hp} (s : SeeR h M w v t key h' x) : (visL L V (h.bi (M + 3) t) key = none ∧ x = 0) ∨ (x ≠ 0 ∧ visL L V (h.bi (M + 3) t) key = some (h'.gl 1351 M)) := by
  rcases vis_eq hw hv ow ve key with ⟨a1, a2⟩ | ⟨y, a1, a2, a3⟩
  · exact Or.inl ⟨a1, Classical.not_not.mp (fun z => a2 ((s.see hw hv).mp z))⟩
  · have x0 := (s.see hw hv).mpr a2
    exact Or.inr ⟨x0, by rw [a1, seeV.uniq hw hv a3 (s.val x0)]⟩
end VIS
