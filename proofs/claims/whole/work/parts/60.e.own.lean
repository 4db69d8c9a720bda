/-! own writes: counting, updates -/
theorem F2.monoM {α β : Type} {R S : α → β → Prop} : ∀ {bs : List β} {as : List α}, (∀ b ∈ bs, ∀ a, R a b → S a b) → F2 R as bs → F2 S as bs := by
  intro bs
  induction bs with
  | nil =>
    intro as _ q
    cases as with
    | nil => trivial
    | cons a as => exact q.elim
  | cons b bs ih =>
    intro as e q
    cases as with
    | nil => exact q.elim
    | cons a as => exact ⟨e b (List.mem_cons_self) a q.1, ih (fun y hy => e y (List.mem_cons_of_mem _ hy)) q.2⟩
section OWN
variable {h h' : Hp} {M b c w l v k r : Nat}
theorem ownI_lt {t j : Nat} (m : j ∈ ownI h M w t) : j < w := List.mem_range.mp (List.mem_filter.mp m).1
theorem ownI_con (t : Nat) (e : ∀ j, j < w → h'.bi (M + 11) j = h.bi (M + 11) j ∧ h'.bi (M + 15) j = h.bi (M + 15) j) : ownI h' M w t = ownI h M w t := by
  unfold ownI
  refine List.filter_congr (fun j hj => ?_)
  have := e j (List.mem_range.mp hj)
  rw [this.1, this.2]
theorem rowI_lt {t j : Nat} (m : j ∈ rowI h M k t) : j < k := List.mem_range.mp (List.mem_filter.mp m).1
theorem rowI_con (t : Nat) (e : ∀ j, j < k → h'.bi (M + 24) j = h.bi (M + 24) j) : rowI h' M k t = rowI h M k t := by
  unfold rowI
  refine List.filter_congr (fun j hj => ?_)
  rw [e j (List.mem_range.mp hj)]
theorem rowI_s (t : Nat) : rowI h M (k + 1) t = rowI h M k t ++ (if h.bi (M + 24) k = nI t then [k] else []) := by
  unfold rowI
  rw [List.range_succ, List.filter_append]
  congr 1
  by_cases z : h.bi (M + 24) k = nI t
  · rw [if_pos z, List.filter_cons_of_pos (by exact decide_eq_true z), List.filter_nil]
  · rw [if_neg z, List.filter_cons_of_neg (by exact fun u => z (of_decide_eq_true u)), List.filter_nil]
/-- the keys of own writes, each once -/
noncomputable def keyI (h : Hp) (M w t : Nat) : Nat → List Int32
  | 0 => []
  | n + 1 => keyI h M w t n ++ (@ite (List Int32) (lstW h M w t n) (Classical.propDecidable _) [h.bi (M + 12) n] [])
theorem keyI_len (t : Nat) : ∀ n, (keyI h M w t n).length = cntQ (lstW h M w t) n := by
  intro n
  induction n with
  | zero => rfl
  | succ n ih =>
    show (keyI h M w t n ++ _).length = cntQ (lstW h M w t) n + _
    rw [List.length_append, ih]
    congr 1
    by_cases z : lstW h M w t n
    · rw [if_pos z, if_pos z]; rfl
    · rw [if_neg z, if_neg z]; rfl
theorem keyI_mem (t : Nat) (x : Int32) : ∀ n, x ∈ keyI h M w t n ↔ ∃ j, j < n ∧ lstW h M w t j ∧ h.bi (M + 12) j = x := by
  intro n
  induction n with
  | zero => exact ⟨fun u => (by cases u), fun ⟨j, hj, _⟩ => by omega⟩
  | succ n ih =>
    show x ∈ keyI h M w t n ++ _ ↔ _
    rw [List.mem_append, ih]
    by_cases z : lstW h M w t n
    · rw [if_pos z, List.mem_singleton]
      constructor
      · rintro (⟨j, j1, j2⟩ | e)
        · exact ⟨j, by omega, j2⟩
        · exact ⟨n, by omega, z, e.symm⟩
      · rintro ⟨j, j1, j2, j3⟩
        by_cases e : j = n
        · rw [e] at j3; exact Or.inr j3.symm
        · exact Or.inl ⟨j, by omega, j2, j3⟩
    · rw [if_neg z]
      constructor
      · rintro (⟨j, j1, j2⟩ | e)
        · exact ⟨j, by omega, j2⟩
        · cases e
      · rintro ⟨j, j1, j2, j3⟩
        by_cases e : j = n
        · rw [e] at j2; exact absurd j2 z
        · exact Or.inl ⟨j, by omega, j2, j3⟩
theorem lstW.last {t i j : Nat} (hw : w ≤ 512) (hj : j < w) (p : lstW h M w t i) (q : lstW h M w t j) (e : h.bi (M + 12) i = h.bi (M + 12) j) (hi : i < w) : i = j := by
  have a := p.2
  rw [e] at a
  exact (ni_inj (by omega) (by omega)).mp (a.uniq q.2)
theorem keyI_nd (hw : w ≤ 512) (t : Nat) : ∀ n, n ≤ w → (keyI h M w t n).Nodup := by
  intro n
  induction n with
  | zero => intro _; exact List.nodup_nil
  | succ n ih =>
    intro hn
    show (keyI h M w t n ++ _).Nodup
    by_cases z : lstW h M w t n
    · rw [if_pos z]
      refine List.nodup_append.mpr ⟨ih (by omega), List.nodup_cons.mpr ⟨fun u => (by cases u), List.nodup_nil⟩, fun x hx y hy => ?_⟩
      rw [List.mem_singleton.mp hy]
      intro e
      obtain ⟨j, j1, j2, j3⟩ := (keyI_mem t x n).mp hx
      have := lstW.last hw (by omega) j2 z (j3.trans e) (by omega)
      omega
    · rw [if_neg z, List.append_nil]
      exact ih (by omega)
theorem nk_own {t n : Nat} {L : List Kv} {P : List Nat} (hw : w ≤ 512) (ow : OwnR h M w t L P n) : cntQ (lstW h M w t) w = nk L := by
  rw [← keyI_len]
  refine nk_len L _ (keyI_nd hw t w (Nat.le_refl _)) (fun x => ?_)
  rw [keyI_mem, ← chn_ne, ← own_eq hw ow x]
  constructor
  · rintro ⟨j, j1, j2, j3⟩
    rcases j2.2 with ⟨z, _⟩ | ⟨i, i1, _, i3, _⟩
    · exact absurd z (ni_m1 (by omega))
    · rw [j3] at i3
      exact ⟨i, i1, i3⟩
  · intro e
    have f := ow.1.mono (S := fun (x : Kv) (j : Nat) => x.1 = h.bi (M + 12) j ∧ x.2.2.2.1 = h.bi (M + 14) j ∧ x.2.2.2.2 = h.bw (M + 13) j) (fun x j r => ⟨r.1, r.2.2.1, r.2.2.2.1⟩)
    rcases own_last t x w L f with ⟨_, a2⟩ | ⟨_, _, j, _, a2, a3, _⟩
    · obtain ⟨j, j1, j2⟩ := e
      rcases a2 with ⟨_, z⟩ | ⟨i, i1, i2, _⟩
      · exact absurd j2 (z j j1)
      · exact absurd i2.symm (ni_m1 (by omega))
    · rcases id a3 with ⟨z, _⟩ | ⟨i, i1, i2, i3, i4⟩
      · exact absurd z (ni_m1 (by omega))
      · have ij := (ni_inj (by omega) (by omega)).mp i2
        rw [← ij] at i3 i4
        exact ⟨j, a2, ⟨i3.1, by rw [i3.2.1]; exact a3⟩, i3.2.1⟩
/-- rows that stay -/
def RwK (h h' : Hp) (M k w r : Nat) : Prop := (∀ j, j < k → h'.bi (M + 23) j = h.bi (M + 23) j ∧ h'.bi (M + 24) j = h.bi (M + 24) j ∧ h'.bi (M + 25) j = h.bi (M + 25) j ∧ h'.bi (M + 26) j = h.bi (M + 26) j ∧ h'.bi (M + 27) j = h.bi (M + 27) j ∧ h'.bw (M + 28) j = h.bw (M + 28) j ∧ h'.bi (M + 29) j = h.bi (M + 29) j ∧ h'.bi (M + 30) j = h.bi (M + 30) j ∧ h'.bw (M + 31) j = h.bw (M + 31) j ∧ h'.bi (M + 32) j = h.bi (M + 32) j) ∧ (∀ e, e < w → h'.bi (M + 12) e = h.bi (M + 12) e) ∧ ∀ j, j < r → h'.bi (M + 33) j = h.bi (M + 33) j ∧ h'.bw (M + 34) j = h.bw (M + 34) j
theorem RowM.keep {w' r' j : Nat} {y : Ck} (q : RwK h h' M k w r) (hw : w ≤ w') (hr : r ≤ r') (hj : j < k) (m : RowM h M w r j y) : RowM h' M w' r' j y := by
  obtain ⟨q1, q2, q3⟩ := q
  obtain ⟨e23, e24, e25, e26, e27, e28, e29, e30, e31, e32⟩ := q1 j hj
  unfold RowM AnsM at m ⊢
  rw [e23, e25, e26, e27, e28, e29, e30, e31, e32]
  refine m.imp id (Or.imp id (Or.imp ?_ (Or.imp ?_ id)))
  · rintro ⟨a1, a2, a3, a4, a5, a6, mo, rr, e, b1, b2, b3, b4, b5, b6, b7, b8, b9, b10, b11⟩
    refine ⟨a1, a2, a3, a4, a5, a6, mo, rr, e, b1, b2, b3, b4, b5, b6, b7, b8, b9, by omega, fun i z hz => ?_⟩
    have il : i < e.2.2.1.length := by
      rcases Nat.lt_or_ge i e.2.2.1.length with q | q
      · exact q
      · rw [List.getElem?_eq_none q] at hz; cases hz
    rw [(q3 (rr + i) (by omega)).1, (q3 (rr + i) (by omega)).2]
    exact b11 i z hz
  · rintro ⟨a1, a2, a3, a4, a5, a6, e, b1, b2⟩
    exact ⟨a1, a2, a3, a4, a5, a6, e, by omega, by rw [q2 e b1]; exact b2⟩
/-- a call more, with its row -/
theorem Caq.log {D D' : Nat → TD} {w' r' i p' : Nat} {y : Nat × Ck} (q : Caq h M b w k r D) (kp : RwK h h' M k w r) (hw : w ≤ w') (hr : r ≤ r') (hi : i < b) (hb : b ≤ 512) (e24 : h'.bi (M + 24) k = nI (i + 1)) (row : RowM h' M w' r' k y.2) (st : StpP (tP (D i)).length y.2.1 (tP (D' i)).length) (ne : ∀ i', i' < b → i' ≠ i → tC (D' i') = tC (D i') ∧ (tP (D' i')).length = (tP (D i')).length) (eq : tC (D' i) = tC (D i) ++ [y]) : Caq h' M b w' (k + 1) r' D' := by
  have old : ∀ i', i' < b → CalQ (RowM h' M w' r') (rowI h' M k (i' + 1)) (tC (D i')) (tP (D i')).length := by
    intro i' hi'
    rw [rowI_con (i' + 1) (fun j hj => (kp.1 j hj).2.1)]
    exact (q.1 i' hi').mono (fun j hj y m => RowM.keep kp hw hr (rowI_lt hj) m)
  refine ⟨fun i' hi' => ?_, fun j hj => ?_⟩
  · rw [rowI_s, e24]
    by_cases e : i' = i
    · rw [e, if_pos rfl, eq]
      exact (old i hi).row row st
    · rw [if_neg (fun u => e (by have := (ni_inj (by omega) (by omega)).mp u; omega)), List.append_nil, (ne i' hi' e).1, (ne i' hi' e).2]
      exact old i' hi'
  · by_cases e : j = k
    · rw [e]; exact ⟨i + 1, by omega, by omega, e24⟩
    · obtain ⟨u, u1, u2, u3⟩ := q.2 j (by omega)
      exact ⟨u, u1, u2, by rw [(kp.1 j (by omega)).2.1]; exact u3⟩
end OWN
