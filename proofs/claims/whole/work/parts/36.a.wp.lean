/-! weakest preconditions over the translated text -/
def Wp {α : Type} (o : Option α) (Q : α → Prop) : Prop := ∃ a, o = some a ∧ Q a
theorem wp_some {α : Type} {a : α} {Q : α → Prop} (q : Q a) : Wp (some a) Q := ⟨a, rfl, q⟩
theorem wp_mono {α : Type} {o : Option α} {P Q : α → Prop} (p : Wp o P) (f : ∀ a, P a → Q a) : Wp o Q := p.elim fun a z => ⟨a, z.1, f a z.2⟩
theorem wp_eq {α β : Type} {o : Option α} {a : α} {f : α → Option β} {Q : β → Prop} (e : o = some a) (q : Wp (f a) Q) : Wp (o.bind f) Q := by rw [e]; exact q
theorem wp_bd {α β : Type} {o : Option α} {f : α → Option β} {P : α → Prop} {Q : β → Prop} (p : Wp o P) (q : ∀ a, P a → Wp (f a) Q) : Wp (o.bind f) Q := p.elim fun a z => wp_eq z.1 (q a z.2)
theorem wp_dr {β : Type} {h : Hp} {k a : Nat} {x : Option Nat} {f : Nat → Option β} {Q : β → Prop} (e : x = some a) (q : h.kd a = k) (r : Wp (f a) Q) : Wp (dr h k x f) Q := by rw [dr_e e q]; exact r
theorem wp_ck {β : Type} {c : Prop} [Decidable c] {x : Option β} {Q : β → Prop} (q : c) (r : Wp x Q) : Wp (ck c x) Q := by rw [ck_eq q]; exact r
theorem wp_ix {β : Type} {i n : Nat} {x : Option β} {Q : β → Prop} [Decidable (¬ (nI i < 0 ∨ n ≤ (nI i).toNatClampNeg))] (hi : i < n) (hn : n < 2147483648) (r : Wp x Q) : Wp (ck (¬ (nI i < 0 ∨ n ≤ (nI i).toNatClampNeg)) x) Q := wp_ck (ix_ok hi hn) r
theorem wp_if {β : Type} {c : Prop} [Decidable c] {x y : Option β} {Q : β → Prop} (p : c → Wp x Q) (r : ¬ c → Wp y Q) : Wp (if c then x else y) Q := by
  by_cases q : c
  · rw [if_pos q]; exact p q
  · rw [if_neg q]; exact r q
theorem wp_pos {β : Type} {c : Prop} [Decidable c] {x y : Option β} {Q : β → Prop} (q : c) (p : Wp x Q) : Wp (if c then x else y) Q := by rw [if_pos q]; exact p
theorem wp_neg {β : Type} {c : Prop} [Decidable c] {x y : Option β} {Q : β → Prop} (q : ¬ c) (p : Wp y Q) : Wp (if c then x else y) Q := by rw [if_neg q]; exact p
theorem wp_nn {β : Type} {x : Option Nat} {f : Option β} {g : Nat → Option β} {Q : β → Prop} (e : x = none) (p : Wp f Q) : Wp (nl x f g) Q := by rw [nl_ne e]; exact p
theorem wp_ns {β : Type} {x : Option Nat} {f : Option β} {g : Nat → Option β} {a : Nat} {Q : β → Prop} (e : x = some a) (p : Wp (g a) Q) : Wp (nl x f g) Q := by rw [nl_so e]; exact p
/-! keys with entries in the order of their writing -/
abbrev Shf : Type := List (Int32 × List Ent)
abbrev Kv : Type := Int32 × Ent
def chn (L : List Kv) (k : Int32) : List Ent := ((L.filter (fun x => x.1 == k)).map (fun x => x.2)).reverse
theorem chn_nil (k : Int32) : chn [] k = [] := rfl
theorem chn_add (L : List Kv) (k : Int32) (e : Ent) (k' : Int32) : chn (L ++ [(k, e)]) k' = if k' = k then e :: chn L k else chn L k' := by
  unfold chn
  rw [List.filter_append]
  by_cases q : k' = k
  · subst q
    rw [if_pos rfl]
    simp
  · rw [if_neg q]
    have : ([(k, e)] : List Kv).filter (fun x => x.1 == k') = [] := by simp [Ne.symm q]
    rw [this, List.append_nil]
theorem chn_mem {L : List Kv} {k : Int32} {e : Ent} : e ∈ chn L k ↔ (k, e) ∈ L := by
  unfold chn
  simp only [List.mem_reverse, List.mem_map, List.mem_filter]
  constructor
  · rintro ⟨⟨a, b⟩, ⟨h1, h2⟩, rfl⟩
    rw [← show a = k from eq_of_beq h2]
    exact h1
  · intro h
    exact ⟨(k, e), ⟨h, beq_self_eq_true k⟩, rfl⟩
theorem chn_ne {L : List Kv} {k : Int32} : chn L k ≠ [] ↔ ∃ e, (k, e) ∈ L := by
  constructor
  · intro h
    obtain ⟨e, he⟩ := List.exists_mem_of_ne_nil _ h
    exact ⟨e, chn_mem.mp he⟩
  · rintro ⟨e, he⟩ z
    have := chn_mem.mpr he
    rw [z] at this
    cases this
/-- the stamps don't fall -/
def Asc (L : List Kv) : Prop := L.Pairwise (fun x y => x.2.1 ≤ y.2.1)
def cutS (st : Int32) (L : List Kv) : List Kv := L.filter (fun x => !decide (st < x.2.1))
theorem dropW_filter (st : Int32) : ∀ (L : List Ent), L.Pairwise (fun x y => y.1 ≤ x.1) → dropW st L = L.filter (fun x => !decide (st < x.1)) := by
  intro L
  induction L with
  | nil => intro _; rfl
  | cons e r ih =>
    intro h
    rw [List.pairwise_cons] at h
    rw [dropW_c]
    by_cases q : st < e.1
    · rw [if_pos q, List.filter_cons_of_neg (by simp [q])]
      exact ih h.2
    · rw [if_neg q]
      refine (List.filter_eq_self.mpr ?_).symm
      intro a ha
      have : ¬ st < a.1 := by
        rcases List.mem_cons.mp ha with z | z
        · rw [z]; exact q
        · have h1 := h.1 a z
          rw [Int32.lt_iff_toInt_lt] at q ⊢
          rw [Int32.le_iff_toInt_le] at h1
          omega
      simp [this]
theorem chn_asc {L : List Kv} (h : Asc L) (k : Int32) : (chn L k).Pairwise (fun x y => y.1 ≤ x.1) := by
  unfold chn
  rw [List.pairwise_reverse, List.pairwise_map]
  exact List.Pairwise.filter _ h
theorem chn_cut {L : List Kv} (h : Asc L) (st k : Int32) : chn (cutS st L) k = dropW st (chn L k) := by
  rw [dropW_filter st _ (chn_asc h k)]
  unfold chn cutS
  rw [List.filter_reverse, List.filter_map, List.filter_filter, List.filter_filter]
  congr 2
  apply List.filter_congr
  intro x _
  show _ = (!decide (st < x.2.1) && _)
  exact Bool.and_comm _ _
theorem Asc.cut {L : List Kv} (h : Asc L) (st : Int32) : Asc (cutS st L) := List.Pairwise.filter _ h
/-- how many keys: those that are the last of their key -/
def nk : List Kv → Nat
  | [] => 0
  | x :: r => (if r.any (fun y => y.1 == x.1) then 0 else 1) + nk r
theorem nk_len : ∀ (L : List Kv) (K : List Int32), K.Nodup → (∀ k, k ∈ K ↔ ∃ e, (k, e) ∈ L) → K.length = nk L := by
  intro L
  induction L with
  | nil =>
    intro K _ h
    cases K with
    | nil => rfl
    | cons a r => exact absurd ((h a).mp List.mem_cons_self) (fun ⟨e, he⟩ => by cases he)
  | cons x r ih =>
    intro K hn h
    unfold nk
    by_cases q : r.any (fun y => y.1 == x.1) = true
    · rw [if_pos q, Nat.zero_add]
      apply ih K hn
      intro k
      rw [h k]
      constructor
      · rintro ⟨e, he⟩
        rcases List.mem_cons.mp he with z | z
        · obtain ⟨y, hy, hk⟩ := List.any_eq_true.mp q
          have : y.1 = k := by rw [eq_of_beq hk, ← z]
          exact ⟨y.2, by rw [← this]; exact hy⟩
        · exact ⟨e, z⟩
      · rintro ⟨e, he⟩
        exact ⟨e, List.mem_cons_of_mem _ he⟩
    · rw [if_neg q]
      have hm : x.1 ∈ K := (h x.1).mpr ⟨x.2, List.mem_cons_self⟩
      have := ih (K.erase x.1) (hn.erase _) (fun k => by
        rw [hn.mem_erase_iff, h k]
        constructor
        · rintro ⟨h1, e, he⟩
          rcases List.mem_cons.mp he with z | z
          · exact absurd (by rw [← z]) h1
          · exact ⟨e, z⟩
        · rintro ⟨e, he⟩
          refine ⟨fun z => q (List.any_eq_true.mpr ⟨(k, e), he, by rw [z]; exact beq_self_eq_true _⟩), e, List.mem_cons_of_mem _ he⟩)
      rw [List.length_erase_of_mem hm] at this
      have := List.length_pos_of_mem hm
      omega
/-- a shelf and its log -/
def BkL (A : Shf) (L : List Kv) : Prop := ∀ k, look A k = chn L k
theorem bk_len {A : Shf} {L : List Kv} (hs : Srt A) (hn : ∀ y ∈ A, y.2 ≠ []) (b : BkL A L) : A.length = nk L := by
  rw [← List.length_map (as := A) (fun y => y.1)]
  apply nk_len
  · rw [List.nodup_iff_pairwise_ne, List.pairwise_map, List.pairwise_iff_getElem]
    intro i j hi hj hij z
    have := hs i j A[i] A[j] hij (List.getElem?_eq_getElem hi) (List.getElem?_eq_getElem hj)
    rw [z] at this
    exact Int32.lt_irrefl this
  · intro k
    rw [← chn_ne, ← b k]
    constructor
    · intro h
      obtain ⟨y, hy, rfl⟩ := List.mem_map.mp h
      obtain ⟨i, hi⟩ := mem_iff_get.mp hy
      rw [look_get hs hi]
      exact hn y hy
    · intro h
      obtain ⟨i, hi⟩ := look_some hs h
      exact List.mem_map.mpr ⟨_, List.mem_of_getElem? hi, rfl⟩
theorem nk_le : ∀ (L : List Kv), nk L ≤ L.length := by
  intro L
  induction L with
  | nil => exact Nat.le_refl _
  | cons x r ih =>
    unfold nk
    rw [List.length_cons]
    by_cases q : r.any (fun y => y.1 == x.1) = true
    · rw [if_pos q]; omega
    · rw [if_neg q]; omega
theorem chn_le (L : List Kv) (k : Int32) : (chn L k).length ≤ L.length := by
  unfold chn
  rw [List.length_reverse, List.length_map]
  exact List.length_filter_le _ _
