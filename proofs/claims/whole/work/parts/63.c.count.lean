/-! counts, on both sides -/
def sumF (f : Nat → Nat) : Nat → Nat
  | 0 => 0
  | n + 1 => sumF f n + f n
theorem sumQ_f {R : Nat → Nat → Prop} {f : Nat → Nat} : ∀ (n x : Nat), SumQ R n x → (∀ t d, t < n → R t d → d = f t) → x = sumF f n := by
  intro n
  induction n with
  | zero => intro x s _; exact s
  | succ n ih =>
    intro x s e
    obtain ⟨a, d, s1, s2, s3⟩ := s
    rw [s3, ih a s1 (fun t d ht => e t d (by omega)), e n d (by omega) s2]
    rfl
theorem sumF_shift {f : Nat → Nat} (z : f 0 = 0) : ∀ n, sumF f (n + 1) = sumF (fun j => f (j + 1)) n := by
  intro n
  induction n with
  | zero => show 0 + f 0 = 0; rw [z]
  | succ n ih =>
    show sumF f (n + 1) + f (n + 1) = sumF (fun j => f (j + 1)) n + f (n + 1)
    rw [ih]
theorem sumF_con {f g : Nat → Nat} {n : Nat} (e : ∀ i, i < n → f i = g i) : sumF f n = sumF g n := by
  induction n with
  | zero => rfl
  | succ n ih =>
    show sumF f n + f n = sumF g n + g n
    rw [ih (fun i hi => e i (by omega)), e n (by omega)]
theorem sum_era (f : Nat → Nat) {i : Nat} : ∀ {xs : List Nat}, i ∈ xs → (xs.map f).sum = f i + ((xs.erase i).map f).sum := by
  intro xs
  induction xs with
  | nil => intro h; exact nomatch h
  | cons a r ih =>
    intro h
    by_cases e : a = i
    · rw [e, List.erase_cons_head, List.map_cons, List.sum_cons]
    · rw [List.erase_cons_tail (by simpa using e), List.map_cons, List.sum_cons, List.map_cons, List.sum_cons, ih ((List.mem_cons.mp h).resolve_left (fun z => e z.symm))]
      omega
theorem sum_list {P : Nat → Prop} [inst : ∀ i, Decidable (P i)] (f : Nat → Nat) : ∀ (n : Nat) (xs : List Nat), xs.Nodup → (∀ i, i ∈ xs ↔ i < n ∧ P i) → (xs.map f).sum = sumF (fun i => if P i then f i else 0) n := by
  intro n
  induction n with
  | zero =>
    intro xs _ hx
    cases xs with
    | nil => rfl
    | cons x xs => exact absurd ((hx x).mp List.mem_cons_self).1 (by omega)
  | succ n ih =>
    intro xs nd hx
    show _ = sumF (fun i => if P i then f i else 0) n + (if P n then f n else 0)
    by_cases z : P n
    · rw [if_pos z]
      have mem : n ∈ xs := (hx n).mpr ⟨by omega, z⟩
      rw [sum_era f mem, ih (xs.erase n) (nd.sublist List.erase_sublist) (fun i => by
        rw [nd.mem_erase_iff, hx i]
        exact ⟨fun u => ⟨by omega, u.2.2⟩, fun u => ⟨by omega, by omega, u.2⟩⟩)]
      omega
    · rw [if_neg z, ih xs nd (fun i => by
        rw [hx i]
        exact ⟨fun u => ⟨by
          by_cases e : i = n
          · rw [e] at u; exact absurd u.2 z
          · omega, u.2⟩, fun u => ⟨by omega, u.2⟩⟩)]
      rfl
theorem sum_one {α : Type} (xs : List α) : (xs.map (fun _ => 1)).sum = xs.length := by
  induction xs with
  | nil => rfl
  | cons a r ih => rw [List.map_cons, List.sum_cons, ih, List.length_cons]; omega
theorem sum_add {α : Type} (f g : α → Nat) (xs : List α) : (xs.map (fun y => f y + g y)).sum = (xs.map f).sum + (xs.map g).sum := by
  induction xs with
  | nil => rfl
  | cons a r ih => rw [List.map_cons, List.sum_cons, ih, List.map_cons, List.sum_cons, List.map_cons, List.sum_cons]; omega
theorem sum_con {α : Type} {f g : α → Nat} {xs : List α} (e : ∀ y ∈ xs, f y = g y) : (xs.map f).sum = (xs.map g).sum := by
  rw [List.map_congr_left e]
theorem sum_ite {α : Type} (p : α → Bool) (xs : List α) : (xs.map (fun y => if p y = true then 1 else 0)).sum = xs.countP p := by
  induction xs with
  | nil => rfl
  | cons a r ih =>
    rw [List.map_cons, List.sum_cons, ih, List.countP_cons]
    omega
section SPL
variable {B : Shf} {key : Nat → Int32}
theorem srt_pw (hs : Srt B) : B.Pairwise (fun y z => y.1 ≠ z.1) := by
  rw [List.pairwise_iff_getElem]
  intro i j hi hj ij e
  have := hs i j _ _ ij (List.getElem?_eq_getElem hi) (List.getElem?_eq_getElem hj)
  rw [e, Int32.lt_iff_toInt_lt] at this
  omega
theorem key_one (k : Int32) : ∀ (B : Shf), B.Pairwise (fun y z => y.1 ≠ z.1) → (∃ y ∈ B, y.1 = k) → (B.map (fun y => if k = y.1 then 1 else 0)).sum = 1 := by
  have zero : ∀ (B : Shf), (∀ y ∈ B, y.1 ≠ k) → (B.map (fun y => if k = y.1 then 1 else 0)).sum = 0 := by
    intro B
    induction B with
    | nil => intro _; rfl
    | cons a r ih =>
      intro h
      rw [List.map_cons, List.sum_cons, ih (fun y hy => h y (List.mem_cons_of_mem _ hy)), if_neg (fun e => h a List.mem_cons_self e.symm)]
  intro B
  induction B with
  | nil => rintro _ ⟨y, y1, _⟩; exact nomatch y1
  | cons a r ih =>
    intro pw ex
    obtain ⟨p1, p2⟩ := List.pairwise_cons.mp pw
    rw [List.map_cons, List.sum_cons]
    by_cases e : k = a.1
    · rw [if_pos e, zero r (fun y hy z => p1 y hy (by rw [← e, z]))]
    · rw [if_neg e, ih p2 ?_]
      obtain ⟨y, y1, y2⟩ := ex
      rcases List.mem_cons.mp y1 with u | u
      · rw [u] at y2; exact absurd y2.symm e
      · exact ⟨y, u, y2⟩
theorem cnt_split {P : Nat → Prop} (hs : Srt B) : ∀ v, (∀ i, i < v → P i → ∃ y ∈ B, y.1 = key i) → cntQ P v = (B.map (fun y => cntQ (fun i => key i = y.1 ∧ P i) v)).sum := by
  intro v
  induction v with
  | zero =>
    intro _
    have : ∀ (B : Shf), (B.map (fun (y : Int32 × List Ent) => (0 : Nat))).sum = 0 := by
      intro B
      induction B with
      | nil => rfl
      | cons a r ih => rw [List.map_cons, List.sum_cons, ih]
    exact (this B).symm
  | succ v ih =>
    intro h
    have ih := ih (fun i hi => h i (by omega))
    have cs : cntQ P (v + 1) = cntQ P v + @ite Nat (P v) (Classical.propDecidable _) 1 0 := rfl
    have cy : ∀ y : Int32 × List Ent, cntQ (fun i => key i = y.1 ∧ P i) (v + 1) = cntQ (fun i => key i = y.1 ∧ P i) v + @ite Nat (key v = y.1 ∧ P v) (Classical.propDecidable _) 1 0 := fun _ => rfl
    have e2 : (B.map (fun y => cntQ (fun i => key i = y.1 ∧ P i) (v + 1))).sum = (B.map (fun y => cntQ (fun i => key i = y.1 ∧ P i) v + @ite Nat (key v = y.1 ∧ P v) (Classical.propDecidable _) 1 0)).sum := rfl
    rw [cs, e2, sum_add, ← ih]
    congr 1
    by_cases z : P v
    · rw [if_pos z]
      refine (key_one (key v) B (srt_pw hs) (h v (by omega) z)).symm.trans ?_
      refine sum_con (fun y _ => ?_)
      by_cases u : key v = y.1
      · rw [if_pos u, if_pos ⟨u, z⟩]
      · rw [if_neg u, if_neg (fun x => u x.1)]
    · rw [if_neg z]
      have : (B.map (fun y => @ite Nat (key v = y.1 ∧ P v) (Classical.propDecidable _) 1 0)).sum = (B.map (fun (y : Int32 × List Ent) => (0 : Nat))).sum := sum_con (fun y _ => if_neg (fun u => z u.2))
      rw [this]
      have : ∀ (B : Shf), (B.map (fun (y : Int32 × List Ent) => (0 : Nat))).sum = 0 := by
        intro B
        induction B with
        | nil => rfl
        | cons a r ih => rw [List.map_cons, List.sum_cons, ih]
      exact (this B).symm
theorem cnt_none {P : Nat → Prop} {n : Nat} (e : ∀ i, i < n → ¬ P i) : cntQ P n = 0 := by
  by_cases z : cntQ P n = 0
  · exact z
  · obtain ⟨u, u1, u2⟩ := cntQ_pos.mp z
    exact absurd u2 (e u u1)
theorem cnt_single {P : Nat → Prop} {n i : Nat} (hi : i < n) (e : ∀ u, u < n → (P u ↔ u = i)) : cntQ P n = 1 := by
  have c := cntQ_out (P := fun u => u = i) (Q := fun _ => False) (t := i) rfl id (fun u hu => ⟨False.elim, fun z => hu z⟩) n
  rw [cnt_none (P := fun _ => False) (fun _ _ => id), if_pos hi] at c
  exact (cntQ_same (P := P) (Q := fun u => u = i) (fun u hu => (e u hu).symm)).trans c
end SPL
section CNT
variable {h : Hp} {M b c w l v k r clk : Nat} {G : Nat → Int32} {fv : Int64} {B : Shf} {V : List Kv} {ts : List Nat} {D : Nat → TD} {ac cm : List Nat} {ct rs : Nat → Int32} {R : List (Int32 × Int64)}
theorem rnF_le (q : Cpl h M b c w l v k r clk G fv V ts D ac cm ct rs R) (pu : Pu B V ts D) {i : Nat} (hi : i < b) {d : Nat} (hd : d ≤ l) (rn : runS h M l (i + 1) (nI d)) : d = rnF D i := by
  have hl := q.1.2.2.2.2.2.2.2.2.2.2.1
  obtain ⟨S, s1, s2, s4, s3⟩ := rn
  have e := run_eq q pu hi ⟨S, s1, rfl, s4, s3⟩
  obtain ⟨q1, q2, q3, q4, q5, q6, q7, q8, q9, q10, q11, q12, q13, q14, q15, q16⟩ := q
  have cn := (pu.2.2.2.2 i (by omega)).2.2.2
  have bound : rnF D i ≤ S.length := by
    unfold rnF
    by_cases z : (D i).1 1005 = 2
    · rw [if_pos z]; omega
    · rw [if_neg z]
      have : S = tS (D i) := can_uniq S (tS (D i)) s1 cn (fun key => by
        rw [s3, q10.1 i hi]
        refine ⟨fun u => u.2, fun u => ⟨fun y => z ?_, u⟩⟩
        rw [(q4 i hi).2.2.1]
        by_cases z : h.bi (M + 2) (i + 1) = 0
        · have := (q5.2 (i + 1) (by omega) (by omega)).2.2.1 z
          rw [this] at y
          exact absurd y (by decide)
        · rw [if_neg z, y]; rfl)
      rw [this]
      exact Nat.le_refl _
  rw [← s2] at e
  exact (ni_inj (by omega) (by omega)).mp e
theorem cm_nd (q : Cpl h M b c w l v k r clk G fv V ts D ac cm ct rs R) : cm.Nodup := by
  have q7 := q.2.2.2.2.2.2.1
  have c512 := q.1.2.2.2.2.2.2.2.2.1
  have q3 := q.2.2.1
  rw [List.nodup_iff_pairwise_ne, List.pairwise_iff_getElem]
  intro i j hi hj ij e
  have a := (q7.2.1 i _ (List.getElem?_eq_getElem hi)).2.2
  have b := (q7.2.1 j _ (List.getElem?_eq_getElem hj)).2.2
  rw [e] at a
  have := (ni_inj (by omega) (by omega)).mp (a.symm.trans b)
  omega
theorem kept_mem (q : Cpl h M b c w l v k r clk G fv V ts D ac cm ct rs R) (sa : ac.Pairwise (fun a b => a < b)) {s : Nat} (hs : hzn D ac cm = nI s) (hsc : s ≤ cm.length) (i : Nat) : i ∈ cm.drop s ↔ i < b ∧ keptT h M b c (i + 1) := by
  have q' := q
  obtain ⟨q1, q2, q3, q4, q5, q6, q7, q8, q9, q10, q11, q12, q13, q14, q15, q16⟩ := q'
  have c512 := q1.2.2.2.2.2.2.2.2.1
  have ml : ∀ {m i : Nat}, cm[m]? = some i → m < cm.length := by
    intro m i h
    rcases Nat.lt_or_ge m cm.length with z | z
    · exact z
    · rw [List.getElem?_eq_none z] at h; cases h
  constructor
  · intro z
    obtain ⟨n, hn⟩ := List.getElem?_of_mem z
    rw [List.getElem?_drop] at hn
    obtain ⟨z1, z2, z3⟩ := q7.2.1 _ i hn
    refine ⟨z1, (kept_eq q sa z1).mpr ⟨(q4 i z1).2.2.2.1.trans z2, ?_⟩⟩
    have := ml hn
    rw [hs, (q4 i z1).2.2.2.2.1, z3, ni_lt (by omega) (by omega)]
    omega
  · rintro ⟨z1, z2⟩
    obtain ⟨z3, z4⟩ := (kept_eq q sa z1).mp z2
    rw [(q4 i z1).2.2.2.1] at z3
    obtain ⟨m, hm⟩ := q7.2.2 i z1 z3
    have := ml hm
    rw [hs, (q4 i z1).2.2.2.2.1, (q7.2.1 m i hm).2.2, ni_lt (by omega) (by omega)] at z4
    refine List.mem_of_getElem? (i := m - s) ?_
    rw [List.getElem?_drop, show s + (m - s) = m by omega]
    exact hm
theorem kept_cnt (q : Cpl h M b c w l v k r clk G fv V ts D ac cm ct rs R) (pu : Pu B V ts D) (m key : Int32) : keptN m (chn V key) = cntQ (kvP h M v key m) v := by
  have q11 := q.2.2.2.2.2.2.2.2.2.2.1
  have hv := q.1.2.2.2.2.2.2.2.2.2.2.2.1
  have := (ver_list key m v V q11.1 hv pu.2.2.2.1 (ver_rows q11)).len
  rw [List.length_take, pl_len, Nat.min_eq_left (keptN_le _ _)] at this
  exact this
theorem has_key (q11 : Veq h M b w v V) (pu : Pu B V ts D) {i : Nat} (hi : i < v) : ∃ y ∈ B, y.1 = h.bi (M + 19) i := by
  obtain ⟨x, hx⟩ : ∃ x, V[i]? = some x := ⟨_, List.getElem?_eq_getElem (by rw [q11.1]; exact hi)⟩
  have a := (q11.2.2 i x hx).1
  have m : x.2 ∈ chn V (h.bi (M + 19) i) := by
    rw [chn_mem, ← a, Prod.eta]
    exact List.mem_of_getElem? hx
  have ne : look B (h.bi (M + 19) i) ≠ [] := fun z => by
    rw [pu.2.2.1] at z
    rw [z] at m
    exact nomatch m
  obtain ⟨n, hn⟩ := look_some pu.1 ne
  exact ⟨_, List.mem_of_getElem? hn, rfl⟩
theorem count_eq (q : Cpl h M b c w l v k r clk G fv V ts D ac cm ct rs R) (pu : Pu B V ts D) (sa : ac.Pairwise (fun a b => a < b)) {s : Nat} (hs : hzn D ac cm = nI s) (hsc : s ≤ cm.length) {what y : Int32} (t : CouR h M b c l v what y) : cntV ct (hzn D ac cm) B ts D ac cm s what = y := by
  have q' := q
  obtain ⟨q1, q2, q3, q4, q5, q6, q7, q8, q9, q10, q11, q12, q13, q14, q15, q16⟩ := q'
  have hb := q1.2.2.2.2.2.2.2.1
  have hz := hz_is q sa
  have nd : ac.Nodup := sa.imp (fun z => Nat.ne_of_lt z)
  have km := kept_mem q sa hs hsc
  have bk : ∀ y ∈ B, y.2 = chn V y.1 := fun y hy => by rw [← pu.2.2.1, look_mem pu.1 (by rw [Prod.eta]; exact hy)]
  unfold cntV
  unfold CouR at t
  by_cases a0 : what = 0
  · rw [if_pos a0] at t
    rw [a0, if_neg (by decide), if_pos rfl, t, q2]
  rw [if_neg a0] at t
  by_cases a5 : what = 1 ∨ what = 2 ∨ what = 3 ∨ what = 4 ∨ what = 5
  · rw [if_pos a5] at t
    rw [t]
    rcases a5 with z | z | z | z | z
    · rw [z, if_pos (by decide)]; exact q13 1 (by omega) (by omega)
    · rw [z, if_pos (by decide)]; exact q13 2 (by omega) (by omega)
    · rw [z, if_pos (by decide)]; exact q13 3 (by omega) (by omega)
    · rw [z, if_pos (by decide)]; exact q13 4 (by omega) (by omega)
    · rw [z, if_pos (by decide)]; exact q13 5 (by omega) (by omega)
  rw [if_neg a5] at t
  have n15 : ¬ (1 ≤ what.toInt ∧ what.toInt ≤ 5) := by
    intro z
    apply a5
    have e1 : (1 : Int32).toInt = 1 := rfl
    have e2 : (2 : Int32).toInt = 2 := rfl
    have e3 : (3 : Int32).toInt = 3 := rfl
    have e4 : (4 : Int32).toInt = 4 := rfl
    have e5 : (5 : Int32).toInt = 5 := rfl
    rcases (show what.toInt = 1 ∨ what.toInt = 2 ∨ what.toInt = 3 ∨ what.toInt = 4 ∨ what.toInt = 5 by omega) with u | u | u | u | u
    · exact Or.inl (Int32.toInt_inj.mp (u.trans e1.symm))
    · exact Or.inr (Or.inl (Int32.toInt_inj.mp (u.trans e2.symm)))
    · exact Or.inr (Or.inr (Or.inl (Int32.toInt_inj.mp (u.trans e3.symm))))
    · exact Or.inr (Or.inr (Or.inr (Or.inl (Int32.toInt_inj.mp (u.trans e4.symm)))))
    · exact Or.inr (Or.inr (Or.inr (Or.inr (Int32.toInt_inj.mp (u.trans e5.symm)))))
  rw [if_neg n15, if_neg a0]
  by_cases a6 : what = 6
  · rw [if_pos a6] at t ⊢
    obtain ⟨x, x1, x2⟩ := t
    haveI : ∀ i, Decidable (keptT h M b c (i + 1)) := fun i => Classical.propDecidable _
    have e := sumQ_f (f := fun t => match t with | 0 => 0 | i + 1 => if keptT h M b c (i + 1) then 1 else 0) (b + 1) x x2 (fun t d ht z => by
      rcases z with ⟨z1, z2⟩ | ⟨z1, ⟨_, z2⟩ | ⟨z2, _⟩⟩
      · rw [z1]; exact z2
      · obtain ⟨t', rfl⟩ : ∃ t', t = t' + 1 := ⟨t - 1, by omega⟩
        show d = if keptT h M b c (t' + 1) then 1 else 0
        rcases z2 with ⟨z3, z4⟩ | ⟨z3, z4⟩
        · rw [if_pos z3, z4]
        · rw [if_neg z3, z4]
      · exact absurd rfl z2)
    rw [sumF_shift rfl] at e
    have sl := sum_list (P := fun i => keptT h M b c (i + 1)) (fun _ => 1) b (cm.drop s) ((cm_nd q).sublist (List.drop_sublist _ _)) (fun i => km i)
    rw [sum_one, List.length_drop] at sl
    rw [x1, e, hs, ni_sub hsc, sl]
  rw [if_neg a6] at t ⊢
  by_cases a7 : what = 7
  · rw [if_pos a7] at t ⊢
    obtain ⟨x, x1, x2⟩ := t
    haveI : ∀ i, Decidable (keptT h M b c (i + 1) ∨ h.bi (M + 1) (i + 1) = 1) := fun i => Classical.propDecidable _
    have e := sumQ_f (f := fun t => match t with | 0 => 0 | i + 1 => if keptT h M b c (i + 1) ∨ h.bi (M + 1) (i + 1) = 1 then rnF D i else 0) (b + 1) x x2 (fun t d ht z => by
      rcases z with ⟨z1, z2⟩ | ⟨z1, ⟨z2, _⟩ | ⟨_, z2⟩⟩
      · rw [z1]; exact z2
      · exact absurd z2 (by decide)
      · obtain ⟨t', rfl⟩ : ∃ t', t = t' + 1 := ⟨t - 1, by omega⟩
        show d = if keptT h M b c (t' + 1) ∨ h.bi (M + 1) (t' + 1) = 1 then rnF D t' else 0
        rcases z2 with ⟨z3, z4, z5⟩ | ⟨z3, z4⟩
        · rw [if_pos z3]
          exact rnF_le q pu (by omega) z4 z5
        · rw [if_neg z3, z4])
    rw [sumF_shift rfl] at e
    have sl := sum_list (P := fun i => keptT h M b c (i + 1) ∨ h.bi (M + 1) (i + 1) = 1) (rnF D) b (ac ++ cm.drop s) (List.nodup_append.mpr ⟨nd, (cm_nd q).sublist (List.drop_sublist _ _), fun a ha z hz e => by
        rw [← e] at hz
        have := ((q7.1 a).mp ha).2
        rw [((km a).mp hz).2.1] at this
        exact absurd this (by decide)⟩) (fun i => by
      rw [List.mem_append, q7.1, km]
      exact ⟨fun u => u.elim (fun u => ⟨u.1, Or.inr u.2⟩) (fun u => ⟨u.1, Or.inl u.2⟩), fun u => u.2.elim (fun z => Or.inr ⟨u.1, z⟩) (fun z => Or.inl ⟨u.1, z⟩)⟩)
    rw [List.map_append, List.sum_append] at sl
    rw [x1, e, sl]
  rw [if_neg a7] at t ⊢
  by_cases a8 : what = 8
  · rw [if_pos a8] at t ⊢
    obtain ⟨m, m1, m2⟩ := t
    rw [m1.uniq hz] at m2
    rw [m2, cnt_split (key := h.bi (M + 19)) pu.1 v (fun i hi _ => has_key q11 pu hi)]
    congr 1
    refine sum_con (fun y hy => ?_)
    rw [bk y hy, kept_cnt q pu]
    refine cntQ_same (fun i _ => ?_)
    exact ⟨fun u => ⟨u.1, u.2.1⟩, fun u => ⟨u.1, u.2, Or.inl rfl⟩⟩
  rw [if_neg a8] at t ⊢
  by_cases a9 : what = 9
  · rw [if_pos a9] at t ⊢
    obtain ⟨m, m1, m2⟩ := t
    rw [m1.uniq hz] at m2
    rw [m2, cnt_split (key := h.bi (M + 19)) pu.1 v (fun i hi _ => has_key q11 pu hi), ← sum_ite]
    congr 1
    refine sum_con (fun y hy => ?_)
    have hv := q1.2.2.2.2.2.2.2.2.2.2.2.1
    have kc := kept_cnt q pu (hzn D ac cm) y.1
    rw [← pl_len] at kc
    rw [bk y hy]
    have np : ∀ i, i < v → (nthS (kvP h M v y.1 (hzn D ac cm)) v 0 (nI i) ↔ (pl (kvP h M v y.1 (hzn D ac cm)) v)[0]? = some i) := by
      intro i hi
      constructor
      · intro n
        rcases nth_pl n with ⟨z, _⟩ | ⟨i', z1, z2, z3⟩
        · exact absurd z (ni_m1 (by omega))
        · rw [(ni_inj (by omega) (by omega)).mp z2]; exact z3
      · intro n
        obtain ⟨n1, n2, n3⟩ := pl_get v 0 i n
        exact Or.inr ⟨i, n1, rfl, n2, by omega⟩
    cases e : pl (kvP h M v y.1 (hzn D ac cm)) v with
    | nil =>
      rw [e] at kc
      rw [kc, if_neg (by decide), cnt_none]
      rintro i hi ⟨i1, i2, i3⟩
      rcases i3 with i3 | i3
      · exact absurd i3 (by decide)
      · rw [i1, np i hi, e] at i3
        exact nomatch i3
    | cons i0 rest =>
      rw [e] at kc
      rw [kc, if_pos (by simp)]
      have g0 : (pl (kvP h M v y.1 (hzn D ac cm)) v)[0]? = some i0 := by rw [e]; rfl
      obtain ⟨n1, n2, n3⟩ := pl_get v 0 i0 g0
      symm
      refine cnt_single n1 (fun u hu => ⟨?_, ?_⟩)
      · rintro ⟨i1, i2, i3⟩
        rcases i3 with i3 | i3
        · exact absurd i3 (by decide)
        · rw [i1, np u hu, g0] at i3
          exact (Option.some.inj i3).symm
      · intro z
        rw [z]
        refine ⟨n2.1, n2.2, Or.inr ?_⟩
        rw [n2.1, np i0 n1]
        exact g0
  rw [if_neg a9] at t ⊢
  by_cases a10 : what = 10
  · rw [if_pos a10] at t ⊢
    exact hz.uniq t
  rw [if_neg a10] at t ⊢
  by_cases a11 : what = 11
  · rw [if_pos a11] at t ⊢
    rw [t, q3]
  · rw [if_neg a11] at t ⊢
    exact t.symm
end CNT
