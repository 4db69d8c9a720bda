/-! the whole object. p: where its parts lie: 0 store, 1 its list, 2 begun, 3 active, 4 committed, 5 inState, 6 reason, 7 scratch, 8 and 9 its arrays, 10 others, 11 the object -/
abbrev TD : Type := (Nat → Int32) × Ad × Td
def KX (g : Nat → Nat) (h : Hp) (p : Nat → Nat) (G : Nat → Int32) (fv : Int64) (lr : Option Nat) : Prop := h.kd (p 11) = 12 ∧ g (p 11) = p 11 ∧ (∀ f, h.fi f (p 11) = G f) ∧ h.fl 1210 (p 11) = fv ∧ h.fr 1200 (p 11) = some (p 0) ∧ h.fr 1201 (p 11) = some (p 2) ∧ h.fr 1202 (p 11) = some (p 3) ∧ h.fr 1203 (p 11) = some (p 4) ∧ h.fr 1204 (p 11) = some (p 5) ∧ h.fr 1205 (p 11) = some (p 6) ∧ h.fr 1206 (p 11) = some (p 7) ∧ h.fr 1207 (p 11) = some (p 10) ∧ h.fr 1211 (p 11) = lr ∧ p 12 < h.nx ∧ g (p 12) = p 12
def KS (g : Nat → Nat) (h : Hp) (p : Nat → Nat) (B : Shf) (V : List Kv) : Prop := g (p 0) = p 0 ∧ Sh g h (p 0) (p 1) B ∧ BkL B V ∧ Asc V
def KL (g : Nat → Nat) (h : Hp) (l : Nat) (xs : List Nat) : Prop := g l = l ∧ Al g h l xs
/-- the others' list, with its room -/
def KO (g : Nat → Nat) (h : Hp) (l : Nat) (xs : List Nat) (c : Nat) : Prop := (g l = l ∧ cap h l = c) ∧ Al g h l xs
def KA (g : Nat → Nat) (h : Hp) (a n : Nat) (f : Nat → Int32) : Prop := h.kd a = 20 ∧ g a = a ∧ h.al a = n ∧ ∀ i, h.ai a i = f i
/-- the rows of the latest scan -/
def KR (g : Nat → Nat) (h : Hp) (scr : Nat) (lr : Option Nat) (R : List (Int32 × Int64)) : Prop := match lr with
  | none => R = []
  | some a => a ≠ scr ∧ ∃ (ka va : Nat) (e : AnD), e.2.2.1 = R ∧ An g h a e.2.2.1.length ka va (e.1, e.2.1, e.2.2.1, none)
def KT (g : Nat → Nat) (h : Hp) (p : Nat → Nat) (ts : List Nat) (D : Nat → TD) : Prop := ∀ (i t : Nat), ts[i]? = some t → Tr g h (p 0) (p 7) t (D i).1 (D i).2.1 (D i).2.2
def KN (p : Nat → Nat) (ts : List Nat) (D : Nat → TD) : Prop := ts.Nodup ∧ p 2 ≠ p 3 ∧ p 2 ≠ p 4 ∧ p 2 ≠ p 10 ∧ p 3 ≠ p 4 ∧ p 3 ≠ p 10 ∧ p 4 ≠ p 10 ∧ p 5 ≠ p 6 ∧ ∀ i j, i < ts.length → j < ts.length → i ≠ j → (D i).2.1.1 ≠ (D j).2.1.1
def adr (ts : List Nat) (i : Nat) : Nat := (ts[i]?).getD 0
/-- the state: X's ints, the value found, the log of versions, the transactions, active, committed, others, the counts, the reason, the scratch, the rows -/
def Kr (g : Nat → Nat) (h : Hp) (p : Nat → Nat) (G : Nat → Int32) (fv : Int64) (lr : Option Nat) (B : Shf) (V : List Kv) (ts : List Nat) (D : Nat → TD) (ac cm ot : List Nat) (ct rs : Nat → Int32) (d0 : AnD) (R : List (Int32 × Int64)) (cO : Nat) : Prop :=
  KX g h p G fv lr ∧ KS g h p B V ∧ KL g h (p 2) ts ∧ KL g h (p 3) (ac.map (adr ts)) ∧ KL g h (p 4) (cm.map (adr ts)) ∧ KO g h (p 10) (ot.map (adr ts)) cO ∧ KA g h (p 5) 6 ct ∧ KA g h (p 6) 4 rs ∧ An g h (p 7) 100 (p 8) (p 9) d0 ∧ KR g h (p 7) lr R ∧ KT g h p ts D ∧ KN p ts D
theorem KX.fr {g g' : Nat → Nat} {r : Nat} {h h' : Hp} {p : Nat → Nat} {G : Nat → Int32} {fv : Int64} {lr : Option Nat} (q : KX g h p G fv lr) (w : Wf g h) (F : Fr g g' r h h') (hr : g r = r) (n : p 11 ≠ r) : KX g' h' p G fv lr := by
  obtain ⟨q1, q2, q3, q4, q5, q6, q7, q8, q9, q10, q11, q12, q13⟩ := q
  have ag := F.ag w q1 (by decide) (nun_root q2 n)
  exact ⟨F.kd w q1 (by decide), (F.gg w q1 (by decide)).trans q2, fun f => (ag.fi f).trans (q3 f), (ag.fl _).trans q4, (ag.fr _).trans q5, (ag.fr _).trans q6, (ag.fr _).trans q7, (ag.fr _).trans q8, (ag.fr _).trans q9, (ag.fr _).trans q10, (ag.fr _).trans q11, (ag.fr _).trans q12, (ag.fr _).trans q13.1, Nat.lt_of_lt_of_le q13.2.1 F.2.2.1.2.1, (F.1 _ q13.2.1).trans q13.2.2⟩
theorem KS.fr {g g' : Nat → Nat} {r : Nat} {h h' : Hp} {p : Nat → Nat} {B : Shf} {V : List Kv} (q : KS g h p B V) (w : Wf g h) (F : Fr g g' r h h') (hr : g r = r) (h7 : h.kd r ≠ 7) (n : p 0 ≠ r) : KS g' h' p B V := ⟨(F.gg w q.2.1.1 (by decide)).trans q.1, q.2.1.fr w F h7 (sep_roots hr q.1 (Ne.symm n)), q.2.2⟩
theorem KL.fr {g g' : Nat → Nat} {r : Nat} {h h' : Hp} {l : Nat} {xs : List Nat} (q : KL g h l xs) (w : Wf g h) (F : Fr g g' r h h') (hr : g r = r) (n : l ≠ r) : KL g' h' l xs := ⟨(F.gg w q.2.1 (by decide)).trans q.1, q.2.fr w F (sep_roots hr q.1 (Ne.symm n))⟩
theorem KO.fr {g g' : Nat → Nat} {r : Nat} {h h' : Hp} {l c : Nat} {xs : List Nat} (q : KO g h l xs c) (w : Wf g h) (F : Fr g g' r h h') (hr : g r = r) (n : l ≠ r) : KO g' h' l xs c := by
  have s := sep_roots hr q.1.1 (Ne.symm n)
  exact ⟨⟨(F.gg w q.2.1 (by decide)).trans q.1.1, (cap_fr q.2 w F s).trans q.1.2⟩, q.2.fr w F s⟩
theorem KA.fr {g g' : Nat → Nat} {r : Nat} {h h' : Hp} {a m : Nat} {f : Nat → Int32} (q : KA g h a m f) (w : Wf g h) (F : Fr g g' r h h') (n : a ≠ r) : KA g' h' a m f := by
  have ag := F.ag w q.1 (by decide) (nun_root q.2.1 n)
  exact ⟨F.kd w q.1 (by decide), (F.gg w q.1 (by decide)).trans q.2.1, (F.al w q.1 (by decide)).trans q.2.2.1, fun i => by rw [ag.ai]; exact q.2.2.2 i⟩
theorem An.rt {g g' : Nat → Nat} {r : Nat} {h h' : Hp} {a n ka va : Nat} {d : AnD} (q : An g h a n ka va d) (w : Wf g h) (F : Fr g g' r h h') (hr : g r = r) (m : a ≠ r) : An g' h' a n ka va d := by
  have n3 : r ≠ ka := fun z => by
    have h1 := q.2.2.2.2.2.2.1
    rw [← z, hr] at h1
    exact m h1.symm
  have n4 : r ≠ va := fun z => by
    have h1 := q.2.2.2.2.2.2.2.1
    rw [← z, hr] at h1
    exact m h1.symm
  exact q.fr w F (nun_root q.2.1 m) ⟨n3, n4⟩
theorem KR.fr {g g' : Nat → Nat} {r : Nat} {h h' : Hp} {scr : Nat} {lr : Option Nat} {R : List (Int32 × Int64)} (q : KR g h scr lr R) (w : Wf g h) (F : Fr g g' r h h') (hr : g r = r) (h3 : h.kd r = 3 → r = scr) : KR g' h' scr lr R := by
  unfold KR at *
  cases lr with
  | none => exact q
  | some a =>
    obtain ⟨q1, ka, va, e, q2, q3⟩ := q
    exact ⟨q1, ka, va, e, q2, q3.rt w F hr (fun z => q1 (by rw [z]; exact h3 (by rw [← z]; exact q3.1)))⟩
theorem KT.fr {g g' : Nat → Nat} {r : Nat} {h h' : Hp} {p : Nat → Nat} {ts : List Nat} {D : Nat → TD} (q : KT g h p ts D) (w : Wf g h) (F : Fr g g' r h h') (rt : Rt g h (p 7) r) (n : h.kd r ≠ 10) (n2 : h.kd r ≠ 11) : KT g' h' p ts D := fun i t ht => (q i t ht).fr w F rt (fun z => n (by rw [← z]; exact (q i t ht).1)) (fun z => n2 (by rw [← z]; exact (q i t ht).2.2.2.1.2.2.1.1.1))
section KU
variable {g g' : Nat → Nat} {h h' : Hp} {p : Nat → Nat} {G : Nat → Int32} {fv : Int64} {lr : Option Nat} {B : Shf} {V : List Kv} {ts : List Nat} {D : Nat → TD} {ac cm ot : List Nat} {ct rs : Nat → Int32} {d0 : AnD} {R : List (Int32 × Int64)} {cO : Nat}
/-- a transaction changes, or its view -/
theorem Kr.txg (q : Kr g h p G fv lr B V ts D ac cm ot ct rs d0 R cO) (w : Wf g h) {i t r : Nat} (ht : ts[i]? = some t) (hr : g r = r) (hk : h.kd r = 10 ∨ h.kd r = 11) (no : ∀ (j u : Nat), ts[j]? = some u → j ≠ i → u ≠ r ∧ (D j).2.1.1 ≠ r) (F : Fr g g' r h h') {x : TD} (tr : Tr g' h' (p 0) (p 7) t x.1 x.2.1 x.2.2) (hx : x.2.1.1 = (D i).2.1.1) : Kr g' h' p G fv lr B V ts (va_up D i x) ac cm ot ct rs d0 R cO := by
  obtain ⟨k1, k2, k3, k4, k5, k6, k7, k8, k9, k10, k11, k12⟩ := q
  have rt : Rt g h (p 7) r := ⟨hr, by omega, by omega, fun z => by omega⟩
  have ne : ∀ {a k : Nat}, h.kd a = k → k ≠ 10 → k ≠ 11 → a ≠ r := fun ha n1 n2 z => by rw [z] at ha; omega
  refine ⟨k1.fr w F hr (ne k1.1 (by decide) (by decide)), k2.fr w F hr (by omega) (ne k2.2.1.1 (by decide) (by decide)), k3.fr w F hr (ne k3.2.1 (by decide) (by decide)), k4.fr w F hr (ne k4.2.1 (by decide) (by decide)), k5.fr w F hr (ne k5.2.1 (by decide) (by decide)), k6.fr w F hr (ne k6.2.1 (by decide) (by decide)), k7.fr w F (ne k7.1 (by decide) (by decide)), k8.fr w F (ne k8.1 (by decide) (by decide)), k9.rt w F hr (ne k9.1 (by decide) (by decide)), k10.fr w F hr (fun z => by omega), ?_, ?_⟩
  · intro j u hu
    by_cases z : j = i
    · subst z
      rw [ht] at hu
      injection hu with hu
      rw [va_up_self, ← hu]
      exact tr
    · rw [va_up_ne _ _ z]
      exact (k11 j u hu).fr w F rt (no j u hu z).1 (no j u hu z).2
  · obtain ⟨n1, n2, n3, n4, n5, n6, n7, n8, n9⟩ := k12
    refine ⟨n1, n2, n3, n4, n5, n6, n7, n8, fun a b ha hb hab => ?_⟩
    have e : ∀ c, (va_up D i x c).2.1.1 = (D c).2.1.1 := fun c => by
      by_cases z : c = i
      · rw [z, va_up_self]; exact hx
      · rw [va_up_ne _ _ z]
    rw [e a, e b]
    exact n9 a b ha hb hab
theorem Kr.tx (q : Kr g h p G fv lr B V ts D ac cm ot ct rs d0 R cO) (w : Wf g h) {i t : Nat} (ht : ts[i]? = some t) (F : Fr g g' t h h') {x : TD} (tr : Tr g' h' (p 0) (p 7) t x.1 x.2.1 x.2.2) (hx : x.2.1.1 = (D i).2.1.1 := by rfl) : Kr g' h' p G fv lr B V ts (va_up D i x) ac cm ot ct rs d0 R cO := by
  have k11 := q.2.2.2.2.2.2.2.2.2.2.1
  have nd := q.2.2.2.2.2.2.2.2.2.2.2.1
  refine q.txg w ht (k11 i t ht).2.1 (Or.inl (k11 i t ht).1) (fun j u hu z => ⟨fun y => z ?_, ne_kd (k11 j u hu).2.2.2.1.2.2.1.1.1 (k11 i t ht).1 (by decide)⟩) F tr hx
  rw [y] at hu
  exact (List.getElem?_inj (List.getElem?_eq_some_iff.mp hu).1 nd).mp (hu.trans ht.symm)
theorem Kr.txv (q : Kr g h p G fv lr B V ts D ac cm ot ct rs d0 R cO) (w : Wf g h) {i t : Nat} (ht : ts[i]? = some t) (F : Fr g g' (D i).2.1.1 h h') {x : TD} (tr : Tr g' h' (p 0) (p 7) t x.1 x.2.1 x.2.2) (hx : x.2.1.1 = (D i).2.1.1 := by rfl) : Kr g' h' p G fv lr B V ts (va_up D i x) ac cm ot ct rs d0 R cO := by
  have k11 := q.2.2.2.2.2.2.2.2.2.2.1
  have n9 := q.2.2.2.2.2.2.2.2.2.2.2.2.2.2.2.2.2.2.2
  have t0 := (k11 i t ht).2.2.2.1
  exact q.txg w ht t0.2.1 (Or.inr t0.2.2.1.1.1) (fun j u hu z => ⟨ne_kd (k11 j u hu).1 t0.2.2.1.1.1 (by decide), n9 j i (List.getElem?_eq_some_iff.mp hu).1 (List.getElem?_eq_some_iff.mp ht).1 z⟩) F tr hx
/-- the store changes -/
theorem Kr.store (q : Kr g h p G fv lr B V ts D ac cm ot ct rs d0 R cO) (w : Wf g h) (F : Fr g g' (p 0) h h') {B' : Shf} {V' : List Kv} (s : Sh g' h' (p 0) (p 1) B') (b : BkL B' V') (as : Asc V') : Kr g' h' p G fv lr B' V' ts D ac cm ot ct rs d0 R cO := by
  obtain ⟨k1, k2, k3, k4, k5, k6, k7, k8, k9, k10, k11, k12⟩ := q
  have hk := k2.2.1.1
  have hr := k2.1
  have rt : Rt g h (p 7) (p 0) := ⟨hr, by omega, by omega, fun z => by omega⟩
  exact ⟨k1.fr w F hr (ne_kd k1.1 hk (by decide)), ⟨(F.gg w hk (by decide)).trans hr, s, b, as⟩, k3.fr w F hr (ne_kd k3.2.1 hk (by decide)), k4.fr w F hr (ne_kd k4.2.1 hk (by decide)), k5.fr w F hr (ne_kd k5.2.1 hk (by decide)), k6.fr w F hr (ne_kd k6.2.1 hk (by decide)), k7.fr w F (ne_kd k7.1 hk (by decide)), k8.fr w F (ne_kd k8.1 hk (by decide)), k9.rt w F hr (ne_kd k9.1 hk (by decide)), k10.fr w F hr (fun z => by omega), k11.fr w F rt (by omega) (by omega), k12⟩
/-- the scratch changes -/
theorem Kr.scr (q : Kr g h p G fv lr B V ts D ac cm ot ct rs d0 R cO) (w : Wf g h) (F : Fr g g' (p 7) h h') {d1 : AnD} (s : An g' h' (p 7) 100 (p 8) (p 9) d1) : Kr g' h' p G fv lr B V ts D ac cm ot ct rs d1 R cO := by
  obtain ⟨k1, k2, k3, k4, k5, k6, k7, k8, k9, k10, k11, k12⟩ := q
  have hk := k9.1
  have hr := k9.2.1
  have rt : Rt g h (p 7) (p 7) := ⟨hr, by omega, by omega, fun z => rfl⟩
  exact ⟨k1.fr w F hr (ne_kd k1.1 hk (by decide)), k2.fr w F hr (by omega) (ne_kd k2.2.1.1 hk (by decide)), k3.fr w F hr (ne_kd k3.2.1 hk (by decide)), k4.fr w F hr (ne_kd k4.2.1 hk (by decide)), k5.fr w F hr (ne_kd k5.2.1 hk (by decide)), k6.fr w F hr (ne_kd k6.2.1 hk (by decide)), k7.fr w F (ne_kd k7.1 hk (by decide)), k8.fr w F (ne_kd k8.1 hk (by decide)), s, k10.fr w F hr (fun z => rfl), k11.fr w F rt (by omega) (by omega), k12⟩
/-- new things alone -/
theorem Kr.new (q : Kr g h p G fv lr B V ts D ac cm ot ct rs d0 R cO) (w : Wf g h) {r : Nat} (hn : h.nx ≤ r) (F : Fr g g' r h h') : Kr g' h' p G fv lr B V ts D ac cm ot ct rs d0 R cO := by
  obtain ⟨k1, k2, k3, k4, k5, k6, k7, k8, k9, k10, k11, k12⟩ := q
  have rt : Rt g h (p 7) r := rt_new w hn
  have hr := rt.1
  have hk := w.1 r hn
  exact ⟨k1.fr w F hr (ne_kd k1.1 hk (by decide)), k2.fr w F hr (by omega) (ne_kd k2.2.1.1 hk (by decide)), k3.fr w F hr (ne_kd k3.2.1 hk (by decide)), k4.fr w F hr (ne_kd k4.2.1 hk (by decide)), k5.fr w F hr (ne_kd k5.2.1 hk (by decide)), k6.fr w F hr (ne_kd k6.2.1 hk (by decide)), k7.fr w F (ne_kd k7.1 hk (by decide)), k8.fr w F (ne_kd k8.1 hk (by decide)), k9.rt w F hr (ne_kd k9.1 hk (by decide)), k10.fr w F hr (fun z => by omega), k11.fr w F rt (by omega) (by omega), k12⟩
/-- a list changes: all but the lists -/
theorem Kr.lst (q : Kr g h p G fv lr B V ts D ac cm ot ct rs d0 R cO) (w : Wf g h) {l : Nat} (hr : g l = l) (hk : h.kd l = 2) (F : Fr g g' l h h') : KX g' h' p G fv lr ∧ KS g' h' p B V ∧ (p 2 ≠ l → KL g' h' (p 2) ts) ∧ (p 3 ≠ l → KL g' h' (p 3) (ac.map (adr ts))) ∧ (p 4 ≠ l → KL g' h' (p 4) (cm.map (adr ts))) ∧ (p 10 ≠ l → KO g' h' (p 10) (ot.map (adr ts)) cO) ∧ KA g' h' (p 5) 6 ct ∧ KA g' h' (p 6) 4 rs ∧ An g' h' (p 7) 100 (p 8) (p 9) d0 ∧ KR g' h' (p 7) lr R ∧ KT g' h' p ts D ∧ KN p ts D := by
  obtain ⟨k1, k2, k3, k4, k5, k6, k7, k8, k9, k10, k11, k12⟩ := q
  have rt : Rt g h (p 7) l := ⟨hr, by omega, by omega, fun z => by omega⟩
  exact ⟨k1.fr w F hr (ne_kd k1.1 hk (by decide)), k2.fr w F hr (by omega) (ne_kd k2.2.1.1 hk (by decide)), k3.fr w F hr, k4.fr w F hr, k5.fr w F hr, k6.fr w F hr, k7.fr w F (ne_kd k7.1 hk (by decide)), k8.fr w F (ne_kd k8.1 hk (by decide)), k9.rt w F hr (ne_kd k9.1 hk (by decide)), k10.fr w F hr (fun z => by omega), k11.fr w F rt (by omega) (by omega), k12⟩
theorem Kr.oth (q : Kr g h p G fv lr B V ts D ac cm ot ct rs d0 R cO) (w : Wf g h) (F : Fr g g' (p 10) h h') {ot' : List Nat} (s : Al g' h' (p 10) (ot'.map (adr ts))) : Kr g' h' p G fv lr B V ts D ac cm ot' ct rs d0 R (cap h' (p 10)) := by
  obtain ⟨k1, k2, k3, k4, k5, -, k7, k8, k9, k10, k11, k12⟩ := q.lst w q.2.2.2.2.2.1.1.1 q.2.2.2.2.2.1.2.1 F
  exact ⟨k1, k2, k3 k12.2.2.2.1, k4 k12.2.2.2.2.2.1, k5 k12.2.2.2.2.2.2.1, ⟨⟨(F.gg w q.2.2.2.2.2.1.2.1 (by decide)).trans q.2.2.2.2.2.1.1.1, rfl⟩, s⟩, k7, k8, k9, k10, k11, k12⟩
theorem Kr.act (q : Kr g h p G fv lr B V ts D ac cm ot ct rs d0 R cO) (w : Wf g h) (F : Fr g g' (p 3) h h') {ac' : List Nat} (s : Al g' h' (p 3) (ac'.map (adr ts))) : Kr g' h' p G fv lr B V ts D ac' cm ot ct rs d0 R cO := by
  obtain ⟨k1, k2, k3, -, k5, k6, k7, k8, k9, k10, k11, k12⟩ := q.lst w q.2.2.2.1.1 q.2.2.2.1.2.1 F
  exact ⟨k1, k2, k3 k12.2.1, ⟨(F.gg w q.2.2.2.1.2.1 (by decide)).trans q.2.2.2.1.1, s⟩, k5 (Ne.symm k12.2.2.2.2.1), k6 (Ne.symm k12.2.2.2.2.2.1), k7, k8, k9, k10, k11, k12⟩
theorem Kr.com (q : Kr g h p G fv lr B V ts D ac cm ot ct rs d0 R cO) (w : Wf g h) (F : Fr g g' (p 4) h h') {cm' : List Nat} (s : Al g' h' (p 4) (cm'.map (adr ts))) : Kr g' h' p G fv lr B V ts D ac cm' ot ct rs d0 R cO := by
  obtain ⟨k1, k2, k3, k4, -, k6, k7, k8, k9, k10, k11, k12⟩ := q.lst w q.2.2.2.2.1.1 q.2.2.2.2.1.2.1 F
  exact ⟨k1, k2, k3 k12.2.2.1, k4 k12.2.2.2.2.1, ⟨(F.gg w q.2.2.2.2.1.2.1 (by decide)).trans q.2.2.2.2.1.1, s⟩, k6 (Ne.symm k12.2.2.2.2.2.2.1), k7, k8, k9, k10, k11, k12⟩
/-- an element of inState, or of reason, written -/
theorem Kr.ins (q : Kr g h p G fv lr B V ts D ac cm ot ct rs d0 R cO) (w : Wf g h) (i : Nat) (v : Int32) : Kr g (h.sai (p 5) i v) p G fv lr B V ts D ac cm ot (va_up ct i v) rs d0 R cO := by
  have F := Fr.sai w (Un.rf g (p 5)) i v
  obtain ⟨k1, k2, k3, k4, k5, k6, k7, k8, k9, k10, k11, k12⟩ := q
  have hr := k7.2.1
  have hk := k7.1
  have rt : Rt g h (p 7) (p 5) := ⟨hr, by omega, by omega, fun z => by omega⟩
  refine ⟨k1.fr w F hr (ne_kd k1.1 hk (by decide)), k2.fr w F hr (by omega) (ne_kd k2.2.1.1 hk (by decide)), k3.fr w F hr (ne_kd k3.2.1 hk (by decide)), k4.fr w F hr (ne_kd k4.2.1 hk (by decide)), k5.fr w F hr (ne_kd k5.2.1 hk (by decide)), k6.fr w F hr (ne_kd k6.2.1 hk (by decide)), ⟨k7.1, k7.2.1, k7.2.2.1, fun j => ?_⟩, k8.fr w F (Ne.symm k12.2.2.2.2.2.2.2.1), k9.rt w F hr (ne_kd k9.1 hk (by decide)), k10.fr w F hr (fun z => by omega), k11.fr w F rt (by omega) (by omega), k12⟩
  rw [pj_sai_ai, if_pos rfl]
  by_cases z : j = i
  · rw [if_pos z, z, va_up_self]
  · rw [if_neg z, va_up_ne _ _ z]; exact k7.2.2.2 j
theorem Kr.rsn (q : Kr g h p G fv lr B V ts D ac cm ot ct rs d0 R cO) (w : Wf g h) (i : Nat) (v : Int32) : Kr g (h.sai (p 6) i v) p G fv lr B V ts D ac cm ot ct (va_up rs i v) d0 R cO := by
  have F := Fr.sai w (Un.rf g (p 6)) i v
  obtain ⟨k1, k2, k3, k4, k5, k6, k7, k8, k9, k10, k11, k12⟩ := q
  have hr := k8.2.1
  have hk := k8.1
  have rt : Rt g h (p 7) (p 6) := ⟨hr, by omega, by omega, fun z => by omega⟩
  refine ⟨k1.fr w F hr (ne_kd k1.1 hk (by decide)), k2.fr w F hr (by omega) (ne_kd k2.2.1.1 hk (by decide)), k3.fr w F hr (ne_kd k3.2.1 hk (by decide)), k4.fr w F hr (ne_kd k4.2.1 hk (by decide)), k5.fr w F hr (ne_kd k5.2.1 hk (by decide)), k6.fr w F hr (ne_kd k6.2.1 hk (by decide)), k7.fr w F k12.2.2.2.2.2.2.2.1, ⟨k8.1, k8.2.1, k8.2.2.1, fun j => ?_⟩, k9.rt w F hr (ne_kd k9.1 hk (by decide)), k10.fr w F hr (fun z => by omega), k11.fr w F rt (by omega) (by omega), k12⟩
  rw [pj_sai_ai, if_pos rfl]
  by_cases z : j = i
  · rw [if_pos z, z, va_up_self]
  · rw [if_neg z, va_up_ne _ _ z]; exact k8.2.2.2 j
/-- the object's own fields change -/
theorem Kr.own (q : Kr g h p G fv lr B V ts D ac cm ot ct rs d0 R cO) (w : Wf g h) (F : Fr g g' (p 11) h h') {G' : Nat → Int32} {fv' : Int64} {lr' : Option Nat} {R' : List (Int32 × Int64)} (s : KX g' h' p G' fv' lr') (r : KR g' h' (p 7) lr' R') : Kr g' h' p G' fv' lr' B V ts D ac cm ot ct rs d0 R' cO := by
  obtain ⟨k1, k2, k3, k4, k5, k6, k7, k8, k9, k10, k11, k12⟩ := q
  have hr := k1.2.1
  have hk := k1.1
  have rt : Rt g h (p 7) (p 11) := ⟨hr, by omega, by omega, fun z => by omega⟩
  exact ⟨s, k2.fr w F hr (by omega) (ne_kd k2.2.1.1 hk (by decide)), k3.fr w F hr (ne_kd k3.2.1 hk (by decide)), k4.fr w F hr (ne_kd k4.2.1 hk (by decide)), k5.fr w F hr (ne_kd k5.2.1 hk (by decide)), k6.fr w F hr (ne_kd k6.2.1 hk (by decide)), k7.fr w F (ne_kd k7.1 hk (by decide)), k8.fr w F (ne_kd k8.1 hk (by decide)), k9.rt w F hr (ne_kd k9.1 hk (by decide)), r, k11.fr w F rt (by omega) (by omega), k12⟩
theorem Kr.sfi (q : Kr g h p G fv lr B V ts D ac cm ot ct rs d0 R cO) (w : Wf g h) (f : Nat) (v : Int32) : Kr g (h.sfi f (p 11) v) p (va_up G f v) fv lr B V ts D ac cm ot ct rs d0 R cO := by
  have F := Fr.sfi w (Un.rf g (p 11)) f v
  have k1 := q.1
  have k10 := q.2.2.2.2.2.2.2.2.2.1
  refine q.own w F ⟨k1.1, k1.2.1, fun f' => ?_, k1.2.2.2⟩ (k10.fr w F k1.2.1 (fun z => by have := k1.1; omega))
  by_cases z : f' = f
  · rw [z, fi_same, va_up_self]
  · rw [fi_oth z, va_up_ne _ _ z]; exact k1.2.2.1 f'
end KU
