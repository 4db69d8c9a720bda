/-! astray: rings, on both sides -/
/-- paths of one step or more -/
def Tc (M : Nat → Nat → Prop) (a b : Nat) : Prop := ∀ Q : Nat → Nat → Prop, (∀ a b, M a b → Q a b) → (∀ a b c, Q a b → Q b c → Q a c) → Q a b
theorem Tc.one {M : Nat → Nat → Prop} {a b : Nat} (m : M a b) : Tc M a b := fun _ h _ => h _ _ m
theorem Tc.tr {M : Nat → Nat → Prop} {a b c : Nat} (x : Tc M a b) (y : Tc M b c) : Tc M a c := fun Q h t => t _ _ _ (x Q h t) (y Q h t)
theorem pth_tc {M : Nat → Nat → Prop} : ∀ (k a b : Nat), Pth M k a b → Tc M a b := by
  intro k
  induction k with
  | zero => intro a b m; exact Tc.one m
  | succ k ih =>
    intro a b m
    rcases m with m | ⟨m1, m2⟩
    · exact ih a b m
    · exact (ih _ _ m2).tr (ih _ _ m1)
theorem pth_0 {M : Nat → Nat → Prop} {a b : Nat} (m : M a b) : ∀ k, Pth M k a b := by
  intro k
  induction k with
  | zero => exact m
  | succ k ih => exact Or.inl ih
theorem pth_tr {M : Nat → Nat → Prop} : ∀ (k a b c : Nat), b < k → Pth M k a b → Pth M k b c → Pth M k a c := by
  intro k
  induction k with
  | zero => intro a b c hb; omega
  | succ k ih =>
    intro a b c hb x y
    by_cases e : b = k
    · rw [e] at x y
      have x' : Pth M k a k := by
        rcases x with x | x
        · exact x
        · exact x.2
      have y' : Pth M k k c := by
        rcases y with y | y
        · exact y
        · exact y.1
      exact Or.inr ⟨y', x'⟩
    · have hb : b < k := by omega
      rcases x with x | ⟨x1, x2⟩ <;> rcases y with y | ⟨y1, y2⟩
      · exact Or.inl (ih a b c hb x y)
      · exact Or.inr ⟨y1, ih a b k hb x y2⟩
      · exact Or.inr ⟨ih k b c hb x1 y, x2⟩
      · exact Or.inr ⟨y1, x2⟩
theorem tc_pth {M : Nat → Nat → Prop} {n : Nat} (dom : ∀ a b, M a b → a < n ∧ b < n) {a b : Nat} (t : Tc M a b) : Pth M n a b ∧ a < n ∧ b < n := by
  refine t (fun a b => Pth M n a b ∧ a < n ∧ b < n) (fun a b m => ⟨pth_0 m n, dom a b m⟩) (fun a b c x y => ⟨pth_tr n a b c x.2.2 x.1 y.1, x.2.1, y.2.2⟩)
theorem cnt_lt {P Q : Nat → Prop} : ∀ (n : Nat), (∀ u, u < n → P u → Q u) → (∃ u, u < n ∧ Q u ∧ ¬ P u) → cntQ P n < cntQ Q n := by
  have le : ∀ (n : Nat), (∀ u, u < n → P u → Q u) → cntQ P n ≤ cntQ Q n := by
    intro n
    induction n with
    | zero => intro _; exact Nat.le_refl _
    | succ n ih =>
      intro e
      have cp : cntQ P (n + 1) = cntQ P n + @ite Nat (P n) (Classical.propDecidable _) 1 0 := rfl
      have cq : cntQ Q (n + 1) = cntQ Q n + @ite Nat (Q n) (Classical.propDecidable _) 1 0 := rfl
      have := ih (fun u hu => e u (by omega))
      by_cases z : P n
      · rw [if_pos z] at cp; rw [if_pos (e n (by omega) z)] at cq; omega
      · rw [if_neg z] at cp; omega
  intro n
  induction n with
  | zero => rintro _ ⟨u, hu, _⟩; omega
  | succ n ih =>
    rintro e ⟨u, hu, u1, u2⟩
    have cp : cntQ P (n + 1) = cntQ P n + @ite Nat (P n) (Classical.propDecidable _) 1 0 := rfl
    have cq : cntQ Q (n + 1) = cntQ Q n + @ite Nat (Q n) (Classical.propDecidable _) 1 0 := rfl
    by_cases z : u = n
    · rw [z] at u1 u2
      rw [if_neg u2] at cp
      rw [if_pos u1] at cq
      have := le n (fun u hu => e u (by omega))
      omega
    · have := ih (fun u hu => e u (by omega)) ⟨u, by omega, u1, u2⟩
      by_cases y : P n
      · rw [if_pos y] at cp; rw [if_pos (e n (by omega) y)] at cq; omega
      · rw [if_neg y] at cp; omega
/-- where each has one ahead of it, there is a ring -/
theorem ring_of {M : Nat → Nat → Prop} {n : Nat} (dom : ∀ a b, M a b → a < n ∧ b < n) {U : Nat → Prop} (ne : ∃ x, U x ∧ x < n) (up : ∀ x, U x → x < n → ∃ a, M a x ∧ U a) : ∃ x, x < n ∧ Tc M x x := by
  apply Classical.byContradiction
  intro no
  have nor : ∀ x, ¬ Tc M x x := fun x t => no ⟨x, (tc_pth dom t).2.1, t⟩
  have key : ∀ m x, U x → x < n → cntQ (fun y => Tc M y x) n = m → False := by
    intro m
    induction m using Nat.strongRecOn with
    | ind m ih =>
      intro x ux xn e
      obtain ⟨a, a1, a2⟩ := up x ux xn
      have an := (dom a x a1).1
      have lt := cnt_lt (P := fun y => Tc M y a) (Q := fun y => Tc M y x) n (fun u _ t => t.tr (Tc.one a1)) ⟨a, an, Tc.one a1, nor a⟩
      exact ih _ (by omega) a a2 an rfl
  obtain ⟨x, x1, x2⟩ := ne
  exact key _ x x1 x2 rfl
/-- in an order there is none -/
theorem lin_acyc {M : Nat → Nat → Prop} {n : Nat} {ord : List Nat} (dom : ∀ a b, M a b → a < n ∧ b < n) (ls : LinS M n ord) (all : ∀ x, x < n → x ∈ ord) {x : Nat} (t : Tc M x x) : False := by
  have nodup : ∀ (i j x : Nat), i < j → ord[i]? = some x → ord[j]? = some x → False := by
    intro i j x ij hi hj
    refine (ls j x hj).2.1.1 (List.mem_of_getElem? (i := i) ?_)
    rw [List.getElem?_take, if_pos ij]
    exact hi
  have step : Tc M x x → ∃ i j : Nat, i < j ∧ ord[i]? = some x ∧ ord[j]? = some x := by
    intro t
    refine t (fun a b => ∃ i j : Nat, i < j ∧ ord[i]? = some a ∧ ord[j]? = some b) (fun a b m => ?_) (fun a b c x y => ?_)
    · obtain ⟨j, hj⟩ := List.getElem?_of_mem (all b (dom a b m).2)
      have ma := (ls j b hj).2.1.2 a m
      obtain ⟨i, hi⟩ := List.getElem?_of_mem ma
      have il := get_lt hi
      rw [List.length_take] at il
      rw [List.getElem?_take, if_pos (by omega)] at hi
      exact ⟨i, j, by omega, hi, hj⟩
    · obtain ⟨i, j, x1, x2, x3⟩ := x
      obtain ⟨i', j', y1, y2, y3⟩ := y
      have : j = i' := by
        rcases Nat.lt_trichotomy j i' with z | z | z
        · exact (nodup j i' b z x3 y2).elim
        · exact z
        · exact (nodup i' j b z y2 x3).elim
      exact ⟨i, j', by omega, x2, y3⟩
  obtain ⟨i, j, ij, hi, hj⟩ := step t
  exact nodup i j x ij hi hj
theorem lin_nd {M : Nat → Nat → Prop} {n : Nat} {ord : List Nat} (ls : LinS M n ord) : ord.Nodup := by
  rw [List.nodup_iff_pairwise_ne, List.pairwise_iff_getElem]
  intro i j hi hj ij e
  refine (ls j _ (List.getElem?_eq_getElem hj)).2.1.1 (List.mem_of_getElem? (i := i) ?_)
  rw [List.getElem?_take, if_pos ij, List.getElem?_eq_getElem hi, e]
/-- a list of n different ones below n holds them all -/
theorem nd_all : ∀ (n : Nat) (xs : List Nat), xs.Nodup → (∀ x ∈ xs, x < n) → xs.length = n → ∀ x, x < n → x ∈ xs := by
  intro n xs nd hx hl x xn
  apply Classical.byContradiction
  intro no
  have c1 := cnt_list (P := fun i => i ∈ xs) n xs nd (fun i => ⟨fun z => ⟨hx i z, z⟩, fun z => z.2⟩)
  have lt := cnt_lt (P := fun i => i ∈ xs) (Q := fun _ => True) n (fun _ _ _ => trivial) ⟨x, xn, trivial, no⟩
  have := cntQ_le (fun _ => True) n
  omega
section RNG
variable {h : Hp} {M b c w l v k r clk : Nat} {G : Nat → Int32} {fv : Int64} {B : Shf} {V : List Kv} {ts : List Nat} {D : Nat → TD} {ac cm : List Nat} {ct rs : Nat → Int32} {R : List (Int32 × Int64)}
theorem ahd_dom (q : Cpl h M b c w l v k r clk G fv V ts D ac cm ct rs R) (pu : Pu B V ts D) : ∀ x y, Ahd B D cm x y → x < cm.length ∧ y < cm.length := by
  intro x y a
  obtain ⟨j, j', h1, h2, _⟩ := (ed_eq q pu x y).mp a
  exact ⟨get_lt h1, get_lt h2⟩
theorem ed_lt (q : Cpl h M b c w l v k r clk G fv V ts D ac cm ct rs R) : ∀ x y, eD h M l v v x y → x < b + 1 ∧ y < b + 1 := by
  intro x y e
  obtain ⟨a, a', j, j', e1, e2, e3, e4⟩ := ed_dom q e
  have q7 := q.2.2.2.2.2.2.1
  have := (q7.2.1 a j e3).1
  have := (q7.2.1 a' j' e4).1
  omega
theorem tc_eq (q : Cpl h M b c w l v k r clk G fv V ts D ac cm ct rs R) (pu : Pu B V ts D) {x j : Nat} (hx : cm[x]? = some j) : Tc (Ahd B D cm) x x ↔ Tc (eD h M l v v) (j + 1) (j + 1) := by
  have inj : ∀ {a a' j : Nat}, cm[a]? = some j → cm[a']? = some j → a = a' := by
    intro a a' j h1 h2
    exact (List.getElem?_inj (get_lt h1) (cm_nd q)).mp (h1.trans h2.symm)
  constructor
  · intro t
    obtain ⟨j1, j2, h1, h2, h3⟩ := t (fun a b => ∃ j j', cm[a]? = some j ∧ cm[b]? = some j' ∧ Tc (eD h M l v v) (j + 1) (j' + 1)) (fun a b m => by
      obtain ⟨j, j', h1, h2, h3⟩ := (ed_eq q pu a b).mp m
      exact ⟨j, j', h1, h2, Tc.one h3⟩) (fun a b c x y => by
      obtain ⟨j, j', h1, h2, h3⟩ := x
      obtain ⟨i, i', g1, g2, g3⟩ := y
      rw [h2] at g1
      rw [← Option.some.inj g1] at g3
      exact ⟨j, i', h1, g2, h3.tr g3⟩)
    rw [hx] at h1 h2
    rw [← Option.some.inj h1, ← Option.some.inj h2] at h3
    exact h3
  · intro t
    obtain ⟨a, a', h1, h2, h3⟩ := t (fun s t => ∃ a a', (∃ j, s = j + 1 ∧ cm[a]? = some j) ∧ (∃ j, t = j + 1 ∧ cm[a']? = some j) ∧ Tc (Ahd B D cm) a a') (fun s t m => by
      obtain ⟨a, a', j, j', e1, e2, e3, e4⟩ := ed_dom q m
      refine ⟨a, a', ⟨j, e1, e3⟩, ⟨j', e2, e4⟩, Tc.one ((ed_eq q pu a a').mpr ⟨j, j', e3, e4, ?_⟩)⟩
      rw [← e1, ← e2]; exact m) (fun s t u x y => by
      obtain ⟨a, a', h1, ⟨j, h2, h3⟩, h4⟩ := x
      obtain ⟨i, i', ⟨j', g1, g2⟩, g3, g4⟩ := y
      have ej : j = j' := by omega
      rw [← ej] at g2
      rw [← inj h3 g2] at g4
      exact ⟨a, i', h1, g3, h4.tr g4⟩)
    obtain ⟨j1, e1, h1⟩ := h1
    obtain ⟨j2, e2, h2⟩ := h2
    have f1 : x = a := inj hx (by rw [show j = j1 by omega]; exact h1)
    have f2 : x = a' := inj hx (by rw [show j = j2 by omega]; exact h2)
    rw [← f1, ← f2] at h3
    exact h3
theorem ring_cnt (q : Cpl h M b c w l v k r clk G fv V ts D ac cm ct rs R) (pu : Pu B V ts D) : cnt (fun x => Pth (Ahd B D cm) cm.length x x) cm.length = cntQ (fun x => 1 ≤ x ∧ Pth (eD h M l v v) (b + 1) x x) (b + 1) := by
  have q7 := q.2.2.2.2.2.2.1
  have p1 : ∀ x, Pth (Ahd B D cm) cm.length x x ↔ Tc (Ahd B D cm) x x := fun x => ⟨pth_tc _ x x, fun t => (tc_pth (ahd_dom q pu) t).1⟩
  have p2 : ∀ x, Pth (eD h M l v v) (b + 1) x x ↔ Tc (eD h M l v v) x x := fun x => ⟨pth_tc _ x x, fun t => (tc_pth (ed_lt q) t).1⟩
  unfold cnt
  haveI dc : ∀ x, Decidable (Pth (Ahd B D cm) cm.length x x) := fun x => Classical.propDecidable _
  rw [cntQ_shift (fun z => absurd z.1 (by decide)), List.countP_eq_length_filter]
  obtain ⟨xs, exs⟩ : ∃ xs, xs = (List.range cm.length).filter (fun k => @decide (Pth (Ahd B D cm) cm.length k k) (Classical.propDecidable _)) := ⟨_, rfl⟩
  rw [← exs]
  have mem : ∀ x, x ∈ xs ↔ x < cm.length ∧ Pth (Ahd B D cm) cm.length x x := by
    intro x
    rw [exs, List.mem_filter, List.mem_range]
    exact and_congr Iff.rfl (@decide_eq_true_iff _ (Classical.propDecidable _))
  have nd : xs.Nodup := by rw [exs]; exact List.nodup_range.sublist List.filter_sublist
  have gx : ∀ x ∈ xs, cm[x]? = some (cm.getD x 0) := by
    intro x hx
    have := ((mem x).mp hx).1
    rw [List.getD_eq_getElem?_getD, List.getElem?_eq_getElem this]
    rfl
  rw [← List.length_map (as := xs) (fun x => cm.getD x 0)]
  refine cnt_list b _ ?_ (fun i => ?_)
  · rw [List.nodup_iff_pairwise_ne, List.pairwise_map]
    rw [List.nodup_iff_pairwise_ne] at nd
    refine List.Pairwise.imp_of_mem (fun {a a'} ha ha' ne e => ne ?_) nd
    exact (List.getElem?_inj ((mem a).mp ha).1 (cm_nd q)).mp (by rw [gx a ha, gx a' ha', e])
  · rw [List.mem_map]
    constructor
    · rintro ⟨x, x1, x2⟩
      have g := gx x x1
      rw [x2] at g
      refine ⟨(q7.2.1 x i g).1, by omega, ?_⟩
      rw [p2, ← tc_eq q pu g, ← p1]
      exact ((mem x).mp x1).2
    · rintro ⟨ib, _, t⟩
      rw [p2] at t
      have dm : ∀ s u, Tc (eD h M l v v) s u → ∃ a j : Nat, s = j + 1 ∧ cm[a]? = some j := by
        intro s u t
        refine t (fun s _ => ∃ a j : Nat, s = j + 1 ∧ cm[a]? = some j) (fun s u m => ?_) (fun _ _ _ x _ => x)
        obtain ⟨a, _, j, _, e1, _, e3, _⟩ := ed_dom q m
        exact ⟨a, j, e1, e3⟩
      obtain ⟨a, j, e1, e2⟩ := dm _ _ t
      have ej : i = j := by omega
      rw [← ej] at e2
      have ma : a ∈ xs := (mem a).mpr ⟨get_lt e2, (p1 a).mpr ((tc_eq q pu e2).mpr t)⟩
      refine ⟨a, ma, ?_⟩
      have := gx a ma
      rw [e2] at this
      exact (Option.some.inj this).symm
end RNG
