/-! overwriters, and who MAY NOT PRECEDE whom -/
theorem takeW_mem (st : Int32) : ∀ (L : List Ent), L.Pairwise (fun x y => y.1 ≤ x.1) → ∀ e, e ∈ takeW st L ↔ e ∈ L ∧ st < e.1 := by
  intro L
  induction L with
  | nil => intro _ e; exact ⟨fun z => (by cases z), fun z => z.1⟩
  | cons x L ih =>
    intro pw e
    obtain ⟨p1, p2⟩ := List.pairwise_cons.mp pw
    rw [takeW_c]
    by_cases z : st < x.1
    · rw [if_pos z, List.mem_cons, List.mem_cons, ih p2 e]
      constructor
      · rintro (y | y)
        · rw [y]; exact ⟨Or.inl rfl, z⟩
        · exact ⟨Or.inr y.1, y.2⟩
      · rintro ⟨y | y, y2⟩
        · exact Or.inl y
        · exact Or.inr ⟨y, y2⟩
    · rw [if_neg z]
      refine ⟨fun y => (by cases y), fun y => ?_⟩
      rcases List.mem_cons.mp y.1 with u | u
      · rw [u] at y; exact absurd y.2 z
      · have a1 := p1 e u
        have a2 := y.2
        rw [Int32.le_iff_toInt_le] at a1
        rw [Int32.lt_iff_toInt_lt] at a2 z
        omega
theorem ovs_mem {B : Shf} {V : List Kv} (hs : Srt B) (bk : BkL B V) (as : Asc V) {lo hi st : Int32} {k : Nat} (ix : IsIx B lo.toInt k) (e : Ent) : e ∈ ovs B st hi k ↔ ∃ key, (key, e) ∈ V ∧ lo.toInt ≤ key.toInt ∧ key.toInt ≤ hi.toInt ∧ st < e.1 := by
  have e0 : ovs B st hi k = (inR B hi k).flatMap (fun y => takeW st y.2) := rfl
  rw [e0, List.mem_flatMap]
  constructor
  · rintro ⟨y, y1, y2⟩
    obtain ⟨z1, z2, z3⟩ := (inR_mem hs ix y).mp y1
    have lk : look B y.1 = y.2 := look_mem hs (by rw [Prod.eta]; exact z1)
    rw [bk] at lk
    rw [← lk, takeW_mem st _ (chn_asc as y.1)] at y2
    exact ⟨y.1, chn_mem.mp y2.1, z2, z3, y2.2⟩
  · rintro ⟨key, k1, k2, k3, k4⟩
    have ce : e ∈ chn V key := chn_mem.mpr k1
    have ne : look B key ≠ [] := by
      rw [bk]
      intro z
      rw [z] at ce; cases ce
    obtain ⟨i, hi'⟩ := look_some hs ne
    refine ⟨(key, look B key), (inR_mem hs ix _).mpr ⟨List.mem_of_getElem? hi', k2, k3⟩, ?_⟩
    show e ∈ takeW st (look B key)
    rw [bk, takeW_mem st _ (chn_asc as key)]
    exact ⟨ce, k4⟩
section OVR
variable {h h1 h2 h' : Hp} {M b c w l v k r clk : Nat} {G G' : Nat → Int32} {fv : Int64} {V : List Kv} {ts : List Nat} {D D' : Nat → TD} {ac cm : List Nat} {ct rs : Nat → Int32} {R : List (Int32 × Int64)}
/-- the place of a moment among those committed -/
theorem ixm_eq (q7 : Lsq h M b ac cm) (hc : cm.length ≤ 512) {u : Nat} (u1 : 1 ≤ u) (u2 : u ≤ b) (cu : h.bi (M + 1) u = 2) {e : Ent} (ee : e.1 = h.bi (M + 4) u) : ixm cm e + 1 = u ∧ ∃ m, e.1 = nI (m + 1) ∧ cm[m]? = some (u - 1) := by
  obtain ⟨u', rfl⟩ : ∃ u', u = u' + 1 := ⟨u - 1, by omega⟩
  obtain ⟨m, hm⟩ := q7.2.2 u' (by omega) cu
  obtain ⟨_, _, m3⟩ := q7.2.1 m u' hm
  have ml : m < cm.length := by
    rcases Nat.lt_or_ge m cm.length with z | z
    · exact z
    · rw [List.getElem?_eq_none z] at hm; cases hm
  refine ⟨?_, m, ee.trans m3, hm⟩
  unfold ixm
  rw [ee, m3, nI_toInt (by omega)]
  show (cm[(↑(m + 1) : Int).toNat - 1]?).getD 0 + 1 = _
  rw [Int.toNat_natCast, Nat.add_sub_cancel, hm]
  rfl
theorem vMo_u {i u : Nat} (hu : u ≤ 512) (e : h.bi (M + 20) i = nI u) : vMo h M i = h.bi (M + 4) u := by
  unfold vMo
  rw [e, ni_clp (by omega)]
theorem ot_mem {B : Shf} (hs : Srt B) (bk : BkL B V) (as : Asc V) (q7 : Lsq h M b ac cm) (q11 : Veq h M b w v V) (hb : b ≤ 512) (hc : cm.length ≤ 512) {lo hi : Int32} {kk t : Nat} (ix : IsIx B lo.toInt kk) (j : Nat) : j ∈ (ovs B (h.bi (M + 3) t) hi kk).map (ixm cm) ↔ ∃ i, i < v ∧ LkC h M t lo hi i ∧ j + 1 ≤ b ∧ h.bi (M + 20) i = nI (j + 1) := by
  rw [List.mem_map]
  constructor
  · rintro ⟨e, e1, e2⟩
    obtain ⟨key, k1, k2, k3, k4⟩ := (ovs_mem hs bk as ix e).mp e1
    obtain ⟨i, hi'⟩ := List.getElem?_of_mem k1
    obtain ⟨a1, a2, a3, a4, a5, ⟨u, u1, u2, u3, u4⟩, a7⟩ := q11.2.2 i _ hi'
    have a1 : key = h.bi (M + 19) i := a1
    have a2 : e.1 = vMo h M i := a2
    have il : i < V.length := by
      rcases Nat.lt_or_ge i V.length with z | z
      · exact z
      · rw [List.getElem?_eq_none z] at hi'; cases hi'
    have ee : e.1 = h.bi (M + 4) u := a2.trans (vMo_u (by omega) u3)
    have := (ixm_eq q7 hc u1 u2 u4 ee).1
    rw [e2] at this
    refine ⟨i, by rw [← q11.1]; exact il, ⟨?_, ?_, ?_⟩, by omega, by rw [this]; exact u3⟩
    · rw [← a1, Int32.lt_iff_toInt_lt]; omega
    · rw [← a1, Int32.lt_iff_toInt_lt]; omega
    · rw [← a2]; exact k4
  · rintro ⟨i, i1, ⟨i2, i3, i4⟩, i5, i6⟩
    obtain ⟨x, hx⟩ : ∃ x, V[i]? = some x := ⟨_, List.getElem?_eq_getElem (by rw [q11.1]; exact i1)⟩
    obtain ⟨a1, a2, a3, a4, a5, ⟨u, u1, u2, u3, u4⟩, a7⟩ := q11.2.2 i x hx
    have uj : u = j + 1 := (ni_inj (by omega) (by omega)).mp (u3.symm.trans i6)
    have ee : x.2.1 = h.bi (M + 4) u := a2.trans (vMo_u (by omega) u3)
    have := (ixm_eq q7 hc u1 u2 u4 ee).1
    refine ⟨x.2, (ovs_mem hs bk as ix x.2).mpr ⟨x.1, by rw [Prod.eta]; exact List.mem_of_getElem? hx, ?_, ?_, ?_⟩, by omega⟩
    · rw [a1]; rw [Int32.lt_iff_toInt_lt] at i2; omega
    · rw [a1]; rw [Int32.lt_iff_toInt_lt] at i3; omega
    · rw [a2]; exact i4
theorem max_ge (x : Int32) : x ≤ 2147483647 := by
  rw [Int32.le_iff_toInt_le]
  have := i32_rng x
  have e : (2147483647 : Int32).toInt = 2147483647 := rfl
  omega
theorem mayN_eq (q4 : Fld h M b D) (q5 : Rng h M b c) (q8 : Ouq h M b l v D) {i j : Nat} (hi : i < b) (hj : j < b) (ii : h.bi (M + 1) (i + 1) = 1 ∨ h.bi (M + 1) (i + 1) = 2) (jj : h.bi (M + 1) (j + 1) = 1 ∨ h.bi (M + 1) (j + 1) = 2) : mayN h M b l v (i + 1) (j + 1) ↔ mayNotF (D i).1 ((D j).1 1008) := by
  have o := q8 j hj jj
  obtain ⟨w1, w2, w3, w4, w5, w6, w7⟩ := q4 i hi
  have rwi : (D i).1 1005 = 0 ↔ h.bi (M + 2) (i + 1) = 0 := by
    rw [w3]
    by_cases z : h.bi (M + 2) (i + 1) = 0
    · rw [if_pos z]; exact ⟨fun _ => z, fun _ => rfl⟩
    · rw [if_neg z]
      refine ⟨fun y => ?_, fun y => absurd y z⟩
      rcases (q5.2 (i + 1) (by omega) (by omega)).2.1 with x | x | x <;> rw [x] at y <;> exact absurd y (by decide)
  have m1 : mayN h M b l v (i + 1) (j + 1) ↔ ((D j).1 1008 ≠ 0 ∧ (D j).1 1008 ≤ (if h.bi (M + 2) (i + 1) = 0 then endT h M (i + 1) else h.bi (M + 3) (i + 1))) := by
    constructor
    · rintro ⟨x, x1, x2, x3⟩
      rw [x1.uniq o] at x2 x3
      exact ⟨x2, x3⟩
    · rintro ⟨x2, x3⟩
      exact ⟨_, o, x2, x3⟩
  rw [m1]
  unfold mayNotF
  refine and_congr Iff.rfl ?_
  by_cases z : h.bi (M + 2) (i + 1) = 0
  · rw [if_pos z, if_pos (rwi.mpr z), w4, w5]
    unfold endT
    by_cases y : h.bi (M + 1) (i + 1) = 1
    · rw [if_pos y]
      exact ⟨fun _ => Or.inl y, fun _ => max_ge _⟩
    · rw [if_neg y]
      constructor
      · intro x
        refine Or.inr (fun u => ?_)
        rw [Int32.le_iff_toInt_le] at x
        rw [Int32.lt_iff_toInt_lt] at u
        omega
      · rintro (x | x)
        · exact absurd x y
        · rw [Int32.le_iff_toInt_le]
          rw [Int32.lt_iff_toInt_lt] at x
          omega
  · rw [if_neg z, if_neg (fun u => z (rwi.mp u)), w2, Int32.le_iff_toInt_le, Int32.lt_iff_toInt_lt]
    omega
/-- the transaction with a moment, as blame tells it -/
theorem nm_eq (q4 : Fld h M b D) (q5 : Rng h M b c) (q7 : Lsq h M b ac cm) (hc : cm.length ≤ 512) (hb : b ≤ 512) {o : Int32} {x : Nat} (o0 : o ≠ 0) (ho : 0 ≤ o.toInt) (a : atM h M b o x) : nmOf ts D cm o = nI x := by
  unfold nmOf
  have o1 : 1 ≤ o.toInt := by
    have : o.toInt ≠ 0 := fun z => o0 (Int32.toInt_inj.mp (z.trans i0.symm))
    omega
  rw [if_pos o1]
  rcases a with ⟨a1, a2⟩ | ⟨a1, a2, a3, a4⟩
  · cases z : cm[o.toInt.toNat - 1]? with
    | none => rw [a1]; rfl
    | some i =>
      obtain ⟨z1, z2, z3⟩ := q7.2.1 _ i z
      have il : o.toInt.toNat - 1 < cm.length := by
        rcases Nat.lt_or_ge (o.toInt.toNat - 1) cm.length with y | y
        · exact y
        · rw [List.getElem?_eq_none y] at z; cases z
      refine absurd ⟨z2, z3.trans ?_⟩ (a2 (i + 1) (by omega) (by omega))
      rw [show o.toInt.toNat - 1 + 1 = o.toInt.toNat by omega]
      exact (ni_of (by omega)).symm
  · obtain ⟨x', rfl⟩ : ∃ x', x = x' + 1 := ⟨x - 1, by omega⟩
    obtain ⟨m, hm⟩ := q7.2.2 x' (by omega) a3
    obtain ⟨_, _, m3⟩ := q7.2.1 m x' hm
    have ml : m < cm.length := by
      rcases Nat.lt_or_ge m cm.length with z | z
      · exact z
      · rw [List.getElem?_eq_none z] at hm; cases hm
    have : o.toInt.toNat - 1 = m := by
      rw [← a4, m3, nI_toInt (by omega)]
      omega
    rw [this, hm]
    exact (q4 x' (by omega)).1
end OVR
