/-! a commit on trial: readers and OUT -/
/-- the heap of a commit on trial -/
def CmH (h : Hp) (M c w v t y : Nat) (hc : Hp) : Prop := RfO [1, 4, 6, 19, 20, 21, 22, 35] [1328, 1353] M h hc ∧ (∀ u, hc.bi (M + 1) u = if u = t then 2 else h.bi (M + 1) u) ∧ (∀ u, hc.bi (M + 4) u = if u = t then nI (c + 1) else h.bi (M + 4) u) ∧ (∀ u, hc.bi (M + 6) u = if u = t then h.gi 1313 M else h.bi (M + 6) u) ∧ (∀ j, j < v → hc.bi (M + 19) j = h.bi (M + 19) j ∧ hc.bi (M + 20) j = h.bi (M + 20) j ∧ hc.bw (M + 21) j = h.bw (M + 21) j ∧ hc.bi (M + 22) j = h.bi (M + 22) j) ∧ v ≤ y ∧ hc.gi 1328 M = nI y ∧ (∀ j, v ≤ j → j < y → hc.bi (M + 20) j = nI t) ∧ ∀ key, (∃ j, v ≤ j ∧ j < y ∧ hc.bi (M + 19) j = key) ↔ owns h M w t key
section RDR
variable {h hc h1 h2 h' : Hp} {M b c w l v k r clk y : Nat} {G G' : Nat → Int32} {fv : Int64} {V : List Kv} {ts : List Nat} {D D' : Nat → TD} {ac cm : List Nat} {ct rs : Nat → Int32} {R : List (Int32 × Int64)}
theorem owns_con {A Gf : List Nat} (f : RfO A Gf M h h') (hA : ∀ x ∈ [11, 12, 15], x ∉ A) (t : Nat) (key : Int32) : owns h' M w t key ↔ owns h M w t key := by
  unfold owns
  rw [ownC.con f hA]
theorem cmH_of {t m : Nat} {s2 s3 : Hp} {n : Nat} {L : List Kv} {P : List Nat} {As : Shf} (hw : w ≤ 512) (ow : OwnR h M w t L P n) (hs : Srt As) (hn : ∀ y ∈ As, y.2 ≠ []) (bk : BkL As L) (gk : GkR (cmt1 h M c t) M w m s2) (vr : VerR s2 M w v t (s2.bi (M + 35)) m y s3) : CmH h M c w v t y s3 ∧ y = v + As.length ∧ ∀ (mo : Int32) (x : Nat) (z : Kv), (inst As mo (nI t))[x]? = some z → z.1 = s3.bi (M + 19) (v + x) ∧ z.2.1 = mo ∧ z.2.2.1 = nI t ∧ s3.bi (M + 20) (v + x) = nI t ∧ z.2.2.2.1 = s3.bi (M + 22) (v + x) ∧ z.2.2.2.2 = s3.bw (M + 21) (v + x) ∧ owns h M w t z.1 := by
  have f0 := cmt1.ro (h := h) (M := M) (c := c) (t := t)
  have ca := fun j => cmt1.a (h := h) (M := M) (c := c) (t := t) j
  generalize cmt1 h M c t = s1 at f0 ca gk
  have f1 := gk.1
  have f01 : RfO [1, 4, 6, 35] [1353] M h s2 := (f0.mono (by decide) (fun _ z => nomatch z)).tr (f1.mono (by decide) (fun _ z => z))
  have f2 := vr.1
  have ow2 : OwnR s2 M w t L P n := by
    have e := OwnR.mono (h := h) (h' := s2) (n' := n) ow (fun q _ => by rw [f01.bi (by decide)]) (f01.bi (by decide)) (f01.bi (by decide)) (f01.bw (by decide)) (f01.bi (by decide)) (fun j _ _ => by rw [f01.bi (by decide)]) (Nat.le_refl _)
    exact e
  have gs : GkS (s2.bi (M + 12)) w m (s2.bi (M + 35)) := by
    have := gk.2.2.2
    rw [f1.bi (by decide)]
    exact this
  have vn := fun mo => ver_new (mo := mo) hw ow2 hs hn bk gs vr
  have yl := (vn 0).1
  have oe := fun key => owns_con (w := w) f01 (by decide) t key
  have vn2 : ∀ (mo : Int32) (x : Nat) (z : Kv), (inst As mo (nI t))[x]? = some z → z.1 = s3.bi (M + 19) (v + x) ∧ z.2.1 = mo ∧ z.2.2.1 = nI t ∧ s3.bi (M + 20) (v + x) = nI t ∧ z.2.2.2.1 = s3.bi (M + 22) (v + x) ∧ z.2.2.2.2 = s3.bw (M + 21) (v + x) ∧ owns h M w t z.1 := by
    intro mo x z hz
    obtain ⟨a1, a2, a3, a4, a5, a6, a7⟩ := (vn mo).2 x z hz
    exact ⟨a1, a2, a3, a4, a5, a6, (oe _).mp a7⟩
  have il : (inst As 0 (nI t)).length = As.length := inst_len As 0 (nI t)
  have get : ∀ x, x < As.length → ∃ z, (inst As 0 (nI t))[x]? = some z := fun x hx => ⟨_, List.getElem?_eq_getElem (by rw [il]; exact hx)⟩
  refine ⟨⟨(f01.mono (by decide) (by decide)).tr (f2.mono (by decide) (by decide)), fun u => ?_, fun u => ?_, fun u => ?_, fun j hj => ?_, by omega, vr.2.1, fun j h1 h2 => ?_, fun key => ⟨?_, ?_⟩⟩, yl, vn2⟩
  · rw [f2.bi (by decide), f1.bi (by decide)]; exact (ca u).1
  · rw [f2.bi (by decide), f1.bi (by decide)]; exact (ca u).2.1
  · rw [f2.bi (by decide), f1.bi (by decide)]; exact (ca u).2.2
  · have := vr.2.2.2.1 j hj
    rw [this.1, this.2.1, this.2.2.1, this.2.2.2, f01.bi (show 19 ∉ _ by decide), f01.bi (show 20 ∉ _ by decide), f01.bw (show 21 ∉ _ by decide), f01.bi (show 22 ∉ _ by decide)]
    exact ⟨rfl, rfl, rfl, rfl⟩
  · obtain ⟨x, rfl⟩ : ∃ x, j = v + x := ⟨j - v, by omega⟩
    obtain ⟨z, hz⟩ := get x (by omega)
    exact (vn2 0 x z hz).2.2.2.1
  · rintro ⟨j, j1, j2, j3⟩
    obtain ⟨x, rfl⟩ : ∃ x, j = v + x := ⟨j - v, by omega⟩
    obtain ⟨z, hz⟩ := get x (by omega)
    obtain ⟨a1, _, _, _, _, _, a7⟩ := vn2 0 x z hz
    rw [← j3, ← a1]; exact a7
  · intro o
    have ne : look As key ≠ [] := by rw [bk]; exact (own_eq hw ow key).mp o
    obtain ⟨x, hx⟩ := look_some hs ne
    have xl : x < As.length := by
      rcases Nat.lt_or_ge x As.length with q | q
      · exact q
      · rw [List.getElem?_eq_none q] at hx; cases hx
    have hz : (inst As 0 (nI t))[x]? = some (instE 0 (nI t) (key, look As key)) := by
      unfold inst
      rw [List.getElem?_map, hx]; rfl
    have := (vn2 0 x _ hz).1
    exact ⟨v + x, by omega, by omega, this.symm⟩
/-- no version of one at work -/
theorem no_ver (q11 : Veq h M b w v V) (hb : b ≤ 512) {i j : Nat} (hi : i < b) (ai : h.bi (M + 1) (i + 1) = 1) (hj : j < v) : h.bi (M + 20) j ≠ nI (i + 1) := by
  intro e
  obtain ⟨x, hx⟩ : ∃ x, V[j]? = some x := ⟨_, List.getElem?_eq_getElem (by rw [q11.1]; exact hj)⟩
  obtain ⟨_, _, _, _, _, ⟨u, u1, u2, u3, u4⟩, _⟩ := q11.2.2 j x hx
  rw [(ni_inj (by omega) (by omega)).mp (u3.symm.trans e), ai] at u4
  exact absurd u4 (by decide)
theorem prec_cm (q : Cpl h M b c w l v k r clk G fv V ts D ac cm ct rs R) {i : Nat} (hi : i < b) (ai : h.bi (M + 1) (i + 1) = 1) (ch : CmH h M c w v (i + 1) y hc) {a : Nat} (ha : a < b) : prec hc M l y (a + 1) (i + 1) ↔ (a ≠ i ∧ (h.bi (M + 1) (a + 1) = 1 ∨ (h.bi (M + 1) (a + 1) = 2 ∧ h.bi (M + 3) (i + 1) < h.bi (M + 4) (a + 1))) ∧ h.bi (M + 7) (a + 1) ≠ 1 ∧ ∃ key, owns h M w (i + 1) key ∧ InS (tS (D a)) key) := by
  obtain ⟨q1, q2, q3, q4, q5, q6, q7, q8, q9, q10, q11, q12, q13, q14, q15, q16⟩ := q
  obtain ⟨f, c1, c4, c6, cv, vy, _, cn, ck⟩ := ch
  have hb := q1.2.2.2.2.2.2.2.1
  have hc512 := q1.2.2.2.2.2.2.2.2.1
  have st : ∀ u, u < b → ∃ s, h.bi (M + 3) (u + 1) = nI s ∧ s ≤ c := by
    intro u hu
    obtain ⟨_, _, _, _, s, s1, s2, _⟩ := q5.2 (u + 1) (by omega) (by omega)
    exact ⟨s, s1, s2⟩
  obtain ⟨sa, sa1, sa2⟩ := st a ha
  obtain ⟨si, si1, si2⟩ := st i hi
  have mx : (2147483647 : Int32) = nI 2147483647 := by decide
  unfold prec inT endT rdK
  rw [f.bi (show 3 ∉ _ by decide), f.bi (show 7 ∉ _ by decide), f.bi (show 16 ∉ _ by decide), f.bi (show 17 ∉ _ by decide), f.bi (show 18 ∉ _ by decide), c1, c1, c4, c4, if_pos rfl, if_pos rfl]
  by_cases e : a = i
  · exact ⟨fun z => absurd (by rw [e]) z.1, fun z => absurd e z.1⟩
  · have na : ¬ a + 1 = i + 1 := by omega
    rw [if_neg na, if_neg na]
    constructor
    · rintro ⟨_, _, z3, z4, z5, j, j1, j2, z6, x, x1, x2, x3, x4⟩
      have jv : v ≤ j := Nat.le_of_not_lt (fun z => no_ver q11 hb hi ai z (by rw [← (cv j z).2.1]; exact j2))
      refine ⟨e, ?_, z6, hc.bi (M + 19) j, (ck _).mp ⟨j, jv, j1, rfl⟩, (q10.1 a ha _).mpr ⟨x, x1, x2, x3, x4⟩⟩
      rcases z3 with z3 | z3
      · exact Or.inl z3
      · rw [if_neg (by rw [z3]; decide)] at z5
        exact Or.inr ⟨z3, z5⟩
    · rintro ⟨_, z2, z3, key, z4, z5⟩
      obtain ⟨j, j1, j2, j3⟩ := (ck key).mpr z4
      obtain ⟨x, x1, x2, x3, x4⟩ := (q10.1 a ha key).mp z5
      refine ⟨by omega, rfl, ?_, ?_, ?_, j, j2, cn j j1 j2, z3, x, x1, x2, by rw [j3]; exact x3, by rw [j3]; exact x4⟩
      · exact z2.imp id (fun u => u.1)
      · rw [sa1, ni_lt (by omega) (by omega)]; omega
      · rcases z2 with z2 | z2
        · rw [if_pos z2, si1, mx, ni_lt (by omega) (by omega)]; omega
        · rw [if_neg (by rw [z2.1]; decide)]; exact z2.2
theorem outC_cm (q : Cpl h M b c w l v k r clk G fv V ts D ac cm ct rs R) {i : Nat} (hi : i < b) (ai : h.bi (M + 1) (i + 1) = 1) (ch : CmH h M c w v (i + 1) y hc) {a : Nat} (ha : a < b) (aa : h.bi (M + 1) (a + 1) = 1 ∨ h.bi (M + 1) (a + 1) = 2) {u : Nat} (u1 : 1 ≤ u) (u2 : u ≤ b) : outC hc M l y (a + 1) u ↔ outC h M l v (a + 1) u ∨ (u = i + 1 ∧ h.bi (M + 1) (a + 1) = 1 ∧ prec hc M l y (a + 1) (i + 1)) := by
  have q' := q
  obtain ⟨q1, q2, q3, q4, q5, q6, q7, q8, q9, q10, q11, q12, q13, q14, q15, q16⟩ := q'
  have ch' := ch
  obtain ⟨f, c1, c4, c6, cv, vy, _, cn, ck⟩ := ch'
  have hb := q1.2.2.2.2.2.2.2.1
  have hc512 := q1.2.2.2.2.2.2.2.2.1
  have mx : (2147483647 : Int32) = nI 2147483647 := by decide
  have sm : ∀ z, 1 ≤ z → z ≤ b → (∃ s, h.bi (M + 3) z = nI s ∧ s ≤ c) ∧ (h.bi (M + 1) z = 2 → ∃ m, h.bi (M + 4) z = nI m ∧ m ≤ c) := by
    intro z z1 z2
    obtain ⟨_, _, _, _, s, s1, s2, s3⟩ := q5.2 z z1 z2
    refine ⟨⟨s, s1, s2⟩, fun e => ?_⟩
    rcases s3 with s3 | ⟨_, m, m1, _, m3⟩
    · rcases s3.1 with y | y | y | y <;> rw [e] at y <;> exact absurd y (by decide)
    · exact ⟨m, m1, m3⟩
  by_cases eu : u = i + 1
  · constructor
    · rintro ⟨z1, z2, z3⟩
      rw [eu] at z2 z3
      right
      refine ⟨eu, ?_, z3⟩
      have p := (prec_cm q hi ai ch ha).mp z3
      rcases aa with x | x
      · exact x
      · exfalso
        rw [c4, if_pos rfl] at z2
        unfold endT at z2
        have na : ¬ a + 1 = i + 1 := by have := p.1; omega
        rw [c1, c4, if_neg na, if_neg na, if_neg (show ¬ h.bi (M + 1) (a + 1) = 1 by rw [x]; decide)] at z2
        obtain ⟨m, m1, m2⟩ := (sm (a + 1) (by omega) (by omega)).2 x
        rw [m1, ni_lt (by omega) (by omega)] at z2
        omega
    · rintro (z | ⟨_, z2, z3⟩)
      · have := z.1
        rw [eu, ai] at this
        exact absurd this (by decide)
      · rw [eu]
        have p := (prec_cm q hi ai ch ha).mp z3
        refine ⟨by rw [c1, if_pos rfl], ?_, z3⟩
        unfold endT
        have na : ¬ a + 1 = i + 1 := by have := p.1; omega
        rw [c4, if_pos rfl, c1, if_neg na, if_pos z2, mx, ni_lt (by omega) (by omega)]
        omega
  · have more : outC hc M l y (a + 1) u ↔ outC h M l v (a + 1) u := by
      unfold outC prec inT endT rdK
      rw [f.bi (show 3 ∉ _ by decide), f.bi (show 7 ∉ _ by decide), f.bi (show 16 ∉ _ by decide), f.bi (show 17 ∉ _ by decide), f.bi (show 18 ∉ _ by decide), c1, c1, c4, c4, if_neg eu, if_neg eu]
      have vv : (∃ j, j < y ∧ hc.bi (M + 20) j = nI u ∧ h.bi (M + 7) (a + 1) ≠ 1 ∧ ∃ x, x < l ∧ h.bi (M + 16) x = nI (a + 1) ∧ h.bi (M + 17) x ≤ hc.bi (M + 19) j ∧ hc.bi (M + 19) j ≤ h.bi (M + 18) x) ↔ (∃ j, j < v ∧ h.bi (M + 20) j = nI u ∧ h.bi (M + 7) (a + 1) ≠ 1 ∧ ∃ x, x < l ∧ h.bi (M + 16) x = nI (a + 1) ∧ h.bi (M + 17) x ≤ h.bi (M + 19) j ∧ h.bi (M + 19) j ≤ h.bi (M + 18) x) := by
        constructor
        · rintro ⟨j, j1, j2, j3⟩
          have jv : j < v := Nat.lt_of_not_le (fun z => eu ((ni_inj (by omega) (by omega)).mp (j2.symm.trans (cn j z j1))))
          rw [(cv j jv).1] at j3
          rw [(cv j jv).2.1] at j2
          exact ⟨j, jv, j2, j3⟩
        · rintro ⟨j, jv, j2, j3⟩
          exact ⟨j, by omega, by rw [(cv j jv).2.1]; exact j2, by rw [(cv j jv).1]; exact j3⟩
      rw [vv]
      by_cases ea : a = i
      · rw [ea, if_pos rfl, if_pos rfl, if_neg (show ¬ (2 : Int32) = 1 by decide), if_pos ai]
        constructor
        · rintro ⟨z1, z2, z3, z4, z5, z6, z7, z8⟩
          obtain ⟨m, m1, m2⟩ := (sm u u1 u2).2 z1
          obtain ⟨s, s1, s2⟩ := (sm u u1 u2).1
          refine ⟨z1, ?_, z3, z4, Or.inl ai, z6, ?_, z8⟩
          · rw [m1, mx, ni_lt (by omega) (by omega)]; omega
          · rw [s1, mx, ni_lt (by omega) (by omega)]; omega
        · rintro ⟨z1, z2, z3, z4, z5, z6, z7, z8⟩
          obtain ⟨m, m1, m2⟩ := (sm u u1 u2).2 z1
          obtain ⟨s, s1, s2⟩ := (sm u u1 u2).1
          refine ⟨z1, ?_, z3, z4, Or.inr rfl, z6, ?_, z8⟩
          · rw [m1, ni_lt (by omega) (by omega)]; omega
          · rw [s1, ni_lt (by omega) (by omega)]; omega
      · have na : ¬ a + 1 = i + 1 := by omega
        rw [if_neg na, if_neg na]
    rw [more]
    exact ⟨Or.inl, fun z => z.elim id (fun z => absurd z.1 eu)⟩
end RDR
