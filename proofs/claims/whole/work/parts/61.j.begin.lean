/-! one begins: both sides keep step -/
theorem cnt_list {P : Nat → Prop} : ∀ (n : Nat) (xs : List Nat), xs.Nodup → (∀ i, i ∈ xs ↔ i < n ∧ P i) → xs.length = cntQ P n := by
  intro n
  induction n with
  | zero =>
    intro xs _ hx
    cases xs with
    | nil => rfl
    | cons x xs => exact absurd ((hx x).mp List.mem_cons_self).1 (by omega)
  | succ n ih =>
    intro xs nd hx
    have cs : cntQ P (n + 1) = cntQ P n + @ite Nat (P n) (Classical.propDecidable _) 1 0 := rfl
    by_cases z : P n
    · rw [if_pos z] at cs
      have mem : n ∈ xs := (hx n).mpr ⟨by omega, z⟩
      have := ih (xs.erase n) (nd.sublist List.erase_sublist) (fun i => by
        rw [nd.mem_erase_iff, hx i]
        exact ⟨fun u => ⟨by omega, u.2.2⟩, fun u => ⟨by omega, by omega, u.2⟩⟩)
      rw [List.length_erase_of_mem mem] at this
      have : 0 < xs.length := List.length_pos_of_mem mem
      omega
    · rw [if_neg z] at cs
      have := ih xs nd (fun i => by
        rw [hx i]
        exact ⟨fun u => ⟨by
          by_cases e : i = n
          · rw [e] at u; exact absurd u.2 z
          · omega, u.2⟩, fun u => ⟨by omega, u.2⟩⟩)
      omega
theorem cntQ_shift {P : Nat → Prop} (z : ¬ P 0) : ∀ n, cntQ P (n + 1) = cntQ (fun j => P (j + 1)) n := by
  intro n
  induction n with
  | zero =>
    show 0 + @ite Nat (P 0) (Classical.propDecidable _) 1 0 = 0
    rw [if_neg z]
  | succ n ih =>
    show cntQ P (n + 1) + @ite Nat (P (n + 1)) (Classical.propDecidable _) 1 0 = cntQ (fun j => P (j + 1)) n + @ite Nat (P (n + 1)) (Classical.propDecidable _) 1 0
    rw [ih]
theorem cntQ_range {P : Nat → Prop} [inst : ∀ u, Decidable (P u)] : ∀ n, (List.range' 1 n).countP (fun u => decide (P u)) = cntQ (fun u => 1 ≤ u ∧ P u) (n + 1) := by
  intro n
  induction n with
  | zero =>
    show 0 = 0 + @ite Nat (1 ≤ 0 ∧ P 0) (Classical.propDecidable _) 1 0
    rw [if_neg (fun u => absurd u.1 (by decide))]
  | succ n ih =>
    have cs : cntQ (fun u => 1 ≤ u ∧ P u) (n + 1 + 1) = cntQ (fun u => 1 ≤ u ∧ P u) (n + 1) + @ite Nat (1 ≤ n + 1 ∧ P (n + 1)) (Classical.propDecidable _) 1 0 := rfl
    rw [cs, List.range'_concat, List.countP_append, ih]
    congr 1
    rw [show 1 + 1 * n = n + 1 by omega, List.countP_cons, List.countP_nil, Nat.zero_add]
    by_cases z : P (n + 1)
    · rw [if_pos (decide_eq_true z), if_pos ⟨by omega, z⟩]
    · rw [if_neg (fun u => z (of_decide_eq_true u)), if_neg (fun u => z u.2)]
section BEG
variable {h h1 h2 h' : Hp} {M b c w l v k r clk : Nat} {G G' : Nat → Int32} {fv : Int64} {V : List Kv} {ts : List Nat} {D D' : Nat → TD} {ac cm : List Nat} {ct rs : Nat → Int32} {R : List (Int32 × Int64)}
theorem cpl_tb (q : Cpl h M b c w l v k r clk G fv V ts D ac cm ct rs R) : Cpl (tb h M) M b c w l v k r (clk + 1) G fv V ts D ac cm ct rs R := by
  obtain ⟨q1, q2, q3, q4, q5, q6, q7, q8, q9, q10, q11, q12, q13, q14, q15, q16⟩ := q
  have f : RfO [] [1300, 1313] M h (tb h M) := (RfO.sgi (by decide) _).tr (RfO.sgi (by decide) _)
  refine ⟨f.rn q1 (by decide), q2, q3, q4, q5, q6, q7, q8, q9, q10, q11, q12, q13, Whq.ro f (by decide) q14, Roq.ro f (by decide) (by decide) q15, ?_, fun t t1 t2 => ?_, q16.2.2⟩
  · unfold tb
    rw [gi_same, q16.1, ni_inc]
  · obtain ⟨⟨y, y1, y2⟩, y3⟩ := q16.2.1 t t1 t2
    refine ⟨⟨y, y1, by omega⟩, fun z => ?_⟩
    obtain ⟨y', y4, y5⟩ := y3 z
    exact ⟨y', y4, by omega⟩
/-- how many are at work -/
theorem act_n (q7 : Lsq h M b ac cm) (nd : ac.Nodup) : (List.range' 1 b).countP (fun u => decide (h.bi (M + 1) u = 1)) = ac.length := by
  rw [cntQ_range, cntQ_shift (fun u => absurd u.1 (by decide)), cnt_list b ac nd (P := fun j => 1 ≤ j + 1 ∧ h.bi (M + 1) (j + 1) = 1) (fun i => by rw [q7.1 i]; exact ⟨fun u => ⟨u.1, by omega, u.2⟩, fun u => ⟨u.1, u.2.2⟩⟩)]
theorem outS_beg {a : Nat} {x : Int32} (f : RfO [1, 2, 3, 5] [1311] M h h1) (e1 : ∀ u, u ≤ b → h1.bi (M + 1) u = h.bi (M + 1) u) (e3 : ∀ u, u ≤ b → h1.bi (M + 3) u = h.bi (M + 3) u) (n1 : h1.bi (M + 1) (b + 1) = 1) (ha : a ≤ b) : outS h1 M l v a (b + 2) x ↔ outS h M l v a (b + 1) x := by
  have oc : ∀ u, u ≤ b → (outC h1 M l v a u ↔ outC h M l v a u) := by
    intro u hu
    unfold outC prec rdK endT inT
    rw [e1 u hu, e1 a ha, e3 u hu, e3 a ha, f.bi (show 4 ∉ _ by decide), f.bi (show 7 ∉ _ by decide), f.bi (show 16 ∉ _ by decide), f.bi (show 17 ∉ _ by decide), f.bi (show 18 ∉ _ by decide), f.bi (show 19 ∉ _ by decide), f.bi (show 20 ∉ _ by decide)]
  have no : ¬ outC h1 M l v a (b + 1) := fun z => absurd (n1.symm.trans z.1) (by decide)
  unfold outS
  rw [f.bi (show 4 ∉ _ by decide)]
  refine or_congr (and_congr Iff.rfl ⟨fun z u u1 u2 y => z u u1 (by omega) ((oc u (by omega)).mpr y), fun z u u1 u2 y => ?_⟩) ⟨?_, ?_⟩
  · by_cases e : u = b + 1
    · rw [e] at y; exact no y
    · exact z u u1 (by omega) ((oc u (by omega)).mp y)
  · rintro ⟨u, u1, u2, u3, u4, u5, u6⟩
    have ub : u ≤ b := by
      by_cases e : u = b + 1
      · rw [e] at u3; exact absurd u3 no
      · omega
    exact ⟨u, u1, by omega, (oc u ub).mp u3, u4, u5, fun u' v1 v2 v3 => u6 u' v1 (by omega) ((oc u' (by omega)).mpr v3)⟩
  · rintro ⟨u, u1, u2, u3, u4, u5, u6⟩
    refine ⟨u, u1, by omega, (oc u (by omega)).mpr u3, u4, u5, fun u' v1 v2 v3 => ?_⟩
    by_cases e : u' = b + 1
    · rw [e] at v3; exact absurd v3 no
    · exact u6 u' v1 (by omega) ((oc u' (by omega)).mp v3)
theorem cpl_begin (q : Cpl h M b c w l v k r clk G fv V ts D ac cm ct rs R) (nd : ac.Nodup) (hb1 : b < 512) {ro : Int32} (hro : ro = 0 ∨ ro = 1) (jd : JdR (begH h M b c ro) M (b + 1) l v (b + 2) h') (stamp : ∀ t, 1 ≤ t → t ≤ b → h.bi (M + 1) t ≠ 1 → h.bi (M + 6) t < h.gi 1313 M) {F : Nat → Int32} (nf : NewF F (b + 1) c ro) (a0 : Ad) (t0 : Nat) (hG : G' 1209 = G 1209) : Cpl h' M (b + 1) c w l v k r clk G' fv V (ts ++ [t0]) (va_up D b (bgF F ro (ac.countP (fun j => decide ((D j).1 1005 = 0))), a0, [], [], [], 0, [], [])) (ac ++ [b]) cm (va_up ct 1 (ct 1 + 1)) rs R := by
  obtain ⟨q1, q2, q3, q4, q5, q6, q7, q8, q9, q10, q11, q12, q13, q14, q15, q16⟩ := q
  obtain ⟨h1, eh⟩ : ∃ h1, h1 = begH h M b c ro := ⟨_, rfl⟩
  rw [← eh] at jd
  have f1 : RfO [1, 2, 3, 5] [1311] M h h1 := by
    rw [eh]
    exact ((((RfO.sgi (by decide) _).tr (RfO.sbi (k := 1) (by decide) _ _)).tr (RfO.sbi (k := 2) (by decide) _ _)).tr (RfO.sbi (k := 3) (by decide) _ _)).tr (RfO.sbi (k := 5) (by decide) _ _)
  have a1 : ∀ u, h1.bi (M + 1) u = if u = b + 1 then 1 else h.bi (M + 1) u := fun u => by rw [eh]; unfold begH; rw [bi_oth (by omega), bi_oth (by omega), bi_oth (by omega), bi_at, pj_sgi_bi]
  have a2 : ∀ u, h1.bi (M + 2) u = if u = b + 1 then ro else h.bi (M + 2) u := fun u => by rw [eh]; unfold begH; rw [bi_oth (by omega), bi_oth (by omega), bi_at, bi_oth (by omega), pj_sgi_bi]
  have a3 : ∀ u, h1.bi (M + 3) u = if u = b + 1 then nI c else h.bi (M + 3) u := fun u => by rw [eh]; unfold begH; rw [bi_oth (by omega), bi_at, bi_oth (by omega), bi_oth (by omega), pj_sgi_bi]
  have a5 : ∀ u, h1.bi (M + 5) u = if u = b + 1 then h.gi 1313 M else h.bi (M + 5) u := fun u => by rw [eh]; unfold begH; rw [bi_at, bi_oth (by omega), bi_oth (by omega), bi_oth (by omega), pj_sgi_bi]
  have gb : h1.gi 1311 M = nI (b + 1) := by rw [eh]; unfold begH; rw [pj_sbi_gi, pj_sbi_gi, pj_sbi_gi, pj_sbi_gi, gi_same]
  have e1 : ∀ u, u ≤ b → h1.bi (M + 1) u = h.bi (M + 1) u := fun u hu => by rw [a1, if_neg (by omega)]
  have e2 : ∀ u, u ≤ b → h1.bi (M + 2) u = h.bi (M + 2) u := fun u hu => by rw [a2, if_neg (by omega)]
  have e3 : ∀ u, u ≤ b → h1.bi (M + 3) u = h.bi (M + 3) u := fun u hu => by rw [a3, if_neg (by omega)]
  have e5 : ∀ u, u ≤ b → h1.bi (M + 5) u = h.bi (M + 5) u := fun u hu => by rw [a5, if_neg (by omega)]
  have f2 := jd.1
  have f : RfO [1, 2, 3, 5, 7] [1311] M h h' := (f1.mono (by decide) (fun _ z => z)).tr (f2.mono (by decide) (fun _ z => nomatch z))
  have os : ∀ a x, a ≤ b → (outS h1 M l v a (b + 2) x ↔ outS h M l v a (b + 1) x) := fun a x ha => outS_beg f1 e1 e3 (by rw [a1, if_pos rfl]) ha
  have wt : ∀ t, t ≤ b + 1 → (wtS h1 M t ↔ wtS h M t) := by
    intro t ht
    unfold wtS
    refine ⟨fun ⟨u, u1, u2, u3, u4⟩ => ⟨u, u1, u2, by rw [← e2 u (by omega)]; exact u3, by rw [← e1 u (by omega)]; exact u4⟩, fun ⟨u, u1, u2, u3, u4⟩ => ⟨u, u1, u2, by rw [e2 u (by omega)]; exact u3, by rw [e1 u (by omega)]; exact u4⟩⟩
  have jv : ∀ t x, t ≤ b → (jdV h1 M (b + 1) l v t x ↔ jdV h M b l v t x) := by
    intro t x ht
    have bs : bdS h1 M (b + 1) l v t t ↔ bdS h M b l v t t := by
      have bc : ∀ u, u ≤ b → (bdC h1 M (b + 1) l v t u ↔ bdC h M b l v t u) := by
        intro u hu
        unfold bdC
        rw [e2 u hu, e1 u hu, e5 t ht, e3 t ht, f1.bi (show 6 ∉ _ by decide)]
        refine and_congr Iff.rfl (and_congr Iff.rfl (and_congr Iff.rfl ⟨fun ⟨y, y1, y2⟩ => ⟨y, (os u y hu).mp y1, y2⟩, fun ⟨y, y1, y2⟩ => ⟨y, (os u y hu).mpr y1, y2⟩⟩))
      exact ⟨fun ⟨u, u1, u2, u3⟩ => ⟨u, u1, u2, (bc u (by omega)).mp u3⟩, fun ⟨u, u1, u2, u3⟩ => ⟨u, u1, u2, (bc u (by omega)).mpr u3⟩⟩
    unfold jdV
    rw [bs, wt t (by omega)]
  have s7 : ∀ u, u < b → h'.bi (M + 7) (u + 1) = h.bi (M + 7) (u + 1) := by
    intro u hu
    by_cases ja : 1 ≤ u + 1 ∧ u + 1 < b + 2 ∧ jdA h1 M (u + 1)
    · have z := (jd.2 (u + 1)).1 ja
      obtain ⟨j1, j2, j3⟩ := ja.2.2
      rw [e1 (u + 1) (by omega)] at j1
      rw [e2 (u + 1) (by omega)] at j2
      rw [f1.bi (by decide)] at j3
      have z0 := (jv (u + 1) 0 (by omega)).mpr ((q16.2.2 u hu j1 j2).2.1 j3)
      rw [z.uniq z0, j3]
    · rw [(jd.2 (u + 1)).2 ja, f1.bi (by decide)]
  have fr := q6.1 (b + 1) (by omega) (by omega)
  have nb : ¬ bdS h1 M (b + 1) l v (b + 1) (b + 1) := by
    rintro ⟨u, u1, u2, _, u4, u5, _⟩
    rw [a5, if_pos rfl, f1.bi (by decide)] at u5
    rw [e1 u (by omega)] at u4
    have := stamp u u1 (by omega) (by rw [u4]; decide)
    rw [Int32.le_iff_toInt_le] at u5
    rw [Int32.lt_iff_toInt_lt] at this
    omega
  have rwn : ∀ n, n ≤ b + 1 → rwN h' M n = rwN h M n := by
    intro n hn
    unfold rwN
    refine cntQ_same (fun u hu => ?_)
    rw [f2.bi (by decide), f2.bi (by decide), e1 u (by omega), e2 u (by omega)]
  have awc : ac.countP (fun j => decide ((D j).1 1005 = 0)) = rwN h M (b + 1) := by
    rw [List.countP_eq_length_filter]
    unfold rwN
    rw [cntQ_shift (fun u => absurd u.1 (by decide))]
    refine cnt_list b _ (nd.sublist List.filter_sublist) (fun i => ?_)
    rw [List.mem_filter, q7.1 i]
    constructor
    · rintro ⟨⟨z1, z2⟩, z3⟩
      have z3 := of_decide_eq_true z3
      rw [(q4 i z1).2.2.1] at z3
      refine ⟨z1, by omega, Classical.not_not.mp (fun z => ?_), z2⟩
      rw [if_neg z] at z3
      rcases (q5.2 (i + 1) (by omega) (by omega)).2.1 with x | x | x <;> rw [x] at z3 <;> exact absurd z3 (by decide)
    · rintro ⟨z1, _, z2, z3⟩
      refine ⟨⟨z1, z3⟩, decide_eq_true ?_⟩
      rw [(q4 i z1).2.2.1, if_pos z2]
  have new7 : (ro = 0 ∧ h'.bi (M + 7) (b + 1) = 0) ∨ (ro ≠ 0 ∧ ((h'.bi (M + 7) (b + 1) = 1 ∧ rwN h M (b + 1) = 0) ∨ (h'.bi (M + 7) (b + 1) = 0 ∧ rwN h M (b + 1) ≠ 0 ∧ jdV h1 M (b + 1) l v (b + 1) 0))) := by
    by_cases z : ro = 0
    · refine Or.inl ⟨z, ?_⟩
      rw [(jd.2 (b + 1)).2 (fun y => y.2.2.2.1 (by rw [a2, if_pos rfl]; exact z)), f1.bi (by decide)]
      exact fr.2.1
    · refine Or.inr ⟨z, ?_⟩
      have j := (jd.2 (b + 1)).1 ⟨by omega, by omega, by rw [a1, if_pos rfl], by rw [a2, if_pos rfl]; exact z, by rw [f1.bi (by decide)]; exact fr.2.1⟩
      rcases id j with y | y | y
      · exact absurd y.2 nb
      · refine Or.inr ⟨y.1, ?_, by rw [← y.1]; exact j⟩
        have := y.2.2
        rw [wt _ (Nat.le_refl _), wtS_n] at this
        exact this
      · refine Or.inl ⟨y.1, ?_⟩
        have := y.2.2
        rw [wt _ (Nat.le_refl _), wtS_n] at this
        exact Classical.not_not.mp this
  obtain ⟨n0, n1, n5, n6, n7, n8, n9, n10⟩ := nf
  obtain ⟨F', eF⟩ : ∃ F', F' = bgF F ro (ac.countP (fun j => decide ((D j).1 1005 = 0))) := ⟨_, rfl⟩
  rw [← eF]
  rw [awc] at eF
  have Ff : F' 1000 = nI (b + 1) ∧ F' 1001 = nI c ∧ F' 1006 = 1 ∧ F' 1007 = 0 ∧ F' 1008 = 0 ∧ F' 1009 = 0 ∧ F' 1005 = (if ro = 0 then 0 else h'.bi (M + 7) (b + 1) + 1) ∧ (ro ≠ 0 → F' 1010 = nI (rwN h M (b + 1))) := by
    rw [eF]
    unfold bgF
    rcases new7 with ⟨z, z7⟩ | ⟨z, z7⟩
    · rw [if_pos z, if_pos z]
      exact ⟨n0, n1, n6, n7, n8, n9, n5.trans z, fun y => absurd z y⟩
    · have k1 : va_up F 1010 (nI (rwN h M (b + 1))) 1005 = 1 := by
        rw [va_up_ne _ _ (by decide), n5]
        exact hro.resolve_left z
      rw [if_neg z, if_neg z]
      unfold safeF
      have nle : rwN h M (b + 1) ≤ b + 1 := cntQ_le _ _
      rcases z7 with ⟨y1, y2⟩ | ⟨y1, y2, _⟩
      · rw [if_pos ⟨k1, by rw [va_up_self, y2]; rfl⟩, y1]
        refine ⟨n0, n1, n6, n7, rfl, n9, rfl, fun _ => rfl⟩
      · rw [if_neg (fun u => y2 ((ni_inj (b := 0) (by omega) (by omega)).mp (by have := u.2; rw [va_up_self] at this; exact this))), y1]
        exact ⟨n0, n1, n6, n7, n8, n9, k1, fun _ => rfl⟩
  obtain ⟨D2, eD⟩ : ∃ D2, D2 = va_up D b (F', a0, [], [], [], 0, [], []) := ⟨_, rfl⟩
  rw [← eD]
  have di : D2 b = (F', a0, [], [], [], 0, [], []) := by rw [eD, va_up_self]
  have dj : ∀ j, j ≠ b → D2 j = D j := fun j hj => by rw [eD, va_up_ne _ _ hj]
  have g1 : ∀ u, h'.bi (M + 1) u = if u = b + 1 then 1 else h.bi (M + 1) u := fun u => by rw [f2.bi (by decide)]; exact a1 u
  have g2 : ∀ u, h'.bi (M + 2) u = if u = b + 1 then ro else h.bi (M + 2) u := fun u => by rw [f2.bi (by decide)]; exact a2 u
  have g3 : ∀ u, h'.bi (M + 3) u = if u = b + 1 then nI c else h.bi (M + 3) u := fun u => by rw [f2.bi (by decide)]; exact a3 u
  have g5 : ∀ u, h'.bi (M + 5) u = if u = b + 1 then h.gi 1313 M else h.bi (M + 5) u := fun u => by rw [f2.bi (by decide)]; exact a5 u
  have g4 : h'.bi (M + 4) = h.bi (M + 4) := f.bi (by decide)
  have g8 : h'.bi (M + 8) = h.bi (M + 8) := f.bi (by decide)
  have g9 : h'.bi (M + 9) = h.bi (M + 9) := f.bi (by decide)
  have st : ∀ t, 1 ≤ t → t ≤ b → h.bi (M + 3) t ≤ nI c := by
    intro t t1 t2
    obtain ⟨_, _, _, _, s, s1, s2, _⟩ := q5.2 t t1 t2
    have := q1.2.2.2.2.2.2.2.2.1
    rw [s1, ni_le (by omega) (by omega)]
    exact s2
  refine ⟨?_, by rw [List.length_append, q2]; rfl, q3, fun i hi => ?_, ⟨fun t t' t1 t2 t3 => ?_, fun t t1 t2 => ?_⟩, ⟨fun t t1 t2 => ?_, fun j z1 z2 => by rw [f.bi (by decide)]; exact q6.2.1 j z1 z2, fun j hj => by rw [f.bi (by decide)]; exact q6.2.2.1 j hj, fun j z1 z2 => by rw [f.bi (by decide)]; exact q6.2.2.2.1 j z1 z2, fun j hj => ?_⟩, ⟨fun i => ?_, fun m i hm => ?_, fun i hi z => ?_⟩, fun i hi z => ?_, fun i hi => ?_, ⟨fun i hi key => ?_, ?_, fun j hj => ?_⟩, ⟨q11.1, q11.2.1.con f (by decide) (by decide), fun j y hy => ?_⟩, ⟨fun i hi => ?_, fun j hj => ?_⟩, fun s s1 s2 => ?_, (Whq.ro f (by decide) q14).upd hG, Roq.ro f (by decide) (by decide) q15, ?_, fun t t1 t2 => ?_, fun i hi z1 z2 => ?_⟩
  · obtain ⟨x1, x2, x3, x4, x5, x6, x7, x8, x9, x10, x11, x12, x13, x14⟩ := q1
    exact ⟨by rw [f2.gi (fun z => nomatch z)]; exact gb, by rw [f.gi (by decide)]; exact x2, by rw [f.gi (by decide)]; exact x3, by rw [f.gi (by decide)]; exact x4, by rw [f.gi (by decide)]; exact x5, by rw [f.gi (by decide)]; exact x6, by rw [f.gi (by decide)]; exact x7, by omega, x9, x10, x11, x12, x13, x14⟩
  · rw [g1, g2, g3, g4, g8, g9]
    by_cases e : i = b
    · rw [e, di, if_pos rfl, if_pos rfl, if_pos rfl, fr.1, fr.2.2.1, fr.2.2.2]
      exact ⟨Ff.1, Ff.2.1, Ff.2.2.2.2.2.2.1, Ff.2.2.1, Ff.2.2.2.1, Ff.2.2.2.2.2.1, rfl⟩
    · have ni : ¬ i + 1 = b + 1 := by omega
      rw [dj i e, if_neg ni, if_neg ni, if_neg ni, s7 i (by omega)]
      exact q4 i (by omega)
  · rw [g3, g3]
    by_cases e : t' = b + 1
    · rw [if_pos e]
      by_cases e' : t = b + 1
      · rw [if_pos e']; exact Int32.le_refl _
      · rw [if_neg e']; exact st t t1 (by omega)
    · rw [if_neg e, if_neg (by omega)]
      exact q5.1 t t' t1 t2 (by omega)
  · rw [g1, g2, g3, g4, g8]
    by_cases e : t = b + 1
    · rw [e, if_pos rfl, if_pos rfl, if_pos rfl, fr.1, fr.2.2.1]
      refine ⟨hro, ?_, fun z => ?_, Or.inl rfl, c, rfl, Nat.le_refl _, Or.inl ⟨Or.inl rfl, rfl⟩⟩
      · rcases new7 with z | ⟨_, z | z⟩
        · exact Or.inl z.2
        · exact Or.inr (Or.inl z.1)
        · exact Or.inl z.1
      · rcases new7 with y | y
        · exact y.2
        · exact absurd z y.1
    · obtain ⟨t', rfl⟩ : ∃ t', t = t' + 1 := ⟨t - 1, by omega⟩
      rw [if_neg e, if_neg e, if_neg e, s7 t' (by omega)]
      exact q5.2 (t' + 1) t1 (by omega)
  · rw [g4, g8, g9, (jd.2 t).2 (fun y => by omega), f1.bi (by decide)]
    exact q6.1 t (by omega) t2
  · obtain ⟨u, u1, u2, u3⟩ := q6.2.2.2.2 j hj
    exact ⟨u, u1, by omega, by rw [f.bi (by decide)]; exact u3⟩
  · rw [List.mem_append, q7.1, List.mem_singleton, g1]
    by_cases e : i = b
    · rw [if_pos (by omega)]
      exact ⟨fun _ => ⟨by omega, rfl⟩, fun _ => Or.inr e⟩
    · rw [if_neg (by omega)]
      exact ⟨fun u => u.elim (fun u => ⟨by omega, u.2⟩) (fun u => absurd u e), fun u => Or.inl ⟨by omega, u.2⟩⟩
  · obtain ⟨z1, z2, z3⟩ := q7.2.1 m i hm
    rw [g1, if_neg (by omega), g4]
    exact ⟨by omega, z2, z3⟩
  · rw [g1] at z
    by_cases e : i = b
    · rw [if_pos (by omega)] at z
      exact absurd z (by decide)
    · rw [if_neg (by omega)] at z
      exact q7.2.2 i (by omega) z
  · rw [g1] at z
    by_cases e : i = b
    · rw [e, di]
      show outS h' M l v (b + 1) (b + 2) (F' 1008)
      rw [Ff.2.2.2.2.1]
      refine Or.inl ⟨rfl, fun u _ _ y => ?_⟩
      obtain ⟨_, _, _, _, x, _, _, y2⟩ := y.2.2.2
      obtain ⟨_, j, j1, j2, _⟩ := y2
      rw [f.bi (by decide)] at j2
      obtain ⟨u', u1, u2, u3⟩ := q10.2.2 j j1
      have := (ni_inj (by omega) (by omega)).mp (u3.symm.trans j2)
      omega
    · rw [if_neg (by omega)] at z
      rw [dj i e]
      exact (outS_sf f2 (by rw [s7 i (by omega), f1.bi (by decide)])).mpr ((os (i + 1) _ (by omega)).mpr (q8 i (by omega) z))
  · by_cases e : i = b
    · rw [e, di]
      have oe : ownI h' M w (b + 1) = [] := by
        unfold ownI
        refine List.filter_eq_nil_iff.mpr (fun j hj z => ?_)
        have z := of_decide_eq_true z
        rw [f.bi (by decide)] at z
        obtain ⟨u, u1, u2, u3⟩ := q6.2.2.2.2 j (List.mem_range.mp hj)
        have := (ni_inj (by omega) (by omega)).mp (u3.symm.trans z.1)
        omega
      refine ⟨?_, fun q p hp => (nomatch hp), Nat.zero_le _⟩
      rw [oe]
      trivial
    · rw [dj i e]
      exact Owq.ro f (by decide) q9 i (by omega)
  · by_cases e : i = b
    · rw [e, di]
      refine ⟨fun ⟨y, hy, _⟩ => (nomatch hy), fun ⟨j, j1, j2, _⟩ => ?_⟩
      rw [f.bi (by decide)] at j2
      obtain ⟨u', u1, u2, u3⟩ := q10.2.2 j j1
      have := (ni_inj (by omega) (by omega)).mp (u3.symm.trans j2)
      omega
    · rw [dj i e]
      exact (Loq.ro f (by decide) q10).1 i (by omega) key
  · exact (Loq.ro f (by decide) q10).2.1
  · obtain ⟨u, u1, u2, u3⟩ := q10.2.2 j hj
    exact ⟨u, u1, by omega, by rw [f.bi (by decide)]; exact u3⟩
  · obtain ⟨y1, y2, y3, y4, y5, ⟨u, u1, u2, u3, u4⟩, y7⟩ := q11.2.2 j y hy
    rw [f.bi (show 19 ∉ _ by decide), vMo.con f (by decide) (by decide), f.bi (show 20 ∉ _ by decide), f.bi (show 22 ∉ _ by decide), f.bw (show 21 ∉ _ by decide), f.bi (show 12 ∉ _ by decide)]
    exact ⟨y1, y2, y3, y4, y5, ⟨u, u1, by omega, u3, by rw [g1, if_neg (by omega)]; exact u4⟩, y7⟩
  · by_cases e : i = b
    · rw [e, di]
      have re : rowI h' M k (b + 1) = [] := by
        unfold rowI
        refine List.filter_eq_nil_iff.mpr (fun j hj z => ?_)
        have z := of_decide_eq_true z
        rw [f.bi (by decide)] at z
        obtain ⟨u, u1, u2, u3⟩ := q12.2 j (List.mem_range.mp hj)
        have := (ni_inj (by omega) (by omega)).mp (u3.symm.trans z)
        omega
      rw [re]
      exact CalQ.nil _
    · rw [dj i e]
      exact (Caq.ro f (by decide) q12).1 i (by omega)
  · obtain ⟨u, u1, u2, u3⟩ := q12.2 j hj
    exact ⟨u, u1, by omega, by rw [f.bi (by decide)]; exact u3⟩
  · have cs := q13 s s1 s2
    have cq : cntQ (fun u => 1 ≤ u ∧ h'.bi (M + 1) u = nI s) (b + 1 + 1) = cntQ (fun u => 1 ≤ u ∧ h'.bi (M + 1) u = nI s) (b + 1) + @ite Nat (1 ≤ b + 1 ∧ h'.bi (M + 1) (b + 1) = nI s) (Classical.propDecidable _) 1 0 := rfl
    have same : cntQ (fun u => 1 ≤ u ∧ h.bi (M + 1) u = nI s) (b + 1) = cntQ (fun u => 1 ≤ u ∧ h'.bi (M + 1) u = nI s) (b + 1) := cntQ_same (fun u hu => by rw [g1, if_neg (by omega)])
    rw [cq, ← same]
    by_cases e : s = 1
    · rw [e] at cs ⊢
      rw [va_up_self, cs, if_pos ⟨by omega, by rw [g1, if_pos rfl]; rfl⟩, ni_inc]
    · rw [va_up_ne _ _ e, cs, if_neg (fun u => e (by have := u.2; rw [g1, if_pos rfl] at this; exact (ni_inj (a := s) (b := 1) (by omega) (by omega)).mp this.symm))]
      rfl
  · rw [f.gi (by decide)]; exact q16.1
  · rw [g1, g5, f.bi (show 6 ∉ _ by decide)]
    by_cases e : t = b + 1
    · rw [if_pos e, if_pos e]
      exact ⟨⟨clk, q16.1, Nat.le_refl _⟩, fun u => absurd rfl u⟩
    · rw [if_neg e, if_neg e]
      exact q16.2.1 t t1 (by omega)
  · show _ = nI (rwN h' M (i + 1)) ∧ _
    rw [rwn (i + 1) (by omega)]
    have jc : ∀ t x, jdV h' M (b + 1) l v t x ↔ jdV h1 M (b + 1) l v t x := fun t x => jdV.con f2 (by decide) (fun a ha => (jd.2 a).2 (fun y => y.2.2.2.1 ha))
    by_cases e : i = b
    · rw [e, di]
      rw [e, g2, if_pos rfl] at z2
      refine ⟨Ff.2.2.2.2.2.2.2 z2, fun y => ?_, fun y => ?_⟩
      · rcases new7 with u | ⟨_, u | u⟩
        · exact absurd u.1 z2
        · rw [u.1] at y; exact absurd y (by decide)
        · exact (jc _ _).mpr u.2.2
      · rw [wtS_n, rwn (b + 1) (Nat.le_refl _)]
        rcases new7 with u | ⟨_, u | u⟩
        · exact absurd u.1 z2
        · exact fun x => x u.2
        · rw [u.1] at y; exact absurd y (by decide)
    · rw [g1, if_neg (by omega)] at z1
      rw [g2, if_neg (by omega)] at z2
      obtain ⟨s1, s2, s3⟩ := q16.2.2 i (by omega) z1 z2
      rw [dj i e, s7 i (by omega)]
      refine ⟨s1, fun y => (jc _ _).mpr ((jv (i + 1) 0 (by omega)).mpr (s2 y)), fun y => ?_⟩
      rw [wtS_n, rwn (i + 1) (by omega), ← wtS_n]
      exact s3 y
end BEG
