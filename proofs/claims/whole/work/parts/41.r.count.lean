/-! counts -/
section KCt
variable {g : Nat → Nat} {h : Hp} {p : Nat → Nat} {G : Nat → Int32} {fv : Int64} {lr : Option Nat} {B : Shf} {V : List Kv} {ts : List Nat} {D : Nat → TD} {ac cm ot : List Nat} {ct rs : Nat → Int32} {d0 : AnD} {R : List (Int32 × Int64)} {cO : Nat}
theorem tx_rnF {S scr t i : Nat} (tt : Tr g h S scr t (D i).1 (D i).2.1 (D i).2.2) (N : Nat) : J_X7_runs N t h = some (h, nI (rnF D i)) := by
  rw [tx_runs tt N]
  unfold rnF
  by_cases c : (D i).1 1005 = 2
  · rw [if_pos c, if_pos c]; rfl
  · rw [if_neg c, if_neg c]
theorem ar_com (q : Kr g h p G fv lr B V ts D ac cm ot ct rs d0 R cO) (hcm : ∀ i ∈ cm, i < ts.length) (hcl : cm.length < 100000) (N : Nat) : ∀ (m k c F : Nat), m = cm.length - k → k ≤ cm.length → m < F → L_X9_allRuns_45 N (p 11) F h (nI c) (nI (k + 1)) = some (h, nI (c + ((cm.drop k).map (rnF D)).sum)) := by
  intro m
  induction m with
  | zero =>
    intro k c F hm hk hF
    obtain ⟨F, rfl⟩ : ∃ F', F = F' + 1 := ⟨F - 1, by omega⟩
    show B_X9_allRuns_45 N _ (p 11) h (nI c) (nI (k + 1)) = _
    unfold B_X9_allRuns_45
    refine (dr_e (by exact q.1.2.2.2.2.2.2.2.1) (by exact q.2.2.2.2.1.2.1)).trans ?_
    refine (bnd (by exact al_size q.2.2.2.2.1.2 N)).trans ?_
    unfold B_X9_allRuns_53
    rw [List.length_map]
    refine (if_pos (by exact (ni_lt (by omega) (by omega)).mpr (by omega))).trans ?_
    rw [List.drop_eq_nil_of_le (by omega)]
    rfl
  | succ m ih =>
    intro k c F hm hk hF
    obtain ⟨F, rfl⟩ : ∃ F', F = F' + 1 := ⟨F - 1, by omega⟩
    have hlt : k < cm.length := by omega
    have hj : cm[k]? = some cm[k] := List.getElem?_eq_getElem hlt
    have dk : cm.drop k = cm[k] :: cm.drop (k + 1) := List.drop_eq_getElem_cons hlt
    have hjm := List.mem_of_getElem? hj
    generalize cm[k] = j at hj dk hjm
    have tj := q.2.2.2.2.2.2.2.2.2.2.1 _ _ (adr_get (hcm j hjm))
    have wm := kr_withMoment q hcm N (nI (k + 1))
    rw [num_nI (by omega) (by omega), show k + 1 - 1 = k by omega, map_get (ts := ts) hj] at wm
    have s1 := ih (k + 1) (c + rnF D j) F (by omega) (by omega) (by omega)
    show B_X9_allRuns_45 N (L_X9_allRuns_45 N (p 11) F) (p 11) h (nI c) (nI (k + 1)) = _
    unfold B_X9_allRuns_45
    refine (dr_e (by exact q.1.2.2.2.2.2.2.2.1) (by exact q.2.2.2.2.1.2.1)).trans ?_
    refine (bnd (by exact al_size q.2.2.2.2.1.2 N)).trans ?_
    unfold B_X9_allRuns_53
    rw [List.length_map]
    refine (if_neg (by exact fun z => by rw [ni_lt (by omega) (by omega)] at z; omega)).trans ?_
    refine (bnd (by exact wm)).trans ?_
    unfold B_X9_allRuns_61
    refine (nl_so (by exact rfl)).trans ?_
    refine (ck_eq (by exact tj.1)).trans ?_
    refine (bnd (by exact tx_rnF tj N)).trans ?_
    unfold B_X9_allRuns_75
    rw [ni_inc]
    have e : nI c + nI (rnF D j) = nI (c + rnF D j) := nI_add _ _
    refine (congrArg (fun z => L_X9_allRuns_45 N (p 11) F h z (nI (k + 1 + 1))) e).trans ?_
    rw [s1, dk, List.map_cons, List.sum_cons, Nat.add_assoc]
theorem ar_act (q : Kr g h p G fv lr B V ts D ac cm ot ct rs d0 R cO) (hac : ∀ i ∈ ac, i < ts.length) (hcm : ∀ i ∈ cm, i < ts.length) (hcl : cm.length < 100000) (hal : ac.length < 100000) (N : Nat) (hN : 100000 < N) {s : Nat} (hs : hzn D ac cm = nI s) (hsc : s ≤ cm.length) : ∀ (m k c F : Nat), m = ac.length - k → k ≤ ac.length → m < F → L_X9_allRuns_4 N (p 11) F h (nI c) (nI k) = some (h, nI (c + ((ac.drop k).map (rnF D)).sum + ((cm.drop s).map (rnF D)).sum)) := by
  intro m
  induction m with
  | zero =>
    intro k c F hm hk hF
    obtain ⟨F, rfl⟩ : ∃ F', F = F' + 1 := ⟨F - 1, by omega⟩
    have s1 := ar_com q hcm hcl N (cm.length - s) s c N rfl hsc (by omega)
    show B_X9_allRuns_4 N _ (p 11) h (nI c) (nI k) = _
    unfold B_X9_allRuns_4
    refine (dr_e (by exact q.1.2.2.2.2.2.2.1) (by exact q.2.2.2.1.2.1)).trans ?_
    refine (bnd (by exact al_size q.2.2.2.1.2 N)).trans ?_
    unfold B_X9_allRuns_12
    rw [List.length_map]
    refine (if_pos (by exact (ni_le (by omega) (by omega)).mpr (by omega))).trans ?_
    refine (bnd (by exact kr_hzn q hac N)).trans ?_
    unfold B_X9_allRuns_42
    rw [List.drop_eq_nil_of_le (show ac.length ≤ k by omega), hs, ni_inc]
    exact s1
  | succ m ih =>
    intro k c F hm hk hF
    obtain ⟨F, rfl⟩ : ∃ F', F = F' + 1 := ⟨F - 1, by omega⟩
    have hlt : k < ac.length := by omega
    have hj : ac[k]? = some ac[k] := List.getElem?_eq_getElem hlt
    have dk : ac.drop k = ac[k] :: ac.drop (k + 1) := List.drop_eq_getElem_cons hlt
    have hjm := List.mem_of_getElem? hj
    generalize ac[k] = j at hj dk hjm
    have tj := q.2.2.2.2.2.2.2.2.2.2.1 _ _ (adr_get (hac j hjm))
    have s1 := ih (k + 1) (c + rnF D j) F (by omega) (by omega) (by omega)
    show B_X9_allRuns_4 N (L_X9_allRuns_4 N (p 11) F) (p 11) h (nI c) (nI k) = _
    unfold B_X9_allRuns_4
    refine (dr_e (by exact q.1.2.2.2.2.2.2.1) (by exact q.2.2.2.1.2.1)).trans ?_
    refine (bnd (by exact al_size q.2.2.2.1.2 N)).trans ?_
    unfold B_X9_allRuns_12
    rw [List.length_map]
    refine (if_neg (by exact fun z => by rw [ni_le (by omega) (by omega)] at z; omega)).trans ?_
    refine (dr_e (by exact q.1.2.2.2.2.2.2.1) (by exact q.2.2.2.1.2.1)).trans ?_
    refine (bnd (by exact al_get q.2.2.2.1.2 N (map_get (ts := ts) hj))).trans ?_
    unfold B_X9_allRuns_24
    refine (dr_e (by exact rfl) (by exact tj.1)).trans ?_
    refine (bnd (by exact tx_rnF tj N)).trans ?_
    unfold B_X9_allRuns_30
    rw [ni_inc]
    have e : nI c + nI (rnF D j) = nI (c + rnF D j) := nI_add _ _
    refine (congrArg (fun z => L_X9_allRuns_4 N (p 11) F h z (nI (k + 1))) e).trans ?_
    rw [s1, dk, List.map_cons, List.sum_cons, Nat.add_assoc c]
theorem kn_loop (q : Kr g h p G fv lr B V ts D ac cm ot ct rs d0 R cO) (N : Nat) (hN : 100000 < N) (hz : Int32) : ∀ (m k c F : Nat), m = B.length - k → k ≤ B.length → m < F → L_X9_keptVersions_9 N (p 11) F h hz (nI c) (nI k) = some (h, nI (c + ((B.drop k).map (fun y => keptN hz y.2)).sum)) := by
  have sB := q.2.1.2.1
  have hB := sh_len sB
  intro m
  induction m with
  | zero =>
    intro k c F hm hk hF
    obtain ⟨F, rfl⟩ : ∃ F', F = F' + 1 := ⟨F - 1, by omega⟩
    show B_X9_keptVersions_9 N _ (p 11) h hz (nI c) (nI k) = _
    unfold B_X9_keptVersions_9
    refine (dr_e (by exact q.1.2.2.2.2.1) (by exact sB.1)).trans ?_
    refine (bnd (by exact sh_size sB N)).trans ?_
    unfold B_X9_keptVersions_17
    refine (if_pos (by exact (ni_le (by omega) (by omega)).mpr (by omega))).trans ?_
    rw [List.drop_eq_nil_of_le (by omega)]
    rfl
  | succ m ih =>
    intro k c F hm hk hF
    obtain ⟨F, rfl⟩ : ∃ F', F = F' + 1 := ⟨F - 1, by omega⟩
    have hlt : k < B.length := by omega
    have hy : B[k]? = some B[k] := List.getElem?_eq_getElem hlt
    have dk : B.drop k = B[k] :: B.drop (k + 1) := List.drop_eq_getElem_cons hlt
    obtain ⟨a, e1, e2, -⟩ := sh_chainAt sB N hy
    generalize B[k] = y at hy dk e2
    have s1 := ih (k + 1) (c + keptN hz y.2) F (by omega) (by omega) (by omega)
    show B_X9_keptVersions_9 N (L_X9_keptVersions_9 N (p 11) F) (p 11) h hz (nI c) (nI k) = _
    unfold B_X9_keptVersions_9
    refine (dr_e (by exact q.1.2.2.2.2.1) (by exact sB.1)).trans ?_
    refine (bnd (by exact sh_size sB N)).trans ?_
    unfold B_X9_keptVersions_17
    refine (if_neg (by exact fun z => by rw [ni_le (by omega) (by omega)] at z; omega)).trans ?_
    refine (dr_e (by exact q.1.2.2.2.2.1) (by exact sB.1)).trans ?_
    refine (bnd (by exact e1)).trans ?_
    unfold B_X9_keptVersions_28
    refine (nl_so (by exact rfl)).trans ?_
    refine (ck_eq (by exact e2.1)).trans ?_
    refine (bnd (by exact ch_kept e2 N hN hz)).trans ?_
    unfold B_X9_keptVersions_46
    rw [ni_inc]
    have e : nI c + nI (keptN hz y.2) = nI (c + keptN hz y.2) := nI_add _ _
    refine (congrArg (fun z => L_X9_keptVersions_9 N (p 11) F h hz z (nI (k + 1))) e).trans ?_
    rw [s1, dk, List.map_cons, List.sum_cons, Nat.add_assoc c]
theorem kk_loop (q : Kr g h p G fv lr B V ts D ac cm ot ct rs d0 R cO) (N : Nat) (hN : 100000 < N) (hz : Int32) : ∀ (m k c F : Nat), m = B.length - k → k ≤ B.length → m < F → L_X9_keysWithVersions_9 N (p 11) F h hz (nI c) (nI k) = some (h, nI (c + (B.drop k).countP (fun y => decide (0 < keptN hz y.2)))) := by
  have sB := q.2.1.2.1
  have hB := sh_len sB
  intro m
  induction m with
  | zero =>
    intro k c F hm hk hF
    obtain ⟨F, rfl⟩ : ∃ F', F = F' + 1 := ⟨F - 1, by omega⟩
    show B_X9_keysWithVersions_9 N _ (p 11) h hz (nI c) (nI k) = _
    unfold B_X9_keysWithVersions_9
    refine (dr_e (by exact q.1.2.2.2.2.1) (by exact sB.1)).trans ?_
    refine (bnd (by exact sh_size sB N)).trans ?_
    unfold B_X9_keysWithVersions_17
    refine (if_pos (by exact (ni_le (by omega) (by omega)).mpr (by omega))).trans ?_
    rw [List.drop_eq_nil_of_le (by omega)]
    rfl
  | succ m ih =>
    intro k c F hm hk hF
    obtain ⟨F, rfl⟩ : ∃ F', F = F' + 1 := ⟨F - 1, by omega⟩
    have hlt : k < B.length := by omega
    have hy : B[k]? = some B[k] := List.getElem?_eq_getElem hlt
    have dk : B.drop k = B[k] :: B.drop (k + 1) := List.drop_eq_getElem_cons hlt
    obtain ⟨a, e1, e2, -⟩ := sh_chainAt sB N hy
    generalize B[k] = y at hy dk e2
    have hkl := keptN_le hz y.2
    have hyl := e2.2.2.2.2
    show B_X9_keysWithVersions_9 N (L_X9_keysWithVersions_9 N (p 11) F) (p 11) h hz (nI c) (nI k) = _
    unfold B_X9_keysWithVersions_9
    refine (dr_e (by exact q.1.2.2.2.2.1) (by exact sB.1)).trans ?_
    refine (bnd (by exact sh_size sB N)).trans ?_
    unfold B_X9_keysWithVersions_17
    refine (if_neg (by exact fun z => by rw [ni_le (by omega) (by omega)] at z; omega)).trans ?_
    refine (dr_e (by exact q.1.2.2.2.2.1) (by exact sB.1)).trans ?_
    refine (bnd (by exact e1)).trans ?_
    unfold B_X9_keysWithVersions_28
    refine (nl_so (by exact rfl)).trans ?_
    refine (ck_eq (by exact e2.1)).trans ?_
    refine (bnd (by exact ch_kept e2 N hN hz)).trans ?_
    unfold B_X9_keysWithVersions_41 B_X9_keysWithVersions_47
    rw [ni_inc, ni_inc, dk, List.countP_cons]
    by_cases c1 : keptN hz y.2 = 0
    · rw [if_neg (show ¬ decide (0 < keptN hz y.2) = true by simp; omega)]
      refine (if_pos (by exact (ni_lz (by omega)).mpr c1)).trans ?_
      exact ih (k + 1) c F (by omega) (by omega) (by omega)
    · rw [if_pos (show decide (0 < keptN hz y.2) = true by simp; omega)]
      refine (if_neg (by exact fun z => c1 ((ni_lz (by omega)).mp z))).trans ?_
      refine (ih (k + 1) (c + 1) F (by omega) (by omega) (by omega)).trans ?_
      congr 3
      omega
/-- count -/
def cntV (ct : Nat → Int32) (hz : Int32) (B : Shf) (ts : List Nat) (D : Nat → TD) (ac cm : List Nat) (s : Nat) (w : Int32) : Int32 := if 1 ≤ w.toInt ∧ w.toInt ≤ 5 then ct w.toInt.toNat else if w = 0 then nI ts.length else if w = 6 then nI cm.length - hz else if w = 7 then nI ((ac.map (rnF D)).sum + ((cm.drop s).map (rnF D)).sum) else if w = 8 then nI (B.map (fun y => keptN hz y.2)).sum else if w = 9 then nI (B.countP (fun y => decide (0 < keptN hz y.2))) else if w = 10 then hz else if w = 11 then nI cm.length else -1
theorem kr_count (q : Kr g h p G fv lr B V ts D ac cm ot ct rs d0 R cO) (hac : ∀ i ∈ ac, i < ts.length) (hcm : ∀ i ∈ cm, i < ts.length) (N : Nat) (hN : 100000 < N) {s : Nat} (hs : hzn D ac cm = nI s) (hsc : s ≤ cm.length) (w : Int32) : J_X9_count N (p 11) h w = some (h, cntV ct (hzn D ac cm) B ts D ac cm s w) := by
  have hcl : cm.length < 100000 := by have := q.2.2.2.2.1.2.2.1; rw [List.length_map] at this; exact this
  have hal : ac.length < 100000 := by have := q.2.2.2.1.2.2.1; rw [List.length_map] at this; exact this
  have hB := sh_len q.2.1.2.1
  have hr := i32_rng w
  unfold J_X9_count B_X9_count_0 cntV
  by_cases c0 : 1 ≤ w.toInt ∧ w.toInt ≤ 5
  · rw [if_pos c0]
    refine (if_neg (by rw [Int32.lt_iff_toInt_lt, i1]; omega)).trans ?_
    refine (if_neg (by rw [Int32.lt_iff_toInt_lt, show (5 : Int32).toInt = 5 from rfl]; omega)).trans ?_
    refine (dr_e (by exact q.1.2.2.2.2.2.2.2.2.1) (by exact q.2.2.2.2.2.2.1.1)).trans ?_
    rw [q.2.2.2.2.2.2.1.2.2.1, show w.toNatClampNeg = w.toInt.toNat from rfl]
    refine (ck_eq (by exact fun z => z.elim (fun y => by rw [Int32.lt_iff_toInt_lt, i0] at y; omega) (fun y => by omega))).trans ?_
    rw [q.2.2.2.2.2.2.1.2.2.2]
  · rw [if_neg c0]
    have nw : ∀ {v : Int32}, 1 ≤ v.toInt ∧ v.toInt ≤ 5 → ¬ w = v := fun hv z => c0 (by rw [z]; exact hv)
    have body : B_X9_count_17 N (p 11) h w = some (h, if w = 0 then nI ts.length else if w = 6 then nI cm.length - hzn D ac cm else if w = 7 then nI ((ac.map (rnF D)).sum + ((cm.drop s).map (rnF D)).sum) else if w = 8 then nI (B.map (fun y => keptN (hzn D ac cm) y.2)).sum else if w = 9 then nI (B.countP (fun y => decide (0 < keptN (hzn D ac cm) y.2))) else if w = 10 then hzn D ac cm else if w = 11 then nI cm.length else -1) := by
      unfold B_X9_count_17
      by_cases c1 : w = 0
      · rw [if_pos c1, if_pos c1]
        refine (dr_e (by exact q.1.2.2.2.2.2.1) (by exact q.2.2.1.2.1)).trans ?_
        refine (bnd (by exact al_size q.2.2.1.2 N)).trans ?_
        rfl
      rw [if_neg c1, if_neg c1, if_neg (nw (v := 1) (by decide)), if_neg (nw (v := 2) (by decide)), if_neg (nw (v := 3) (by decide)), if_neg (nw (v := 4) (by decide)), if_neg (nw (v := 5) (by decide))]
      by_cases c6 : w = 6
      · rw [if_pos c6, if_pos c6]
        refine (dr_e (by exact q.1.2.2.2.2.2.2.2.1) (by exact q.2.2.2.2.1.2.1)).trans ?_
        refine (bnd (by exact al_size q.2.2.2.2.1.2 N)).trans ?_
        unfold B_X9_count_95
        refine (bnd (by exact kr_hzn q hac N)).trans ?_
        rw [List.length_map]
        rfl
      rw [if_neg c6, if_neg c6]
      by_cases c7 : w = 7
      · rw [if_pos c7, if_pos c7]
        have e := ar_act q hac hcm hcl hal N hN hs hsc ac.length 0 0 N rfl (Nat.zero_le _) (by omega)
        rw [List.drop_zero, Nat.zero_add] at e
        refine (bnd (by exact e)).trans ?_
        rfl
      rw [if_neg c7, if_neg c7]
      by_cases c8 : w = 8
      · rw [if_pos c8, if_pos c8]
        have e := kn_loop q N hN (hzn D ac cm) B.length 0 0 N rfl (Nat.zero_le _) (by omega)
        rw [List.drop_zero, Nat.zero_add] at e
        have e2 : J_X9_keptVersions N (p 11) h = some (h, nI (B.map (fun y => keptN (hzn D ac cm) y.2)).sum) := by
          unfold J_X9_keptVersions B_X9_keptVersions_0
          refine (bnd (by exact kr_hzn q hac N)).trans ?_
          exact e
        refine (bnd (by exact e2)).trans ?_
        rfl
      rw [if_neg c8, if_neg c8]
      by_cases c9 : w = 9
      · rw [if_pos c9, if_pos c9]
        have e := kk_loop q N hN (hzn D ac cm) B.length 0 0 N rfl (Nat.zero_le _) (by omega)
        rw [List.drop_zero, Nat.zero_add] at e
        have e2 : J_X9_keysWithVersions N (p 11) h = some (h, nI (B.countP (fun y => decide (0 < keptN (hzn D ac cm) y.2)))) := by
          unfold J_X9_keysWithVersions B_X9_keysWithVersions_0
          refine (bnd (by exact kr_hzn q hac N)).trans ?_
          exact e
        refine (bnd (by exact e2)).trans ?_
        rfl
      rw [if_neg c9, if_neg c9]
      by_cases c10 : w = 10
      · rw [if_pos c10, if_pos c10]
        refine (bnd (by exact kr_hzn q hac N)).trans ?_
        rfl
      rw [if_neg c10, if_neg c10]
      by_cases c11 : w = 11
      · rw [if_pos c11, if_pos c11]
        refine (dr_e (by exact q.1.2.2.2.2.2.2.2.1) (by exact q.2.2.2.2.1.2.1)).trans ?_
        refine (bnd (by exact al_size q.2.2.2.2.1.2 N)).trans ?_
        rw [List.length_map]
        rfl
      rw [if_neg c11, if_neg c11]
      rfl
    by_cases d1 : w < 1
    · rw [if_pos d1]; exact body
    · rw [if_neg d1]
      refine (if_pos (by rw [Int32.lt_iff_toInt_lt, show (5 : Int32).toInt = 5 from rfl]; rw [Int32.lt_iff_toInt_lt, i1] at d1; omega)).trans ?_
      exact body
end KCt
