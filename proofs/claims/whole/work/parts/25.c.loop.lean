def R_law : String := "RingKeeperLaw"
def lw_P (b : Addr) (xs : List Int32) (args : Array Value) (s : State) : Prop := args = #[.ref b] ∧ s.IntsAt b xs ∧ xs.length ≤ 2560 ∧ (Jvm.Cond.and given_1 narrow_1).before args s = true
def lw_Q (_ : Array Value) (s : State) (o : Outcome) (t : State) : Prop := o = .returned (some (.int 1)) ∧ Framed s o t [] 601024 7293034
def lw_Z (below : List Frame) (a : Array Value) (s : State) : State → Prop := fun t => ∃ o, t.status = .running ∧ Ended t below o ∧ lw_Q a s o t
/-- the law's own end, with 1 on the stack, nothing written that was there before, its room as the claim has it -/
theorem lw_ret {p : Program} {l : Launch} {e : Env} {s : State} {m : MethodId} {below : List Frame} {meth : Method} {c : Code} {b : Nat} (hx : p.tables.exec = Jvm.exec) (hb : c.code = code) (hr : meth.sig.returnType = ret) (hlocks : meth.locks = false) {pc : Nat} {H : Heap} {ls : Array Slot} (hdg : decode code pc = .ok (.ireturn, 1)) : W p l e room_1 s m #[Value.ref b] below meth c H [] 601024 7293034 (lw_Z below #[Value.ref b] s) (F0 m pc ls [.int 1]) := by
  intro T hT X
  obtain ⟨fs, hret, hrun, hended, hW, hframe⟩ := X.leave (v := some (.int 1)) (hlocks := hlocks) (fun h => by rw [hr] at h; cases h)
  have hmeth' : T.vm.method? m = some meth := X.method'
  refine ⟨T.setFrames fs, ?_, .returned (some (.int 1)), hrun, hended, rfl, ⟨_, rfl⟩, hW, hframe⟩
  jvm_step X.here [X.here.top, hx, hb, hdg, hmeth', hr, ret, narrow_b1]
  (try refine ⟨rfl, ?_⟩); (try refine ⟨rfl, ?_⟩)
  first | (intro acts; rw [hret _ acts rfl rfl rfl]) | rw [hret _ _ rfl rfl rfl]
  exact Steps.refl _
/-- what holds at the law's entry: the machine, the code, the tables' words (any of lw_tbl by 'hts w (by decide +kernel)'), the script of L ints xs at the cell b, what the Statement gives of the start (any of its parts by flat_of_before) -/
def lw_At (p : Program) (s : State) (m : MethodId) (meth : Method) (c : Code) (b L : Nat) (xs : Nat → Int32) : Prop :=
  p.tables.exec = Jvm.exec ∧ c.code = code ∧ meth.sig.returnType = ret ∧ c.maxLocals = 8 ∧ s.vm.findClass R_law = some m.cls ∧ (∀ w ∈ lw_tbl, w.before #[Value.ref b] s = true) ∧ va_X b L xs s s.heap ∧ b < s.heap.size ∧ meth.locks = false ∧ (Jvm.Cond.and given_1 narrow_1).before #[Value.ref b] s = true
/-- a round of the law over the abstract heap -/
def Lst (N X M O : Nat) (h : Hp) (op a b c d : Int32) (k : Hp → Nat → Nat → Prop) : Prop := if op = 0 then S_begin N X M h (bz a) k else (if op = 1 then S_read N X M O h a b k else (if op = 2 then S_near N X M O h a b (bz c) k else (if op = 3 then S_value N X M h k else (if op = 4 then S_key N X M h k else (if op = 5 then S_scan N X M O h a b c d k else (if op = 6 then S_rowKey N X M O h a k else (if op = 7 then S_rowValue N X M O h a k else (if op = 8 then S_write N X M O h a b (lv8 c d) k else (if op = 9 then S_remove N X M O h a b k else (if op = 10 then S_save N X M O h a k else (if op = 11 then S_undo N X M O h a b k else (if op = 12 then S_commit N X M O h a k else (if op = 13 then S_abort N X M O h a k else (if op = 14 then S_told N X M h a b k else (if op = 15 then S_why N X M h a k else (if op = 16 then S_version N X M h a b c k else (if op = 17 then S_versionValue N X M h a b k else (if op = 18 then S_count N X M h a k else (if op = 19 then S_astray N X M h k else (k h 0 0))))))))))))))))))))
theorem ip_pos {c : Prop} [Decidable c] {x y : Prop} (q : c) (e : if c then x else y) : x := by rw [if_pos q] at e; exact e
theorem ip_neg {c : Prop} [Decidable c] {x y : Prop} (q : ¬ c) (e : if c then x else y) : y := by rw [if_neg q] at e; exact e
theorem lw_head {p : Program} {l : Launch} {e : Env} {s : State} {m : MethodId} {below : List Frame} {meth : Method} {c : Code} {D : va_G} {cs : C4} {A : Nat → Prop} {se : Nat × Nat} {b L X M O j : Nat} {xs : Nat → Int32} {H : Heap} {locs : List Loc} {cells slots : Nat} {ls : Array Slot} {h : Hp} (E0 : Lc p l s m meth c D cs A se b L xs) (hAe : ∀ q, A q → s.heap.size ≤ q) (hj2 : 5 * j ≤ L + 5) (hc1 : cells ≤ 601024) (hs1 : slots ≤ 7293034) (w : Wz D cs A s h H locs) (hl : lv_has ls 8 [(0, .ref b), (1, .ref X), (2, .ref M), (3, .ref O), (4, .int (nI (5 * j)))])
    (kk : 5 * j + 5 ≤ L → W p l e RL1 s m #[Value.ref b] below meth c H locs cells slots (lw_Z below #[Value.ref b] s) (F0 m 39 ls [.int (xs (5 * j) &&& 31)])) : W p l e RL1 s m #[Value.ref b] below meth c H locs cells slots (lw_Z below #[Value.ref b] s) (F0 m 23 ls []) := by
  obtain ⟨C, hc3, hl0, hX, hbl, hbA, hL⟩ := id E0
  obtain ⟨hx, hb, hml, hown, hts, hK0, hA0, hrt, hlk, -⟩ := id C
  have hL1 : (nI L - 5).toInt = (L : Int) - 5 := by
    rw [show (5 : Int32) = nI 5 from rfl, Int32.toInt_sub, nI_toInt (by omega), nI_toInt (by omega)]
    exact Int.bmod_eq_of_le (by omega) (by omega)
  have hj1 : (nI (5 * j)).toInt = ((5 * j : Nat) : Int) := nI_toInt (by omega)
  refine lv_iload hx hb dL_law_23 (lv_at hl 4 rfl) ?_
  refine lv_aload_n hx hb dL_law_25 rfl (lv_at hl 0 rfl) ?_
  refine va_slen hx hb hX hbl hbA w.2.2.1 dL_law_26 ?_
  refine lv_iconst (v := (5 : Int32)) hx hb dL_law_27 (by decide) ?_
  refine lv_isub hx hb dL_law_28 ?_
  refine lv_icmp_gt (tgt := 1156) hx hb dL_law_29 (by decide) (fun c1 => ?_) (fun c1 => ?_)
  · refine lv_iconst (v := (1 : Int32)) hx hb dL_law_1156 (by decide) ?_
    refine va_forget (fun q hq => hAe _ (w.2.2.1.2.2 q hq)) ?_
    refine W.widen (k := 601024) (n := 7293034) hc1 hs1 ?_
    exact lw_ret hx hb hrt hlk dL_law_1157
  · have h5 : 5 * j + 5 ≤ L := by
      have c2 : ¬ (nI L - 5).toInt < (nI (5 * j)).toInt := fun z => c1 (Int32.lt_iff_toInt_lt.mpr z)
      rw [hL1, hj1] at c2
      omega
    refine lv_aload_n hx hb dL_law_32 rfl (lv_at hl 0 rfl) ?_
    refine lv_iload hx hb dL_law_33 (lv_at hl 4 rfl) ?_
    have q := ix_in (i := 5 * j) (L := L) (kn := 0) (kv := 0) h5 hL (by decide) rfl
    have e0 : nI (5 * j) + 0 = nI (5 * j) := nI_add (5 * j) 0
    rw [e0] at q
    refine va_sld hx hb hX hbl hbA w.2.2.1 q.2 dL_law_35 ?_
    rw [q.1]
    refine lv_bipush (v := (31 : Int32)) hx hb dL_law_36 (by decide) ?_
    refine lv_iand hx hb dL_law_38 ?_
    exact kk h5
set_option maxRecDepth 100000 in
set_option maxHeartbeats 8000000 in
theorem lw_loop {p : Program} {l : Launch} {e : Env} {s : State} {m : MethodId} {below : List Frame} {meth : Method} {c : Code} {D : va_G} {cs : C4} {A : Nat → Prop} {se : Nat × Nat} {b L N X M O : Nat} {xs : Nat → Int32} (E0 : Lc p l s m meth c D cs A se b L xs) (hAe : ∀ q, A q → s.heap.size ≤ q) (I : Nat → Hp → Nat → Nat → Prop)
    (hI1 : ∀ j h c1 s1, I j h c1 s1 → Lk h se X M O ∧ c1 ≤ 601024 ∧ s1 ≤ 7293034) (hI2 : ∀ j h c1 s1, 5 * j + 5 ≤ L → I j h c1 s1 → Lst N X M O h (xs (5 * j) &&& 31) (xs (5 * j + 1)) (xs (5 * j + 2)) (xs (5 * j + 3)) (xs (5 * j + 4)) (fun h1 c2 s2 => I (j + 1) h1 (c1 + c2) (s1 + s2))) :
    ∀ (n j : Nat), L < 5 * (j + n) + 5 → 5 * j ≤ L + 5 → ∀ (h : Hp) (cells slots : Nat) (H : Heap) (locs : List Loc) (ls : Array Slot), I j h cells slots → Wz D cs A s h H locs → lv_has ls 8 [(0, .ref b), (1, .ref X), (2, .ref M), (3, .ref O), (4, .int (nI (5 * j)))] → W p l e RL1 s m #[Value.ref b] below meth c H locs cells slots (lw_Z below #[Value.ref b] s) (F0 m 23 ls []) := by
  intro n
  induction n with
  | zero =>
    intro j hj hj2 h cells slots H locs ls hI w hl
    have hI3 := hI1 j h cells slots hI
    exact lw_head E0 hAe hj2 hI3.2.1 hI3.2.2 w hl (fun h5 => by omega)
  | succ n ih =>
    intro j hj hj2 h cells slots H locs ls hI w hl
    have hI3 := hI1 j h cells slots hI
    refine lw_head E0 hAe hj2 hI3.2.1 hI3.2.2 w hl (fun h5 => ?_)
    obtain ⟨C, hc3, hl0, hX, hbl, hbA, hL⟩ := id E0
    obtain ⟨hx, hb, hml, hown, hts, -⟩ := id C
    have hS := hI2 j h cells slots h5 hI
    have kb : Kb (I (j + 1)) := fun h1 c1 s1 q => (hI1 (j + 1) h1 c1 s1 q).2
    have kk : Kk p l e s m below meth c (lw_Z below #[Value.ref b] s) D cs A b (5 * j) X M O (I (j + 1)) := by
      intro h1 c1 s1 H1 locs1 ls1 hk w1 hl1
      refine lv_iinc (v := nI (5 * (j + 1))) (lv' := [(4, .int (nI (5 * (j + 1)))), (0, .ref b), (1, .ref X), (2, .ref M), (3, .ref O)]) hx hb dL_law_1150 hl1 (k := 4) rfl (by rw [show 5 * (j + 1) = 5 * j + 5 by omega]; exact nI_add (5 * j) 5) (by decide) rfl (fun ls2 hl2 => ?_)
      refine lv_goto (tgt := 23) hx hb dL_law_1153 (by decide) ?_
      exact ih (j + 1) (by omega) (by omega) h1 c1 s1 H1 locs1 ls2 hk w1 (lv_sub (l' := [(0, .ref b), (1, .ref X), (2, .ref M), (3, .ref O), (4, .int (nI (5 * (j + 1))))]) hl2 [1, 2, 3, 4, 0] rfl)
    unfold Lst at hS
    by_cases c0 : xs (5 * j) &&& 31 = 0
    · have hS := ip_pos c0 hS
      refine lv_tableIn (tgt := 132) hx hb dL_law_39 (by rw [c0]; decide) (by rw [c0]; decide) (off := 93) (by rw [c0]; rfl) (by decide) ?_
      exact lc_begin E0 h5 hI3.1 kb kk hS w hl
    have hS := ip_neg c0 hS
    by_cases c1 : xs (5 * j) &&& 31 = 1
    · have hS := ip_pos c1 hS
      refine lv_tableIn (tgt := 173) hx hb dL_law_39 (by rw [c1]; decide) (by rw [c1]; decide) (off := 134) (by rw [c1]; rfl) (by decide) ?_
      exact lc_read E0 h5 hI3.1 kb kk hS w hl
    have hS := ip_neg c1 hS
    by_cases c2 : xs (5 * j) &&& 31 = 2
    · have hS := ip_pos c2 hS
      refine lv_tableIn (tgt := 241) hx hb dL_law_39 (by rw [c2]; decide) (by rw [c2]; decide) (off := 202) (by rw [c2]; rfl) (by decide) ?_
      exact lc_near E0 h5 hI3.1 kb kk hS w hl
    have hS := ip_neg c2 hS
    by_cases c3 : xs (5 * j) &&& 31 = 3
    · have hS := ip_pos c3 hS
      refine lv_tableIn (tgt := 337) hx hb dL_law_39 (by rw [c3]; decide) (by rw [c3]; decide) (off := 298) (by rw [c3]; rfl) (by decide) ?_
      exact lc_value E0 h5 hI3.1 kb kk hS w hl
    have hS := ip_neg c3 hS
    by_cases c4 : xs (5 * j) &&& 31 = 4
    · have hS := ip_pos c4 hS
      refine lv_tableIn (tgt := 351) hx hb dL_law_39 (by rw [c4]; decide) (by rw [c4]; decide) (off := 312) (by rw [c4]; rfl) (by decide) ?_
      exact lc_key E0 h5 hI3.1 kb kk hS w hl
    have hS := ip_neg c4 hS
    by_cases c5 : xs (5 * j) &&& 31 = 5
    · have hS := ip_pos c5 hS
      refine lv_tableIn (tgt := 364) hx hb dL_law_39 (by rw [c5]; decide) (by rw [c5]; decide) (off := 325) (by rw [c5]; rfl) (by decide) ?_
      exact lc_scan E0 h5 hI3.1 kb kk hS w hl
    have hS := ip_neg c5 hS
    by_cases c6 : xs (5 * j) &&& 31 = 6
    · have hS := ip_pos c6 hS
      refine lv_tableIn (tgt := 456) hx hb dL_law_39 (by rw [c6]; decide) (by rw [c6]; decide) (off := 417) (by rw [c6]; rfl) (by decide) ?_
      exact lc_rowKey E0 h5 hI3.1 kb kk hS w hl
    have hS := ip_neg c6 hS
    by_cases c7 : xs (5 * j) &&& 31 = 7
    · have hS := ip_pos c7 hS
      refine lv_tableIn (tgt := 512) hx hb dL_law_39 (by rw [c7]; decide) (by rw [c7]; decide) (off := 473) (by rw [c7]; rfl) (by decide) ?_
      exact lc_rowValue E0 h5 hI3.1 kb kk hS w hl
    have hS := ip_neg c7 hS
    by_cases c8 : xs (5 * j) &&& 31 = 8
    · have hS := ip_pos c8 hS
      refine lv_tableIn (tgt := 567) hx hb dL_law_39 (by rw [c8]; decide) (by rw [c8]; decide) (off := 528) (by rw [c8]; rfl) (by decide) ?_
      exact lc_write E0 h5 hI3.1 kb kk hS w hl
    have hS := ip_neg c8 hS
    by_cases c9 : xs (5 * j) &&& 31 = 9
    · have hS := ip_pos c9 hS
      refine lv_tableIn (tgt := 679) hx hb dL_law_39 (by rw [c9]; decide) (by rw [c9]; decide) (off := 640) (by rw [c9]; rfl) (by decide) ?_
      exact lc_remove E0 h5 hI3.1 kb kk hS w hl
    have hS := ip_neg c9 hS
    by_cases c10 : xs (5 * j) &&& 31 = 10
    · have hS := ip_pos c10 hS
      refine lv_tableIn (tgt := 747) hx hb dL_law_39 (by rw [c10]; decide) (by rw [c10]; decide) (off := 708) (by rw [c10]; rfl) (by decide) ?_
      exact lc_save E0 h5 hI3.1 kb kk hS w hl
    have hS := ip_neg c10 hS
    by_cases c11 : xs (5 * j) &&& 31 = 11
    · have hS := ip_pos c11 hS
      refine lv_tableIn (tgt := 803) hx hb dL_law_39 (by rw [c11]; decide) (by rw [c11]; decide) (off := 764) (by rw [c11]; rfl) (by decide) ?_
      exact lc_undo E0 h5 hI3.1 kb kk hS w hl
    have hS := ip_neg c11 hS
    by_cases c12 : xs (5 * j) &&& 31 = 12
    · have hS := ip_pos c12 hS
      refine lv_tableIn (tgt := 871) hx hb dL_law_39 (by rw [c12]; decide) (by rw [c12]; decide) (off := 832) (by rw [c12]; rfl) (by decide) ?_
      exact lc_commit E0 h5 hI3.1 kb kk hS w hl
    have hS := ip_neg c12 hS
    by_cases c13 : xs (5 * j) &&& 31 = 13
    · have hS := ip_pos c13 hS
      refine lv_tableIn (tgt := 927) hx hb dL_law_39 (by rw [c13]; decide) (by rw [c13]; decide) (off := 888) (by rw [c13]; rfl) (by decide) ?_
      exact lc_abort E0 h5 hI3.1 kb kk hS w hl
    have hS := ip_neg c13 hS
    by_cases c14 : xs (5 * j) &&& 31 = 14
    · have hS := ip_pos c14 hS
      refine lv_tableIn (tgt := 963) hx hb dL_law_39 (by rw [c14]; decide) (by rw [c14]; decide) (off := 924) (by rw [c14]; rfl) (by decide) ?_
      exact lc_told E0 h5 hI3.1 kb kk hS w hl
    have hS := ip_neg c14 hS
    by_cases c15 : xs (5 * j) &&& 31 = 15
    · have hS := ip_pos c15 hS
      refine lv_tableIn (tgt := 1000) hx hb dL_law_39 (by rw [c15]; decide) (by rw [c15]; decide) (off := 961) (by rw [c15]; rfl) (by decide) ?_
      exact lc_why E0 h5 hI3.1 kb kk hS w hl
    have hS := ip_neg c15 hS
    by_cases c16 : xs (5 * j) &&& 31 = 16
    · have hS := ip_pos c16 hS
      refine lv_tableIn (tgt := 1025) hx hb dL_law_39 (by rw [c16]; decide) (by rw [c16]; decide) (off := 986) (by rw [c16]; rfl) (by decide) ?_
      exact lc_version E0 h5 hI3.1 kb kk hS w hl
    have hS := ip_neg c16 hS
    by_cases c17 : xs (5 * j) &&& 31 = 17
    · have hS := ip_pos c17 hS
      refine lv_tableIn (tgt := 1074) hx hb dL_law_39 (by rw [c17]; decide) (by rw [c17]; decide) (off := 1035) (by rw [c17]; rfl) (by decide) ?_
      exact lc_versionValue E0 h5 hI3.1 kb kk hS w hl
    have hS := ip_neg c17 hS
    by_cases c18 : xs (5 * j) &&& 31 = 18
    · have hS := ip_pos c18 hS
      refine lv_tableIn (tgt := 1112) hx hb dL_law_39 (by rw [c18]; decide) (by rw [c18]; decide) (off := 1073) (by rw [c18]; rfl) (by decide) ?_
      exact lc_count E0 h5 hI3.1 kb kk hS w hl
    have hS := ip_neg c18 hS
    by_cases c19 : xs (5 * j) &&& 31 = 19
    · have hS := ip_pos c19 hS
      refine lv_tableIn (tgt := 1137) hx hb dL_law_39 (by rw [c19]; decide) (by rw [c19]; decide) (off := 1098) (by rw [c19]; rfl) (by decide) ?_
      exact lc_astray E0 h5 hI3.1 kb kk hS w hl
    have hS := ip_neg c19 hS
    refine lv_tableOut (tgt := 1150) hx hb dL_law_39 (by have := ne_ti (n := 0) rfl c0; have := ne_ti (n := 1) rfl c1; have := ne_ti (n := 2) rfl c2; have := ne_ti (n := 3) rfl c3; have := ne_ti (n := 4) rfl c4; have := ne_ti (n := 5) rfl c5; have := ne_ti (n := 6) rfl c6; have := ne_ti (n := 7) rfl c7; have := ne_ti (n := 8) rfl c8; have := ne_ti (n := 9) rfl c9; have := ne_ti (n := 10) rfl c10; have := ne_ti (n := 11) rfl c11; have := ne_ti (n := 12) rfl c12; have := ne_ti (n := 13) rfl c13; have := ne_ti (n := 14) rfl c14; have := ne_ti (n := 15) rfl c15; have := ne_ti (n := 16) rfl c16; have := ne_ti (n := 17) rfl c17; have := ne_ti (n := 18) rfl c18; have := ne_ti (n := 19) rfl c19;  omega) (by decide) ?_
    exact kk _ _ _ _ _ _ hS w hl
