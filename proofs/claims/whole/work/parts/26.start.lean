theorem uw0_e : u_ws RJ0 TJ0 4 = [Cond.laysFinal "java/lang/String" "java/lang/String" "value" "[B", Cond.laysFinal "java/lang/String" "java/lang/String" "coder" "B", Cond.lays "java/lang/String" "java/lang/String" "hash" "I", Cond.lays "java/lang/String" "java/lang/String" "hashIsZero" "Z"] := by decide +kernel
theorem uw0 : ∀ w ∈ u_ws RJ0 TJ0 4, w ∈ TB := by rw [uw0_e]; exact (fa_c tw_4_232 (fa_c tw_4_234 (fa_c tw_4_236 (fa_c tw_4_238 fa_n))))
theorem uw1_e : u_ws RJ4 TJ4 4 = [Cond.lays "java/lang/StringBuilder" "java/lang/AbstractStringBuilder" "value" "[B", Cond.lays "java/lang/StringBuilder" "java/lang/AbstractStringBuilder" "coder" "B", Cond.lays "java/lang/StringBuilder" "java/lang/AbstractStringBuilder" "maybeLatin1" "Z", Cond.lays "java/lang/StringBuilder" "java/lang/AbstractStringBuilder" "count" "I"] := by decide +kernel
theorem uw1 : ∀ w ∈ u_ws RJ4 TJ4 4, w ∈ TB := by rw [uw1_e]; exact (fa_c tw_3_239 (fa_c tw_4_1 (fa_c tw_4_3 (fa_c tw_4_5 fa_n))))
def he (n0 : Nat) (se : Nat × Nat) : Hp := (n0, 0, se, fun _ => 0, fun _ _ => 0, fun _ _ => 0, fun _ _ => none, fun _ => 0, fun _ _ => 0, fun _ _ => 0, fun _ _ => none, fun _ _ => 0, fun _ _ => 0, fun _ _ => none, fun _ _ => 0, fun _ _ => 0)
/-- what is left: class and reference answer alike over the abstract heap, within the room -/
def Agree : Prop := ∀ (n0 : Nat) (se : Nat × Nat) (L : Nat) (xs : Nat → Int32), L ≤ 2560 → se.1 < n0 → ∃ (N : Nat) (h1 h2 : Hp) (I : Nat → Hp → Nat → Nat → Prop), J_X9_init N n0 ((he n0 se).new 12 0 14) = some (h1, ()) ∧ J_X10_init N h1.nx (h1.new 13 0 67) = some (h2, ()) ∧ I 0 (h2.new 21 1 1) (h2.nx + 1 - n0) (h2.su + 1) ∧ (∀ j h c1 s1, I j h c1 s1 → Lk h se n0 h1.nx h2.nx ∧ c1 ≤ 601024 ∧ s1 ≤ 7293034) ∧
  (∀ j h c1 s1, 5 * j + 5 ≤ L → I j h c1 s1 → Lst N n0 h1.nx h2.nx h (xs (5 * j) &&& 31) (xs (5 * j + 1)) (xs (5 * j + 2)) (xs (5 * j + 3)) (xs (5 * j + 4)) (fun h9 c2 s2 => I (j + 1) h9 (c1 + c2) (s1 + s2)))
theorem st_arr {args : Array Value} {s : State} {ty : FieldType} (h : (Cond.arrayClass ty).before args s = true) : ∃ cA : ClassId, ArrOfT s cA ty ∧ s.vm.findClass ("[" ++ ty.toString) = some cA := by
  obtain ⟨c, k, comp, h1, h2, h3⟩ := Cond.arrayClass_spec h
  exact ⟨c, fun n z => ⟨fun k h => (by cases h), k, h2, comp, h3⟩, h1⟩
theorem st_str {args : Array Value} {s : State} {own tx : String} {k : Nat} (h1 : (Cond.stringRef own k tx).before args s = true) (h2 : (Cond.exactly (.string own k) "java/lang/String").before args s = true) : ∃ a, vk_R own k tx a s := by
  obtain ⟨a, c, cA, kA, q1, -⟩ := Cond.exactly_spec (args := args) (first := s) (o := none) (s := s) (idx := []) (t := .string own k) (cls := "java/lang/String") h2
  exact ⟨a, vk_R.of h1 q1⟩
theorem Wo.z {D : va_G} {cs : C4} {A : Nat → Prop} {s : State} {h0 h : Hp} {H : Heap} {locs : List Loc} {cells slots : Nat} (w : Wo D cs A s h0 h H locs cells slots) : Wz D cs A s h H locs := ⟨w.1, w.2.1, w.2.2.1, w.2.2.2.1, w.2.2.2.2.1, Nat.zero_add _, Nat.zero_add _, rfl⟩
theorem st_K {args : Array Value} {s : State} (hts : ∀ w ∈ TB, w.before args s = true) (hts0 : ∀ w ∈ lw_tbl, w.before args s = true) : ∃ (D : va_G) (cs : C4), va_K D vwCl (tyl cs) s := by
  obtain ⟨c0, i0, k0⟩ := u_known (C := RJ0) (T := TJ0) (N := 4) (n := 4) hts uw0 (hts _ tw_4_146)
  obtain ⟨c1, i1, k1⟩ := u_known (C := RJ4) (T := TJ4) (N := 4) (n := 4) hts uw1 (hts _ tw_3_218)
  obtain ⟨c2, i2, k2⟩ := u_known (C := RJx4a65c) (T := TJx4a65c) (N := 3) (n := 3) hts uw2 (hts _ tw_1_50)
  obtain ⟨c3, i3, k3⟩ := u_known (C := RX0) (T := TX0) (N := 10) (n := 10) hts uw3 (hts _ tw_1_82)
  obtain ⟨c4, i4, k4⟩ := u_known (C := RX1) (T := TX1) (N := 6) (n := 6) hts uw4 (hts _ tw_3_7)
  obtain ⟨c5, i5, k5⟩ := u_known (C := RX2) (T := TX2) (N := 7) (n := 7) hts uw5 (hts _ tw_5_132)
  obtain ⟨c6, i6, k6⟩ := u_known (C := RX3) (T := TX3) (N := 2) (n := 2) hts uw6 (hts _ tw_3_142)
  obtain ⟨c7, i7, k7⟩ := u_known (C := RX4) (T := TX4) (N := 5) (n := 5) hts uw7 (hts _ tw_5_9)
  obtain ⟨c8, i8, k8⟩ := u_known (C := RX5) (T := TX5) (N := 1) (n := 1) hts uw8 (hts _ tw_1_44)
  obtain ⟨c9, i9, k9⟩ := u_known (C := RX6) (T := TX6) (N := 3) (n := 3) hts uw9 (hts _ tw_1_228)
  obtain ⟨c10, i10, k10⟩ := u_known (C := RX7) (T := TX7) (N := 11) (n := 11) hts uw10 (hts _ tw_1_222)
  obtain ⟨c11, i11, k11⟩ := u_known (C := RX8) (T := TX8) (N := 7) (n := 7) hts uw11 (hts _ tw_1_188)
  obtain ⟨c12, i12, k12⟩ := u_known (C := RX9) (T := TX9) (N := 14) (n := 14) hts uw12 (hts _ tw_1_36)
  obtain ⟨c13, i13, k13⟩ := u_known (C := RX10) (T := TX10) (N := 67) (n := 67) hts uw13 (hts _ tw_6_157)
  obtain ⟨a0, b0, d0⟩ := st_arr (hts _ tw_1_130)
  obtain ⟨a1, b1, d1⟩ := st_arr (hts _ tw_1_131)
  obtain ⟨a2, b2, d2⟩ := st_arr (hts _ tw_7_125)
  obtain ⟨comp, a3, kA, e1, e2, e3, e4, e5⟩ := Cond.arrayOver_spec (hts0 _ (tm_2 _ (List.mem_of_getElem? (i := 140) rfl)))
  refine ⟨(fun k => match k with | 0 => c0 | 1 => c1 | 2 => c2 | 3 => c3 | 4 => c4 | 5 => c5 | 6 => c6 | 7 => c7 | 8 => c8 | 9 => c9 | 10 => c10 | 11 => c11 | 12 => c12 | 13 => c13 | _ => c0, fun k => match k with | 0 => i0 | 1 => i1 | 2 => i2 | 3 => i3 | 4 => i4 | 5 => i5 | 6 => i6 | 7 => i7 | 8 => i8 | 9 => i9 | 10 => i10 | 11 => i11 | 12 => i12 | 13 => i13 | _ => i0), (a0, a1, a2, a3), fun k q hq => ?_, fun k q hq => ?_⟩
  · match k, hq with
    | 0, hq => cases hq; exact k0
    | 1, hq => cases hq; exact k1
    | 2, hq => cases hq; exact k2
    | 3, hq => cases hq; exact k3
    | 4, hq => cases hq; exact k4
    | 5, hq => cases hq; exact k5
    | 6, hq => cases hq; exact k6
    | 7, hq => cases hq; exact k7
    | 8, hq => cases hq; exact k8
    | 9, hq => cases hq; exact k9
    | 10, hq => cases hq; exact k10
    | 11, hq => cases hq; exact k11
    | 12, hq => cases hq; exact k12
    | 13, hq => cases hq; exact k13
    | k + 14, hq => simp [vwCl] at hq
  · match k, hq with
    | 0, hq => cases hq; exact ⟨b0, d0⟩
    | 1, hq => cases hq; exact ⟨b1, d1⟩
    | 2, hq => cases hq; exact ⟨b2, d2⟩
    | 3, hq => cases hq; exact ⟨fun n z => ⟨fun k h => (by cases h), kA, e3, comp, e4⟩, kA, comp, e3, e4, e1, e5⟩
    | k + 4, hq => simp [tyl] at hq
theorem st_rest {b : Nat} {s : State} (hts0 : ∀ w ∈ lw_tbl, w.before #[Value.ref b] s = true) (hts : ∀ w ∈ TB, w.before #[Value.ref b] s = true) (hgv : (Jvm.Cond.and given_1 narrow_1).before #[Value.ref b] s = true) : (∃ se : Nat × Nat, stE se.1 (fun q : Nat => s.heap.size ≤ q) s s.heap ∧ Nw se.2 s) ∧ Nc3 s := by
  have hg := flat_of_before _ hgv
  have hA : ∀ a : Nat, a < s.heap.size → ¬ (fun q : Nat => s.heap.size ≤ q) a := fun a h => Nat.not_le.mpr h
  obtain ⟨mi, hmi⟩ := va_Mi.of (C := "[Ljava/lang/Object;") (hg _ (by decide +kernel))
  obtain ⟨t, ht, hT⟩ := va_Tof (args := #[Value.ref b]) (s := s) (tm := .static "java/util/ArrayList" "DEFAULTCAPACITY_EMPTY_ELEMENTDATA" "[Ljava/lang/Object;") (ty := .object "java/lang/Object") (N := 0) (f := fun _ => .null) (A := fun q : Nat => s.heap.size ≤ q) (by decide) (hg _ (by decide +kernel)) (va_eqt (show (Cond.eq (.length (.static "java/util/ArrayList" "DEFAULTCAPACITY_EMPTY_ELEMENTDATA" "[Ljava/lang/Object;")) (.int (Int32.ofNat 0))).before #[Value.ref b] s = true from hg _ (by decide +kernel))) (fun j hj => absurd hj (Nat.not_lt_zero j)) hA
  refine ⟨⟨(t, mi), ⟨va_Zref (hts0 _ (tm_1 _ (List.mem_of_getElem? (i := 62) rfl))) (hts _ tw_1_5) ht hA, hT, vx_Zqof (hts0 _ (tm_3 _ (List.mem_of_getElem? (i := 197) rfl))) (hts _ tw_1_17) (hg _ (by decide +kernel)) hA, vx_Zqof (hts0 _ (tm_3 _ (List.mem_of_getElem? (i := 199) rfl))) (hts _ tw_1_17) (hg _ (by decide +kernel)) hA⟩, ?_⟩, va_Nc.of (hg _ (by decide +kernel)), va_Nc.of (hg _ (by decide +kernel)), va_Nc.of (hg _ (by decide +kernel))⟩
  exact ⟨hmi, va_Dc.of (hts0 _ (tm_8 _ (List.mem_of_getElem? (i := 175) rfl))), va_AO.of (hts0 _ (tm_2 _ (List.mem_of_getElem? (i := 140) rfl))), va_Nw.of rfl (hts0 _ (tm_1 _ (List.mem_of_getElem? (i := 45) rfl))), va_Nw.of rfl (hts0 _ (tm_1 _ (List.mem_of_getElem? (i := 194) rfl))), va_Nw.of rfl (hts0 _ (tm_1 _ (List.mem_of_getElem? (i := 229) rfl))), va_Nw.of rfl (hts0 _ (tm_3 _ (List.mem_of_getElem? (i := 79) rfl))), va_Nw.of rfl (hts0 _ (tm_8 _ (List.mem_of_getElem? (i := 181) rfl))), va_Nw.of rfl (hts0 _ (tm_8 _ (List.mem_of_getElem? (i := 184) rfl))), va_Nw.of rfl (hts0 _ (tm_8 _ (List.mem_of_getElem? (i := 183) rfl))), va_Nw.of rfl (hts0 _ (tm_3 _ (List.mem_of_getElem? (i := 174) rfl))), va_Nw.of rfl (hts0 _ (tm_3 _ (List.mem_of_getElem? (i := 176) rfl))), va_Nw.of rfl (hts0 _ (tm_3 _ (List.mem_of_getElem? (i := 178) rfl))), va_Nw.of rfl (hts0 _ (tm_5 _ (List.mem_of_getElem? (i := 117) rfl))), va_Nw.of rfl (hts0 _ (tm_4 _ (List.mem_of_getElem? (i := 179) rfl))), va_Nw.of rfl (hts0 _ (tm_6 _ (List.mem_of_getElem? (i := 37) rfl))), va_Nw.of rfl (hts0 _ (tm_6 _ (List.mem_of_getElem? (i := 72) rfl))), va_Nw.of rfl (hts0 _ (tm_3 _ (List.mem_of_getElem? (i := 172) rfl))), st_str (hts0 _ (tm_5 _ (List.mem_of_getElem? (i := 124) rfl))) (hg _ (by decide +kernel)), st_str (hts0 _ (tm_6 _ (List.mem_of_getElem? (i := 79) rfl))) (hg _ (by decide +kernel)), st_str (hts0 _ (tm_6 _ (List.mem_of_getElem? (i := 23) rfl))) (hg _ (by decide +kernel)), st_str (hts0 _ (tm_6 _ (List.mem_of_getElem? (i := 25) rfl))) (hg _ (by decide +kernel)), st_str (hts0 _ (tm_6 _ (List.mem_of_getElem? (i := 44) rfl))) (hg _ (by decide +kernel)), st_str (hts0 _ (tm_6 _ (List.mem_of_getElem? (i := 110) rfl))) (hg _ (by decide +kernel))⟩
set_option maxRecDepth 100000 in
set_option maxHeartbeats 4000000 in
theorem whole_from (hAg : Agree) {p : Program} {e : Env} {s : State} {m : MethodId} {below : List Frame} {meth : Method} {c : Code} (l : Launch) (hl0 : l.stackTraces = false) {b L : Nat} {xs : Nat → Int32} (hL : L ≤ 2560) (C0 : lw_At p s m meth c b L xs) : W p l e room_1 s m #[Value.ref b] below meth c s.heap [] 0 0 (lw_Z below #[Value.ref b] s) (entryFrame m ([Value.ref b] : List Value).toArray 8) := by
  show W p l e RL1 s m #[Value.ref b] below meth c s.heap [] 0 0 (lw_Z below #[Value.ref b] s) (entryFrame m ([Value.ref b] : List Value).toArray 8)
  obtain ⟨hx, hb, hr, hml, hown, hts0, hX, hbl, hlocks, hgv⟩ := id C0
  have hts : ∀ w ∈ TB, w.before #[Value.ref b] s = true := fun w h => hts0 w (tb_in h)
  have hbA : ¬ (fun q : Nat => s.heap.size ≤ q) b := Nat.not_le.mpr hbl
  obtain ⟨D, cs, hK⟩ := st_K hts hts0
  obtain ⟨⟨se, hse, hN⟩, hc3⟩ := st_rest hts0 hts hgv
  obtain ⟨N, h1, h2, I, e1, e2, hI0, hI1, hI2⟩ := hAg s.heap.size se L xs hL (by obtain ⟨-, ⟨z0, z1, z2, z3, z4, z5, z6, z7⟩, -⟩ := hse; exact Nat.not_le.mp z7)
  have C : Cx p s m #[Value.ref b] meth c cL_law 8 (some .boolean) RL D cs (fun q : Nat => s.heap.size ≤ q) se := ⟨hx, hb, hml, hown, hts, hK, fun _ h => h, hr, hlocks, hse, hN⟩
  have w : Wo D cs (fun q : Nat => s.heap.size ≤ q) s (he s.heap.size se) (he s.heap.size se) s.heap [] 0 0 := ⟨fun a ha => absurd rfl ha, fun a ha => absurd rfl ha, va_S.rf, rfl, fun _ _ => rfl, Nat.zero_add _, Nat.zero_add _, rfl⟩
  have hl := lv_entry ([.ref b]) (n := 8) (Nat.le_of_ble_eq_true rfl)
  rw [lg_entry_eq]
  generalize (lg_sl ([.ref b]) ++ List.replicate (8 - (lg_sl ([.ref b])).length) Slot.unset).toArray = ls at hl ⊢
  have hl : lv_has ls 8 [(0, .ref b)] := hl
  have m1 := mo_X9_init N s.heap.size ((he s.heap.size se).new 12 0 14) e1
  have m2 := mo_X10_init N h1.nx (h1.new 13 0 67) e2
  have hb0 := (hI1 _ _ _ _ hI0).2
  obtain ⟨h3, hh3⟩ : ∃ z, z = h2.new 21 1 1 := ⟨_, rfl⟩
  have m3 : Mo h2 h3 := by rw [hh3]; exact Mo.new h2 21 1 1
  have x3 : h3.nx = h2.nx + 1 := by rw [hh3]; rfl
  have y3 : h3.su = h2.su + 1 := by rw [hh3]; rfl
  have n0 : (he s.heap.size se).nx = s.heap.size := rfl
  have u0 : (he s.heap.size se).su = 0 := rfl
  have hz2 : h3.nx ≤ (he s.heap.size se).nx + 601024 ∧ h3.su ≤ (he s.heap.size se).su + 7293034 := by
    rw [n0, u0, x3, y3]
    omega
  have m02 : Mo (h1.new 13 0 67) h3 := m2.tr m3
  have m01 : Mo ((he s.heap.size se).new 12 0 14) h3 := m1.tr ((Mo.new h1 13 0 67).tr m02)
  refine fn_12 C w m01 hz2 tw_1_35 dL_law_0 (fun H w => ?_)
  have hk0 : ((he s.heap.size se).new 12 0 14).kd s.heap.size = 12 := va_up_self _ _ _
  refine lv_dup hx hb dL_law_3 (rf_cat _) ?_
  refine jc_I (As := []) (hz := h3) C w (cc_X9_init N s.heap.size ((he s.heap.size se).new 12 0 14) hk0 e1) m1 ((Mo.new h1 13 0 67).tr m02) hz2 tw_1_39 tw_1_37 tw_1_38 tw_1_1 rfl cd_X9_init ⟨by decide, by decide⟩ hl.1 (by first | exact Nat.le_of_ble_eq_true rfl | simp [rf_cat, cat_i, cat_l, cat_r]) rfl dL_law_4 (fun H locs w1 => ?_)
  have w := w1
  refine lv_astore_n (i := 1) (lv' := [(1, .ref s.heap.size), (0, .ref b)]) hx hb dL_law_7 rfl hl (by decide) rfl (fun ls hl => ?_)
  refine fn_13 C w m02 hz2 tw_6_156 dL_law_8 (fun H w => ?_)
  have hk0 : (h1.new 13 0 67).kd h1.nx = 13 := va_up_self _ _ _
  refine lv_dup hx hb dL_law_11 (rf_cat _) ?_
  refine jc_I (As := []) (hz := h3) C w (cc_X10_init N h1.nx (h1.new 13 0 67) hk0 e2) m2 m3 hz2 tw_6_160 tw_6_158 tw_6_159 tw_1_7 rfl cd_X10_init ⟨by decide, by decide⟩ hl.1 (by first | exact Nat.le_of_ble_eq_true rfl | simp [rf_cat, cat_i, cat_l, cat_r]) rfl dL_law_12 (fun H locs w1 => ?_)
  have w := w1
  refine lv_astore_n (i := 2) (lv' := [(2, .ref h1.nx), (1, .ref s.heap.size), (0, .ref b)]) hx hb dL_law_15 rfl hl (by decide) rfl (fun ls hl => ?_)
  refine lv_iconst (v := (1 : Int32)) hx hb dL_law_16 (by decide) ?_
  refine fa_21 (n := (1 : Int32)) C w ⟨by decide, by decide⟩ (hz := h3) (by rw [hh3]; exact Mo.rf _) hz2 dL_law_17 (fun H w => ?_)
  refine lv_astore_n (i := 3) (lv' := [(3, .ref h2.nx), (2, .ref h1.nx), (1, .ref s.heap.size), (0, .ref b)]) hx hb dL_law_19 rfl hl (by decide) rfl (fun ls hl => ?_)
  refine lv_iconst (v := (0 : Int32)) hx hb dL_law_20 (by decide) ?_
  refine lv_istore (i := 4) (lv' := [(4, .int 0), (3, .ref h2.nx), (2, .ref h1.nx), (1, .ref s.heap.size), (0, .ref b)]) hx hb dL_law_21 hl (by decide) rfl (fun ls hl => ?_)
  have hl := lv_sub (l' := [(0, .ref b), (1, .ref s.heap.size), (2, .ref h1.nx), (3, .ref h2.nx), (4, .int (nI (5 * 0)))]) hl [4, 3, 2, 1, 0] rfl
  have w9 : Wo D cs (fun q : Nat => s.heap.size ≤ q) s (he s.heap.size se) (h2.new 21 1 1) H _ _ _ := w
  have w6 := w9.2.2.2.2.2.1
  have w7 := w9.2.2.2.2.2.2.1
  have x4 : (h2.new 21 1 1).nx = h2.nx + 1 := rfl
  have y4 : (h2.new 21 1 1).su = h2.su + 1 := rfl
  rw [n0, x4] at w6
  rw [u0, y4] at w7
  refine W.widen (k := h2.nx + 1 - s.heap.size) (n := h2.su + 1) (by omega) (by omega) ?_
  exact lw_loop ⟨C, hc3, hl0, hX, hbl, hbA, hL⟩ (fun _ h => h) I hI1 hI2 512 0 (by omega) (by omega) (h2.new 21 1 1) _ _ H _ ls hI0 w9.z hl
