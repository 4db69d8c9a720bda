section G_xX9_activeOne
variable {p : Program} {l : Launch} {e : Env} {s : State} {m : MethodId} {args : Array Value} {below : List Frame} {meth : Method} {c : Code} {D : va_G} {cs : C4} {A : Nat → Prop} {h0 hz : Hp} {mc ms : Nat} {ez : String}
def B_xX9_activeOne_18 (N : Nat) (t0 : Nat) (h : Hp) : Option (Hp × String) := some (h, "java/lang/IllegalStateException")
theorem mb_xX9_activeOne_18 (N : Nat) (t0 : Nat) (h : Hp) (hJ : B_xX9_activeOne_18 N t0 h = some (hz, ez)) : Mo h hz := by
  unfold B_xX9_activeOne_18 at hJ
  obtain ⟨rfl, -⟩ := rs2 hJ
  exact ⟨fun _ _ => rfl, Nat.le_refl _, Nat.le_refl _, rfl, fun _ _ => rfl⟩
set_option maxRecDepth 100000 in
set_option maxHeartbeats 4000000 in
theorem sb_xX9_activeOne_18 (C : Cx p s m args meth c cX9_activeOne 3 (some (.object "RingKeeper$Transaction")) RX9 D cs A h0.se) (hl0 : l.stackTraces = false) (htab : ∀ x ∈ c.exceptionTable.toList, False) (hz3 : hz.nx + 1 ≤ h0.nx + mc ∧ hz.su + 6 ≤ h0.su + ms) (N : Nat) (t0 : Nat) (h : Hp) (hJ : B_xX9_activeOne_18 N t0 h = some (hz, ez)) (hk0 : h.kd t0 = 12) {H : Heap} {locs : List Loc} {cells slots : Nat} (w : Wo D cs A s h0 h H locs cells slots) {ls : Array Slot} (hl : lv_has ls 3 [(0, .ref t0)]) : W p l e { frames := 6, cells := mc, slots := ms, locals := 120 } s m args below meth c H locs cells slots (vx_MQ below xF (XE D cs A hz ez) args s mc ms A) (F0 m 18 ls []) := by
  obtain ⟨hx, hb, hml, hown, hts, -⟩ := id C
  have hz2 : hz.nx ≤ h0.nx + mc ∧ hz.su ≤ h0.su + ms := ⟨by omega, by omega⟩
  unfold B_xX9_activeOne_18 at hJ
  obtain ⟨rfl, rfl⟩ := rs2 hJ
  exact jx_SW C hl0 htab w hz3 (by decide +kernel) tw_5_115 tw_1_20 (xa_277 hts (xw_of C)) (xg_277 _) (xw_of C).2.2.2.2.2.2.2.2.1 hl.1 dX9_activeOne_18 dX9_activeOne_21 dX9_activeOne_22 dX9_activeOne_25 dX9_activeOne_28 (by decide) (by first | exact Nat.le_of_ble_eq_true rfl | simp [rf_cat, cat_i, cat_l, cat_r])
def B_xX9_activeOne_5 (N : Nat) (t0 : Nat) (h : Hp) (y0 : Option Nat) : Option (Hp × String) := nl y0 (B_xX9_activeOne_18 N t0 h) (fun a1 => ck (h.kd a1 = 10) (if (h.fi 1006 a1) = (1 : Int32) then (none) else (B_xX9_activeOne_18 N t0 h)))
theorem mb_xX9_activeOne_5 (N : Nat) (t0 : Nat) (h : Hp) (y0 : Option Nat) (hJ : B_xX9_activeOne_5 N t0 h y0 = some (hz, ez)) : Mo h hz := by
  unfold B_xX9_activeOne_5 at hJ
  cases ea1 : y0 with
  | none =>
    have hJ := nl_none ea1 hJ
    exact mb_xX9_activeOne_18 N t0 _ hJ
  | some a1 =>
    have hJ := nl_some ea1 hJ
    obtain ⟨-, hJ⟩ := ck_some hJ
    by_cases c3 : (h.fi 1006 a1) = (1 : Int32)
    · have hJ := it_pos c3 hJ
      cases hJ
    · have hJ := it_neg c3 hJ
      exact mb_xX9_activeOne_18 N t0 _ hJ
set_option maxRecDepth 100000 in
set_option maxHeartbeats 4000000 in
theorem sb_xX9_activeOne_5 (C : Cx p s m args meth c cX9_activeOne 3 (some (.object "RingKeeper$Transaction")) RX9 D cs A h0.se) (hl0 : l.stackTraces = false) (htab : ∀ x ∈ c.exceptionTable.toList, False) (hz3 : hz.nx + 1 ≤ h0.nx + mc ∧ hz.su + 6 ≤ h0.su + ms) (N : Nat) (t0 : Nat) (h : Hp) (y0 : Option Nat) (hJ : B_xX9_activeOne_5 N t0 h y0 = some (hz, ez)) (hk0 : h.kd t0 = 12) {H : Heap} {locs : List Loc} {cells slots : Nat} (w : Wo D cs A s h0 h H locs cells slots) {ls : Array Slot} (hl : lv_has ls 3 [(0, .ref t0)]) : W p l e { frames := 6, cells := mc, slots := ms, locals := 120 } s m args below meth c H locs cells slots (vx_MQ below xF (XE D cs A hz ez) args s mc ms A) (F0 m 5 ls [va_rf y0]) := by
  obtain ⟨hx, hb, hml, hown, hts, -⟩ := id C
  have hz2 : hz.nx ≤ h0.nx + mc ∧ hz.su ≤ h0.su + ms := ⟨by omega, by omega⟩
  unfold B_xX9_activeOne_5 at hJ
  refine jv_astore_n (i := 2) (lv' := [(2, va_rf y0), (0, .ref t0)]) hx hb dX9_activeOne_5 rfl hl (by decide) rfl (fun ls hl => ?_)
  refine jv_aload_n hx hb dX9_activeOne_6 rfl (lv_at hl 0 rfl) ?_
  refine jv_ifnull (tgt := 18) hx hb dX9_activeOne_7 (by decide) (fun ea1 => ?_) (fun a1 ea1 => ?_)
  · have hJ := nl_none ea1 hJ
    exact sb_xX9_activeOne_18 C hl0 htab hz3 N t0 _ hJ hk0 w (lv_sub (l' := [(0, .ref t0)]) hl [1] rfl)
  · have hJ := nl_some ea1 hJ
    rw [ea1] at hl
    refine lv_aload_n hx hb dX9_activeOne_10 rfl (lv_at hl 0 rfl) ?_
    obtain ⟨hk2, hJ⟩ := ck_some hJ
    refine fg_1006 C w hk2 tw_2_26 dX9_activeOne_11 ?_
    refine lv_iconst (v := (1 : Int32)) hx hb dX9_activeOne_14 (by decide) ?_
    refine lv_icmp_eq (tgt := 29) hx hb dX9_activeOne_15 (by decide) (fun c3 => ?_) (fun c3 => ?_)
    · have hJ := it_pos c3 hJ
      refine lv_aload_n hx hb dX9_activeOne_29 rfl (lv_at hl 0 rfl) ?_
      cases hJ
    · have hJ := it_neg c3 hJ
      exact sb_xX9_activeOne_18 C hl0 htab hz3 N t0 _ hJ hk0 w (lv_sub (l' := [(0, .ref t0)]) hl [1] rfl)
def B_xX9_activeOne_0 (N : Nat) (t0 : Nat) (h : Hp) (x1 : Int32) : Option (Hp × String) := (J_X9_numbered N t0 h x1).bind (fun z => B_xX9_activeOne_5 N t0 z.1 z.2)
theorem mb_xX9_activeOne_0 (N : Nat) (t0 : Nat) (h : Hp) (x1 : Int32) (hJ : B_xX9_activeOne_0 N t0 h x1 = some (hz, ez)) : Mo h hz := by
  unfold B_xX9_activeOne_0 at hJ
  obtain ⟨⟨h4, r5⟩, e6, hJ⟩ := ob_some hJ
  exact (mo_X9_numbered N t0 h x1 e6).tr (mb_xX9_activeOne_5 N t0 _ _ hJ)
set_option maxRecDepth 100000 in
set_option maxHeartbeats 4000000 in
theorem sb_xX9_activeOne_0 (C : Cx p s m args meth c cX9_activeOne 3 (some (.object "RingKeeper$Transaction")) RX9 D cs A h0.se) (hl0 : l.stackTraces = false) (htab : ∀ x ∈ c.exceptionTable.toList, False) (hz3 : hz.nx + 1 ≤ h0.nx + mc ∧ hz.su + 6 ≤ h0.su + ms) (N : Nat) (t0 : Nat) (h : Hp) (x1 : Int32) (hJ : B_xX9_activeOne_0 N t0 h x1 = some (hz, ez)) (hk0 : h.kd t0 = 12) {H : Heap} {locs : List Loc} {cells slots : Nat} (w : Wo D cs A s h0 h H locs cells slots) {ls : Array Slot} (hl : lv_has ls 3 [(0, .ref t0), (1, .int x1)]) : W p l e { frames := 6, cells := mc, slots := ms, locals := 120 } s m args below meth c H locs cells slots (vx_MQ below xF (XE D cs A hz ez) args s mc ms A) (F0 m 0 ls []) := by
  obtain ⟨hx, hb, hml, hown, hts, -⟩ := id C
  have hz2 : hz.nx ≤ h0.nx + mc ∧ hz.su ≤ h0.su + ms := ⟨by omega, by omega⟩
  unfold B_xX9_activeOne_0 at hJ
  refine lv_aload_n hx hb dX9_activeOne_0 rfl (lv_at hl 0 rfl) ?_
  refine lv_iload_n hx hb dX9_activeOne_1 rfl (lv_at hl 1 rfl) ?_
  obtain ⟨⟨h4, r5⟩, e6, hJ⟩ := ob_some hJ
  refine jc_Vq (As := [.int x1]) C w (cc_X9_numbered N t0 h x1 hk0 e6) (mo_X9_numbered N t0 h x1 e6) (mb_xX9_activeOne_5 N t0 _ _ hJ) hz2 hk0 (by decide) rfl (fs := fs12 h t0) rfl rfl ⟨tw_2_165, tw_2_162, tw_2_164, ts_5, tw_1_1⟩ cd_X9_numbered ⟨by decide, by decide⟩ hl.1 (by first | exact Nat.le_of_ble_eq_true rfl | simp [rf_cat, cat_i, cat_l, cat_r]) rfl dX9_activeOne_2 (fun H locs w1 => ?_)
  have hk7 := kd_keep w (mo_X9_numbered N t0 h x1 e6) hk0 (by decide)
  have w := w1
  exact sb_xX9_activeOne_5 C hl0 htab hz3 N t0 _ _ hJ hk7 w (lv_sub (l' := [(0, .ref t0)]) hl [0] rfl)
def J_xX9_activeOne (N : Nat) (t0 : Nat) (h : Hp) (x1 : Int32) : Option (Hp × String) := B_xX9_activeOne_0 N t0 h x1
theorem mo_xX9_activeOne (N : Nat) (t0 : Nat) (h : Hp) (x1 : Int32) (hJ : J_xX9_activeOne N t0 h x1 = some (hz, ez)) : Mo h hz := mb_xX9_activeOne_0 N t0 h x1 hJ
theorem xc_X9_activeOne (hl0 : l.stackTraces = false) (N : Nat) (t0 : Nat) (h : Hp) (x1 : Int32) (hk0 : h.kd t0 = 12) (hJ : J_xX9_activeOne N t0 h x1 = some (hz, ez)) : Xc l yX9_activeOne cX9_activeOne 3 (some (.object "RingKeeper$Transaction")) 6 120 D cs h hz ez [.ref t0, .int x1] := by
  intro mc ms g1 g2
  refine je_anyX (by decide) (by simp [lg_sl, rf_cat, cat_i, cat_l, cat_r]) ?_
  intro p e s m args below meth c C htab w ls hl
  have hl : lv_has ls 3 [(0, .ref t0), (1, .int x1)] := hl
  exact sb_xX9_activeOne_0 C hl0 htab ⟨g1, g2⟩ N t0 h x1 hJ hk0 w hl
end G_xX9_activeOne
section G_xX9_writingOne
variable {p : Program} {l : Launch} {e : Env} {s : State} {m : MethodId} {args : Array Value} {below : List Frame} {meth : Method} {c : Code} {D : va_G} {cs : C4} {A : Nat → Prop} {h0 hz : Hp} {mc ms : Nat} {ez : String}
def B_xX9_writingOne_5 (N : Nat) (t0 : Nat) (h : Hp) (y0 : Option Nat) : Option (Hp × String) := dr h 10 y0 (fun a1 => if (h.fi 1005 a1) = 0 then (none) else (some (h, "java/lang/UnsupportedOperationException")))
theorem mb_xX9_writingOne_5 (N : Nat) (t0 : Nat) (h : Hp) (y0 : Option Nat) (hJ : B_xX9_writingOne_5 N t0 h y0 = some (hz, ez)) : Mo h hz := by
  unfold B_xX9_writingOne_5 at hJ
  obtain ⟨a1, ea1, -, hJ⟩ := dr_some hJ
  by_cases c2 : (h.fi 1005 a1) = 0
  · have hJ := it_pos c2 hJ
    cases hJ
  · have hJ := it_neg c2 hJ
    obtain ⟨rfl, -⟩ := rs2 hJ
    exact ⟨fun _ _ => rfl, Nat.le_refl _, Nat.le_refl _, rfl, fun _ _ => rfl⟩
set_option maxRecDepth 100000 in
set_option maxHeartbeats 4000000 in
theorem sb_xX9_writingOne_5 (C : Cx p s m args meth c cX9_writingOne 3 (some (.object "RingKeeper$Transaction")) RX9 D cs A h0.se) (hl0 : l.stackTraces = false) (htab : ∀ x ∈ c.exceptionTable.toList, False) (hz3 : hz.nx + 1 ≤ h0.nx + mc ∧ hz.su + 6 ≤ h0.su + ms) (N : Nat) (t0 : Nat) (h : Hp) (y0 : Option Nat) (hJ : B_xX9_writingOne_5 N t0 h y0 = some (hz, ez)) (hk0 : h.kd t0 = 12) {H : Heap} {locs : List Loc} {cells slots : Nat} (w : Wo D cs A s h0 h H locs cells slots) {ls : Array Slot} (hl : lv_has ls 3 [(0, .ref t0)]) : W p l e { frames := 7, cells := mc, slots := ms, locals := 150 } s m args below meth c H locs cells slots (vx_MQ below xF (XE D cs A hz ez) args s mc ms A) (F0 m 5 ls [va_rf y0]) := by
  obtain ⟨hx, hb, hml, hown, hts, -⟩ := id C
  have hz2 : hz.nx ≤ h0.nx + mc ∧ hz.su ≤ h0.su + ms := ⟨by omega, by omega⟩
  unfold B_xX9_writingOne_5 at hJ
  refine jv_astore_n (i := 2) (lv' := [(2, va_rf y0), (0, .ref t0)]) hx hb dX9_writingOne_5 rfl hl (by decide) rfl (fun ls hl => ?_)
  refine jv_aload_n hx hb dX9_writingOne_6 rfl (lv_at hl 0 rfl) ?_
  obtain ⟨a1, ea1, hka1, hJ⟩ := dr_some hJ
  rw [ea1] at hl
  rw [ea1]
  refine fg_1005 C w hka1 tw_2_24 dX9_writingOne_7 ?_
  refine lv_if_eq (tgt := 24) hx hb dX9_writingOne_10 (by decide) (fun c2 => ?_) (fun c2 => ?_)
  · have hJ := it_pos c2 hJ
    refine lv_aload_n hx hb dX9_writingOne_24 rfl (lv_at hl 0 rfl) ?_
    cases hJ
  · have hJ := it_neg c2 hJ
    obtain ⟨rfl, rfl⟩ := rs2 hJ
    exact jx_SW C hl0 htab w hz3 (by decide +kernel) tw_6_70 tw_1_33 (xa_282 hts (xw_of C)) (xg_282 _) (xw_of C).2.2.2.2.2.2.2.2.2.1 hl.1 dX9_writingOne_13 dX9_writingOne_16 dX9_writingOne_17 dX9_writingOne_20 dX9_writingOne_23 (by decide) (by first | exact Nat.le_of_ble_eq_true rfl | simp [rf_cat, cat_i, cat_l, cat_r])
def B_xX9_writingOne_0 (N : Nat) (t0 : Nat) (h : Hp) (x1 : Int32) : Option (Hp × String) := orX (J_xX9_activeOne N t0 h x1) ((J_X9_activeOne N t0 h x1).bind (fun z => B_xX9_writingOne_5 N t0 z.1 z.2))
theorem mb_xX9_writingOne_0 (N : Nat) (t0 : Nat) (h : Hp) (x1 : Int32) (hJ : B_xX9_writingOne_0 N t0 h x1 = some (hz, ez)) : Mo h hz := by
  unfold B_xX9_writingOne_0 at hJ
  rcases orX_some hJ with hX | ⟨-, hJ⟩
  · exact mo_xX9_activeOne N t0 h x1 hX
  · obtain ⟨⟨h3, r4⟩, e5, hJ⟩ := ob_some hJ
    exact (mo_X9_activeOne N t0 h x1 e5).tr (mb_xX9_writingOne_5 N t0 _ _ hJ)
set_option maxRecDepth 100000 in
set_option maxHeartbeats 4000000 in
theorem sb_xX9_writingOne_0 (C : Cx p s m args meth c cX9_writingOne 3 (some (.object "RingKeeper$Transaction")) RX9 D cs A h0.se) (hl0 : l.stackTraces = false) (htab : ∀ x ∈ c.exceptionTable.toList, False) (hz3 : hz.nx + 1 ≤ h0.nx + mc ∧ hz.su + 6 ≤ h0.su + ms) (N : Nat) (t0 : Nat) (h : Hp) (x1 : Int32) (hJ : B_xX9_writingOne_0 N t0 h x1 = some (hz, ez)) (hk0 : h.kd t0 = 12) {H : Heap} {locs : List Loc} {cells slots : Nat} (w : Wo D cs A s h0 h H locs cells slots) {ls : Array Slot} (hl : lv_has ls 3 [(0, .ref t0), (1, .int x1)]) : W p l e { frames := 7, cells := mc, slots := ms, locals := 150 } s m args below meth c H locs cells slots (vx_MQ below xF (XE D cs A hz ez) args s mc ms A) (F0 m 0 ls []) := by
  obtain ⟨hx, hb, hml, hown, hts, -⟩ := id C
  have hz2 : hz.nx ≤ h0.nx + mc ∧ hz.su ≤ h0.su + ms := ⟨by omega, by omega⟩
  unfold B_xX9_writingOne_0 at hJ
  refine lv_aload_n hx hb dX9_writingOne_0 rfl (lv_at hl 0 rfl) ?_
  refine lv_iload_n hx hb dX9_writingOne_1 rfl (lv_at hl 1 rfl) ?_
  rcases orX_some hJ with hX | ⟨-, hJ⟩
  · exact jx_V (As := [.int x1]) C htab w (xc_X9_activeOne hl0 N t0 h x1 hk0 hX) (mo_xX9_activeOne N t0 h x1 hX) hz3 hk0 (by decide) rfl (fs := fs12 h t0) rfl rfl ⟨tw_5_114, tw_5_111, tw_5_113, ts_17, tw_1_1⟩ cd_X9_activeOne ⟨by decide, by decide⟩ hl.1 (by first | exact Nat.le_of_ble_eq_true rfl | simp [rf_cat, cat_i, cat_l, cat_r]) rfl dX9_writingOne_2
  · obtain ⟨⟨h3, r4⟩, e5, hJ⟩ := ob_some hJ
    refine jc_Vq (As := [.int x1]) C w (cc_X9_activeOne N t0 h x1 hk0 e5) (mo_X9_activeOne N t0 h x1 e5) (mb_xX9_writingOne_5 N t0 _ _ hJ) hz2 hk0 (by decide) rfl (fs := fs12 h t0) rfl rfl ⟨tw_5_114, tw_5_111, tw_5_113, ts_17, tw_1_1⟩ cd_X9_activeOne ⟨by decide, by decide⟩ hl.1 (by first | exact Nat.le_of_ble_eq_true rfl | simp [rf_cat, cat_i, cat_l, cat_r]) rfl dX9_writingOne_2 (fun H locs w1 => ?_)
    have hk6 := kd_keep w (mo_X9_activeOne N t0 h x1 e5) hk0 (by decide)
    have w := w1
    exact sb_xX9_writingOne_5 C hl0 htab hz3 N t0 _ _ hJ hk6 w (lv_sub (l' := [(0, .ref t0)]) hl [0] rfl)
def J_xX9_writingOne (N : Nat) (t0 : Nat) (h : Hp) (x1 : Int32) : Option (Hp × String) := B_xX9_writingOne_0 N t0 h x1
theorem mo_xX9_writingOne (N : Nat) (t0 : Nat) (h : Hp) (x1 : Int32) (hJ : J_xX9_writingOne N t0 h x1 = some (hz, ez)) : Mo h hz := mb_xX9_writingOne_0 N t0 h x1 hJ
theorem xc_X9_writingOne (hl0 : l.stackTraces = false) (N : Nat) (t0 : Nat) (h : Hp) (x1 : Int32) (hk0 : h.kd t0 = 12) (hJ : J_xX9_writingOne N t0 h x1 = some (hz, ez)) : Xc l yX9_writingOne cX9_writingOne 3 (some (.object "RingKeeper$Transaction")) 7 150 D cs h hz ez [.ref t0, .int x1] := by
  intro mc ms g1 g2
  refine je_anyX (by decide) (by simp [lg_sl, rf_cat, cat_i, cat_l, cat_r]) ?_
  intro p e s m args below meth c C htab w ls hl
  have hl : lv_has ls 3 [(0, .ref t0), (1, .int x1)] := hl
  exact sb_xX9_writingOne_0 C hl0 htab ⟨g1, g2⟩ N t0 h x1 hJ hk0 w hl
end G_xX9_writingOne
section G_xX9_read
variable {p : Program} {l : Launch} {e : Env} {s : State} {m : MethodId} {args : Array Value} {below : List Frame} {meth : Method} {c : Code} {D : va_G} {cs : C4} {A : Nat → Prop} {h0 hz : Hp} {mc ms : Nat} {ez : String}
def B_xX9_read_20 (N : Nat) (t0 : Nat) (h : Hp) (y0 : Int32) : Option (Hp × String) := none
theorem mb_xX9_read_20 (N : Nat) (t0 : Nat) (h : Hp) (y0 : Int32) (hJ : B_xX9_read_20 N t0 h y0 = some (hz, ez)) : Mo h hz := by
  unfold B_xX9_read_20 at hJ
  cases hJ
set_option maxRecDepth 100000 in
set_option maxHeartbeats 4000000 in
theorem sb_xX9_read_20 (C : Cx p s m args meth c cX9_read 4 (some .int) RX9 D cs A h0.se) (hl0 : l.stackTraces = false) (htab : ∀ x ∈ c.exceptionTable.toList, False) (hz3 : hz.nx + 1 ≤ h0.nx + mc ∧ hz.su + 6 ≤ h0.su + ms) (N : Nat) (t0 : Nat) (h : Hp) (y0 : Int32) (hJ : B_xX9_read_20 N t0 h y0 = some (hz, ez)) (hk0 : h.kd t0 = 12) {H : Heap} {locs : List Loc} {cells slots : Nat} (w : Wo D cs A s h0 h H locs cells slots) {ls : Array Slot} (hl : lv_has ls 4 [(0, .ref t0)]) : W p l e { frames := 10, cells := mc, slots := ms, locals := 320 } s m args below meth c H locs cells slots (vx_MQ below xF (XE D cs A hz ez) args s mc ms A) (F0 m 20 ls [.int y0]) := by
  obtain ⟨hx, hb, hml, hown, hts, -⟩ := id C
  have hz2 : hz.nx ≤ h0.nx + mc ∧ hz.su ≤ h0.su + ms := ⟨by omega, by omega⟩
  unfold B_xX9_read_20 at hJ
  cases hJ
def B_xX9_read_17 (N : Nat) (t0 : Nat) (h : Hp) (y0 : Option Nat) (y1 : Option Nat) (y2 : Option Nat) : Option (Hp × String) := dr h 12 y0 (fun a1 => (J_X9_carryOut N a1 h y1 y2).bind (fun z => B_xX9_read_20 N t0 z.1 z.2))
theorem mb_xX9_read_17 (N : Nat) (t0 : Nat) (h : Hp) (y0 : Option Nat) (y1 : Option Nat) (y2 : Option Nat) (hJ : B_xX9_read_17 N t0 h y0 y1 y2 = some (hz, ez)) : Mo h hz := by
  unfold B_xX9_read_17 at hJ
  obtain ⟨a1, ea1, -, hJ⟩ := dr_some hJ
  obtain ⟨⟨h2, r3⟩, e4, hJ⟩ := ob_some hJ
  exact (mo_X9_carryOut N a1 h y1 y2 e4).tr (mb_xX9_read_20 N t0 _ _ hJ)
set_option maxRecDepth 100000 in
set_option maxHeartbeats 4000000 in
theorem sb_xX9_read_17 (C : Cx p s m args meth c cX9_read 4 (some .int) RX9 D cs A h0.se) (hl0 : l.stackTraces = false) (htab : ∀ x ∈ c.exceptionTable.toList, False) (hz3 : hz.nx + 1 ≤ h0.nx + mc ∧ hz.su + 6 ≤ h0.su + ms) (N : Nat) (t0 : Nat) (h : Hp) (y0 : Option Nat) (y1 : Option Nat) (y2 : Option Nat) (hJ : B_xX9_read_17 N t0 h y0 y1 y2 = some (hz, ez)) (hk0 : h.kd t0 = 12) {H : Heap} {locs : List Loc} {cells slots : Nat} (w : Wo D cs A s h0 h H locs cells slots) {ls : Array Slot} (hl : lv_has ls 4 [(0, .ref t0)]) : W p l e { frames := 10, cells := mc, slots := ms, locals := 320 } s m args below meth c H locs cells slots (vx_MQ below xF (XE D cs A hz ez) args s mc ms A) (F0 m 17 ls [va_rf y2, va_rf y1, va_rf y0]) := by
  obtain ⟨hx, hb, hml, hown, hts, -⟩ := id C
  have hz2 : hz.nx ≤ h0.nx + mc ∧ hz.su ≤ h0.su + ms := ⟨by omega, by omega⟩
  unfold B_xX9_read_17 at hJ
  obtain ⟨a1, ea1, hka1, hJ⟩ := dr_some hJ
  rw [ea1]
  obtain ⟨⟨h2, r3⟩, e4, hJ⟩ := ob_some hJ
  refine jc_Vi (As := [va_rf y1, va_rf y2]) C w (cc_X9_carryOut N a1 h y1 y2 hka1 e4) (mo_X9_carryOut N a1 h y1 y2 e4) (mb_xX9_read_20 N t0 _ _ hJ) hz2 hka1 (by decide) rfl (fs := fs12 h a1) rfl rfl ⟨tw_5_169, tw_5_166, tw_5_168, ts_18, tw_1_1⟩ cd_X9_carryOut ⟨by decide, by decide⟩ hl.1 (by first | exact Nat.le_of_ble_eq_true rfl | simp [rf_cat, cat_i, cat_l, cat_r]) rfl dX9_read_17 (fun H locs w1 => ?_)
  have hk5 := kd_keep w (mo_X9_carryOut N a1 h y1 y2 e4) hk0 (by decide)
  have w := w1
  exact sb_xX9_read_20 C hl0 htab hz3 N t0 _ _ hJ hk5 w hl
def B_xX9_read_11 (N : Nat) (t0 : Nat) (h : Hp) (x2 : Int32) (y0 : Option Nat) (y1 : Option Nat) (y2 : Option Nat) : Option (Hp × String) := dr h 5 y2 (fun a6 => (J_X2_init N a6 h (0 : Int32) x2).bind (fun z => B_xX9_read_17 N t0 z.1 y0 y1 (some a6)))
theorem mb_xX9_read_11 (N : Nat) (t0 : Nat) (h : Hp) (x2 : Int32) (y0 : Option Nat) (y1 : Option Nat) (y2 : Option Nat) (hJ : B_xX9_read_11 N t0 h x2 y0 y1 y2 = some (hz, ez)) : Mo h hz := by
  unfold B_xX9_read_11 at hJ
  obtain ⟨a6, ea6, -, hJ⟩ := dr_some hJ
  obtain ⟨⟨h7, r8⟩, e9, hJ⟩ := ob_some hJ
  exact (mo_X2_init N a6 h (0 : Int32) x2 e9).tr (mb_xX9_read_17 N t0 _ _ _ _ hJ)
set_option maxRecDepth 100000 in
set_option maxHeartbeats 4000000 in
theorem sb_xX9_read_11 (C : Cx p s m args meth c cX9_read 4 (some .int) RX9 D cs A h0.se) (hl0 : l.stackTraces = false) (htab : ∀ x ∈ c.exceptionTable.toList, False) (hz3 : hz.nx + 1 ≤ h0.nx + mc ∧ hz.su + 6 ≤ h0.su + ms) (N : Nat) (t0 : Nat) (h : Hp) (x2 : Int32) (y0 : Option Nat) (y1 : Option Nat) (y2 : Option Nat) (hJ : B_xX9_read_11 N t0 h x2 y0 y1 y2 = some (hz, ez)) (hk0 : h.kd t0 = 12) {H : Heap} {locs : List Loc} {cells slots : Nat} (w : Wo D cs A s h0 h H locs cells slots) {ls : Array Slot} (hl : lv_has ls 4 [(0, .ref t0), (2, .int x2)]) : W p l e { frames := 10, cells := mc, slots := ms, locals := 320 } s m args below meth c H locs cells slots (vx_MQ below xF (XE D cs A hz ez) args s mc ms A) (F0 m 11 ls [va_rf y2, va_rf y1, va_rf y0]) := by
  obtain ⟨hx, hb, hml, hown, hts, -⟩ := id C
  have hz2 : hz.nx ≤ h0.nx + mc ∧ hz.su ≤ h0.su + ms := ⟨by omega, by omega⟩
  unfold B_xX9_read_11 at hJ
  refine lv_dup hx hb dX9_read_11 (rf_cat _) ?_
  refine lv_iconst (v := (0 : Int32)) hx hb dX9_read_12 (by decide) ?_
  refine lv_iload_n hx hb dX9_read_13 rfl (lv_at hl 1 rfl) ?_
  obtain ⟨a6, ea6, hka6, hJ⟩ := dr_some hJ
  rw [ea6]
  obtain ⟨⟨h7, r8⟩, e9, hJ⟩ := ob_some hJ
  refine jc_I (As := [.int (0 : Int32), .int x2]) C w (cc_X2_init N a6 h (0 : Int32) x2 hka6 e9) (mo_X2_init N a6 h (0 : Int32) x2 e9) (mb_xX9_read_17 N t0 _ _ _ _ hJ) hz2 tw_5_135 tw_5_133 tw_5_134 tw_1_21 rfl cd_X2_init ⟨by decide, by decide⟩ hl.1 (by first | exact Nat.le_of_ble_eq_true rfl | simp [rf_cat, cat_i, cat_l, cat_r]) rfl dX9_read_14 (fun H locs w1 => ?_)
  have hk10 := kd_keep w (mo_X2_init N a6 h (0 : Int32) x2 e9) hk0 (by decide)
  have w := w1
  exact sb_xX9_read_17 C hl0 htab hz3 N t0 _ _ _ _ hJ hk10 w (lv_sub (l' := [(0, .ref t0)]) hl [0] rfl)
def B_xX9_read_5 (N : Nat) (t0 : Nat) (h : Hp) (x2 : Int32) (y0 : Option Nat) : Option (Hp × String) := B_xX9_read_11 N t0 (h.new 5 0 7) x2 (some t0) y0 (some h.nx)
theorem mb_xX9_read_5 (N : Nat) (t0 : Nat) (h : Hp) (x2 : Int32) (y0 : Option Nat) (hJ : B_xX9_read_5 N t0 h x2 y0 = some (hz, ez)) : Mo h hz := by
  unfold B_xX9_read_5 at hJ
  exact (Mo.new h _ _ _).tr (mb_xX9_read_11 N t0 _ _ _ _ _ hJ)
set_option maxRecDepth 100000 in
set_option maxHeartbeats 4000000 in
theorem sb_xX9_read_5 (C : Cx p s m args meth c cX9_read 4 (some .int) RX9 D cs A h0.se) (hl0 : l.stackTraces = false) (htab : ∀ x ∈ c.exceptionTable.toList, False) (hz3 : hz.nx + 1 ≤ h0.nx + mc ∧ hz.su + 6 ≤ h0.su + ms) (N : Nat) (t0 : Nat) (h : Hp) (x2 : Int32) (y0 : Option Nat) (hJ : B_xX9_read_5 N t0 h x2 y0 = some (hz, ez)) (hk0 : h.kd t0 = 12) {H : Heap} {locs : List Loc} {cells slots : Nat} (w : Wo D cs A s h0 h H locs cells slots) {ls : Array Slot} (hl : lv_has ls 4 [(0, .ref t0), (2, .int x2)]) : W p l e { frames := 10, cells := mc, slots := ms, locals := 320 } s m args below meth c H locs cells slots (vx_MQ below xF (XE D cs A hz ez) args s mc ms A) (F0 m 5 ls [va_rf y0]) := by
  obtain ⟨hx, hb, hml, hown, hts, -⟩ := id C
  have hz2 : hz.nx ≤ h0.nx + mc ∧ hz.su ≤ h0.su + ms := ⟨by omega, by omega⟩
  unfold B_xX9_read_5 at hJ
  refine jv_astore_n (i := 3) (lv' := [(3, va_rf y0), (0, .ref t0), (2, .int x2)]) hx hb dX9_read_5 rfl hl (by decide) rfl (fun ls hl => ?_)
  refine lv_aload_n hx hb dX9_read_6 rfl (lv_at hl 1 rfl) ?_
  refine jv_aload_n hx hb dX9_read_7 rfl (lv_at hl 0 rfl) ?_
  have w0 := w
  refine fn_5 C w (mb_xX9_read_11 N t0 _ _ _ _ _ hJ) hz2 tw_5_131 dX9_read_8 (fun H w => ?_)
  have hk11 := kd_new (k := 5) (n := 0) (sl := 7) w0 hk0 (by decide)
  exact sb_xX9_read_11 C hl0 htab hz3 N t0 _ _ _ _ _ hJ hk11 w (lv_sub (l' := [(0, .ref t0), (2, .int x2)]) hl [1, 2] rfl)
def B_xX9_read_0 (N : Nat) (t0 : Nat) (h : Hp) (x1 : Int32) (x2 : Int32) : Option (Hp × String) := orX (J_xX9_activeOne N t0 h x1) ((J_X9_activeOne N t0 h x1).bind (fun z => B_xX9_read_5 N t0 z.1 x2 z.2))
theorem mb_xX9_read_0 (N : Nat) (t0 : Nat) (h : Hp) (x1 : Int32) (x2 : Int32) (hJ : B_xX9_read_0 N t0 h x1 x2 = some (hz, ez)) : Mo h hz := by
  unfold B_xX9_read_0 at hJ
  rcases orX_some hJ with hX | ⟨-, hJ⟩
  · exact mo_xX9_activeOne N t0 h x1 hX
  · obtain ⟨⟨h12, r13⟩, e14, hJ⟩ := ob_some hJ
    exact (mo_X9_activeOne N t0 h x1 e14).tr (mb_xX9_read_5 N t0 _ _ _ hJ)
set_option maxRecDepth 100000 in
set_option maxHeartbeats 4000000 in
theorem sb_xX9_read_0 (C : Cx p s m args meth c cX9_read 4 (some .int) RX9 D cs A h0.se) (hl0 : l.stackTraces = false) (htab : ∀ x ∈ c.exceptionTable.toList, False) (hz3 : hz.nx + 1 ≤ h0.nx + mc ∧ hz.su + 6 ≤ h0.su + ms) (N : Nat) (t0 : Nat) (h : Hp) (x1 : Int32) (x2 : Int32) (hJ : B_xX9_read_0 N t0 h x1 x2 = some (hz, ez)) (hk0 : h.kd t0 = 12) {H : Heap} {locs : List Loc} {cells slots : Nat} (w : Wo D cs A s h0 h H locs cells slots) {ls : Array Slot} (hl : lv_has ls 4 [(0, .ref t0), (1, .int x1), (2, .int x2)]) : W p l e { frames := 10, cells := mc, slots := ms, locals := 320 } s m args below meth c H locs cells slots (vx_MQ below xF (XE D cs A hz ez) args s mc ms A) (F0 m 0 ls []) := by
  obtain ⟨hx, hb, hml, hown, hts, -⟩ := id C
  have hz2 : hz.nx ≤ h0.nx + mc ∧ hz.su ≤ h0.su + ms := ⟨by omega, by omega⟩
  unfold B_xX9_read_0 at hJ
  refine lv_aload_n hx hb dX9_read_0 rfl (lv_at hl 0 rfl) ?_
  refine lv_iload_n hx hb dX9_read_1 rfl (lv_at hl 1 rfl) ?_
  rcases orX_some hJ with hX | ⟨-, hJ⟩
  · exact jx_V (As := [.int x1]) C htab w (xc_X9_activeOne hl0 N t0 h x1 hk0 hX) (mo_xX9_activeOne N t0 h x1 hX) hz3 hk0 (by decide) rfl (fs := fs12 h t0) rfl rfl ⟨tw_5_114, tw_5_111, tw_5_113, ts_17, tw_1_1⟩ cd_X9_activeOne ⟨by decide, by decide⟩ hl.1 (by first | exact Nat.le_of_ble_eq_true rfl | simp [rf_cat, cat_i, cat_l, cat_r]) rfl dX9_read_2
  · obtain ⟨⟨h12, r13⟩, e14, hJ⟩ := ob_some hJ
    refine jc_Vq (As := [.int x1]) C w (cc_X9_activeOne N t0 h x1 hk0 e14) (mo_X9_activeOne N t0 h x1 e14) (mb_xX9_read_5 N t0 _ _ _ hJ) hz2 hk0 (by decide) rfl (fs := fs12 h t0) rfl rfl ⟨tw_5_114, tw_5_111, tw_5_113, ts_17, tw_1_1⟩ cd_X9_activeOne ⟨by decide, by decide⟩ hl.1 (by first | exact Nat.le_of_ble_eq_true rfl | simp [rf_cat, cat_i, cat_l, cat_r]) rfl dX9_read_2 (fun H locs w1 => ?_)
    have hk15 := kd_keep w (mo_X9_activeOne N t0 h x1 e14) hk0 (by decide)
    have w := w1
    exact sb_xX9_read_5 C hl0 htab hz3 N t0 _ _ _ hJ hk15 w (lv_sub (l' := [(0, .ref t0), (2, .int x2)]) hl [0, 2] rfl)
def J_xX9_read (N : Nat) (t0 : Nat) (h : Hp) (x1 : Int32) (x2 : Int32) : Option (Hp × String) := B_xX9_read_0 N t0 h x1 x2
theorem mo_xX9_read (N : Nat) (t0 : Nat) (h : Hp) (x1 : Int32) (x2 : Int32) (hJ : J_xX9_read N t0 h x1 x2 = some (hz, ez)) : Mo h hz := mb_xX9_read_0 N t0 h x1 x2 hJ
theorem xc_X9_read (hl0 : l.stackTraces = false) (N : Nat) (t0 : Nat) (h : Hp) (x1 : Int32) (x2 : Int32) (hk0 : h.kd t0 = 12) (hJ : J_xX9_read N t0 h x1 x2 = some (hz, ez)) : Xc l yX9_read cX9_read 4 (some .int) 10 320 D cs h hz ez [.ref t0, .int x1, .int x2] := by
  intro mc ms g1 g2
  refine je_anyX (by decide) (by simp [lg_sl, rf_cat, cat_i, cat_l, cat_r]) ?_
  intro p e s m args below meth c C htab w ls hl
  have hl : lv_has ls 4 [(0, .ref t0), (1, .int x1), (2, .int x2)] := hl
  exact sb_xX9_read_0 C hl0 htab ⟨g1, g2⟩ N t0 h x1 x2 hJ hk0 w hl
end G_xX9_read
section G_xX9_near
variable {p : Program} {l : Launch} {e : Env} {s : State} {m : MethodId} {args : Array Value} {below : List Frame} {meth : Method} {c : Code} {D : va_G} {cs : C4} {A : Nat → Prop} {h0 hz : Hp} {mc ms : Nat} {ez : String}
def B_xX9_near_32 (N : Nat) (t0 : Nat) (h : Hp) (y0 : Int32) : Option (Hp × String) := none
theorem mb_xX9_near_32 (N : Nat) (t0 : Nat) (h : Hp) (y0 : Int32) (hJ : B_xX9_near_32 N t0 h y0 = some (hz, ez)) : Mo h hz := by
  unfold B_xX9_near_32 at hJ
  cases hJ
set_option maxRecDepth 100000 in
set_option maxHeartbeats 4000000 in
theorem sb_xX9_near_32 (C : Cx p s m args meth c cX9_near 6 (some .int) RX9 D cs A h0.se) (hl0 : l.stackTraces = false) (htab : ∀ x ∈ c.exceptionTable.toList, False) (hz3 : hz.nx + 1 ≤ h0.nx + mc ∧ hz.su + 6 ≤ h0.su + ms) (N : Nat) (t0 : Nat) (h : Hp) (y0 : Int32) (hJ : B_xX9_near_32 N t0 h y0 = some (hz, ez)) (hk0 : h.kd t0 = 12) {H : Heap} {locs : List Loc} {cells slots : Nat} (w : Wo D cs A s h0 h H locs cells slots) {ls : Array Slot} (hl : lv_has ls 6 [(0, .ref t0)]) : W p l e { frames := 10, cells := mc, slots := ms, locals := 320 } s m args below meth c H locs cells slots (vx_MQ below xF (XE D cs A hz ez) args s mc ms A) (F0 m 32 ls [.int y0]) := by
  obtain ⟨hx, hb, hml, hown, hts, -⟩ := id C
  have hz2 : hz.nx ≤ h0.nx + mc ∧ hz.su ≤ h0.su + ms := ⟨by omega, by omega⟩
  unfold B_xX9_near_32 at hJ
  cases hJ
def B_xX9_near_16 (N : Nat) (t0 : Nat) (h : Hp) (x3 : Int32) (x4 : Option Nat) (y0 : Option Nat) : Option (Hp × String) := dr h 5 y0 (fun a1 => ck (x3 = 0 ∨ x3 = 1) ((J_X9_carryOut N t0 (h.sfi 504 a1 x3) x4 (some a1)).bind (fun z => B_xX9_near_32 N t0 z.1 z.2)))
theorem mb_xX9_near_16 (N : Nat) (t0 : Nat) (h : Hp) (x3 : Int32) (x4 : Option Nat) (y0 : Option Nat) (hJ : B_xX9_near_16 N t0 h x3 x4 y0 = some (hz, ez)) : Mo h hz := by
  unfold B_xX9_near_16 at hJ
  obtain ⟨a1, ea1, -, hJ⟩ := dr_some hJ
  obtain ⟨-, hJ⟩ := ck_some hJ
  obtain ⟨⟨h3, r4⟩, e5, hJ⟩ := ob_some hJ
  exact (Mo.tr (show Mo h (h.sfi 504 a1 x3) from ⟨fun _ _ => rfl, Nat.le_refl _, Nat.le_refl _, rfl, fun _ _ => rfl⟩) ((mo_X9_carryOut N t0 (h.sfi 504 a1 x3) x4 (some a1) e5).tr (mb_xX9_near_32 N t0 _ _ hJ)))
set_option maxRecDepth 100000 in
set_option maxHeartbeats 4000000 in
theorem sb_xX9_near_16 (C : Cx p s m args meth c cX9_near 6 (some .int) RX9 D cs A h0.se) (hl0 : l.stackTraces = false) (htab : ∀ x ∈ c.exceptionTable.toList, False) (hz3 : hz.nx + 1 ≤ h0.nx + mc ∧ hz.su + 6 ≤ h0.su + ms) (N : Nat) (t0 : Nat) (h : Hp) (x3 : Int32) (x4 : Option Nat) (y0 : Option Nat) (hJ : B_xX9_near_16 N t0 h x3 x4 y0 = some (hz, ez)) (hk0 : h.kd t0 = 12) {H : Heap} {locs : List Loc} {cells slots : Nat} (w : Wo D cs A s h0 h H locs cells slots) {ls : Array Slot} (hl : lv_has ls 6 [(0, .ref t0), (3, .int x3), (4, va_rf x4)]) : W p l e { frames := 10, cells := mc, slots := ms, locals := 320 } s m args below meth c H locs cells slots (vx_MQ below xF (XE D cs A hz ez) args s mc ms A) (F0 m 16 ls [va_rf y0]) := by
  obtain ⟨hx, hb, hml, hown, hts, -⟩ := id C
  have hz2 : hz.nx ≤ h0.nx + mc ∧ hz.su ≤ h0.su + ms := ⟨by omega, by omega⟩
  unfold B_xX9_near_16 at hJ
  refine jv_astore (i := 5) (lv' := [(5, va_rf y0), (0, .ref t0), (3, .int x3), (4, va_rf x4)]) hx hb dX9_near_16 hl (by decide) (by simp [List.filter, rf_cat, cat_i, cat_l, cat_r]) (fun ls hl => ?_)
  refine jv_aload hx hb dX9_near_18 (lv_at hl 0 rfl) ?_
  refine lv_iload_n hx hb dX9_near_20 rfl (lv_at hl 2 rfl) ?_
  obtain ⟨a1, ea1, hka1, hJ⟩ := dr_some hJ
  rw [ea1] at hl
  rw [ea1]
  obtain ⟨hzo2, hJ⟩ := ck_some hJ
  refine fp_504 (x := x3) C w hka1 hzo2 tw_5_145 dX9_near_21 (fun H locs w => ?_)
  refine lv_aload_n hx hb dX9_near_24 rfl (lv_at hl 1 rfl) ?_
  refine jv_aload hx hb dX9_near_25 (lv_at hl 3 rfl) ?_
  refine lv_aload hx hb dX9_near_27 (lv_at hl 0 rfl) ?_
  obtain ⟨⟨h3, r4⟩, e5, hJ⟩ := ob_some hJ
  refine jc_Vi (As := [va_rf x4, .ref a1]) C w (cc_X9_carryOut N t0 (h.sfi 504 a1 x3) x4 (some a1) hk0 e5) (mo_X9_carryOut N t0 (h.sfi 504 a1 x3) x4 (some a1) e5) (mb_xX9_near_32 N t0 _ _ hJ) hz2 hk0 (by decide) rfl (fs := fs12 (h.sfi 504 a1 x3) t0) rfl rfl ⟨tw_5_169, tw_5_166, tw_5_168, ts_18, tw_1_1⟩ cd_X9_carryOut ⟨by decide, by decide⟩ hl.1 (by first | exact Nat.le_of_ble_eq_true rfl | simp [rf_cat, cat_i, cat_l, cat_r]) rfl dX9_near_29 (fun H locs w1 => ?_)
  have hk6 := kd_keep w (mo_X9_carryOut N t0 (h.sfi 504 a1 x3) x4 (some a1) e5) hk0 (by decide)
  have w := w1
  exact sb_xX9_near_32 C hl0 htab hz3 N t0 _ _ hJ hk6 w (lv_sub (l' := [(0, .ref t0)]) hl [1] rfl)
def B_xX9_near_10 (N : Nat) (t0 : Nat) (h : Hp) (x2 : Int32) (x3 : Int32) (x4 : Option Nat) (y0 : Option Nat) : Option (Hp × String) := dr h 5 y0 (fun a7 => (J_X2_init N a7 h (1 : Int32) x2).bind (fun z => B_xX9_near_16 N t0 z.1 x3 x4 (some a7)))
theorem mb_xX9_near_10 (N : Nat) (t0 : Nat) (h : Hp) (x2 : Int32) (x3 : Int32) (x4 : Option Nat) (y0 : Option Nat) (hJ : B_xX9_near_10 N t0 h x2 x3 x4 y0 = some (hz, ez)) : Mo h hz := by
  unfold B_xX9_near_10 at hJ
  obtain ⟨a7, ea7, -, hJ⟩ := dr_some hJ
  obtain ⟨⟨h8, r9⟩, e10, hJ⟩ := ob_some hJ
  exact (mo_X2_init N a7 h (1 : Int32) x2 e10).tr (mb_xX9_near_16 N t0 _ _ _ _ hJ)
set_option maxRecDepth 100000 in
set_option maxHeartbeats 4000000 in
theorem sb_xX9_near_10 (C : Cx p s m args meth c cX9_near 6 (some .int) RX9 D cs A h0.se) (hl0 : l.stackTraces = false) (htab : ∀ x ∈ c.exceptionTable.toList, False) (hz3 : hz.nx + 1 ≤ h0.nx + mc ∧ hz.su + 6 ≤ h0.su + ms) (N : Nat) (t0 : Nat) (h : Hp) (x2 : Int32) (x3 : Int32) (x4 : Option Nat) (y0 : Option Nat) (hJ : B_xX9_near_10 N t0 h x2 x3 x4 y0 = some (hz, ez)) (hk0 : h.kd t0 = 12) {H : Heap} {locs : List Loc} {cells slots : Nat} (w : Wo D cs A s h0 h H locs cells slots) {ls : Array Slot} (hl : lv_has ls 6 [(0, .ref t0), (2, .int x2), (3, .int x3), (4, va_rf x4)]) : W p l e { frames := 10, cells := mc, slots := ms, locals := 320 } s m args below meth c H locs cells slots (vx_MQ below xF (XE D cs A hz ez) args s mc ms A) (F0 m 10 ls [va_rf y0]) := by
  obtain ⟨hx, hb, hml, hown, hts, -⟩ := id C
  have hz2 : hz.nx ≤ h0.nx + mc ∧ hz.su ≤ h0.su + ms := ⟨by omega, by omega⟩
  unfold B_xX9_near_10 at hJ
  refine lv_dup hx hb dX9_near_10 (rf_cat _) ?_
  refine lv_iconst (v := (1 : Int32)) hx hb dX9_near_11 (by decide) ?_
  refine lv_iload_n hx hb dX9_near_12 rfl (lv_at hl 1 rfl) ?_
  obtain ⟨a7, ea7, hka7, hJ⟩ := dr_some hJ
  rw [ea7]
  obtain ⟨⟨h8, r9⟩, e10, hJ⟩ := ob_some hJ
  refine jc_I (As := [.int (1 : Int32), .int x2]) C w (cc_X2_init N a7 h (1 : Int32) x2 hka7 e10) (mo_X2_init N a7 h (1 : Int32) x2 e10) (mb_xX9_near_16 N t0 _ _ _ _ hJ) hz2 tw_5_135 tw_5_133 tw_5_134 tw_1_21 rfl cd_X2_init ⟨by decide, by decide⟩ hl.1 (by first | exact Nat.le_of_ble_eq_true rfl | simp [rf_cat, cat_i, cat_l, cat_r]) rfl dX9_near_13 (fun H locs w1 => ?_)
  have hk11 := kd_keep w (mo_X2_init N a7 h (1 : Int32) x2 e10) hk0 (by decide)
  have w := w1
  exact sb_xX9_near_16 C hl0 htab hz3 N t0 _ _ _ _ hJ hk11 w (lv_sub (l' := [(0, .ref t0), (3, .int x3), (4, va_rf x4)]) hl [0, 2, 3] rfl)
def B_xX9_near_5 (N : Nat) (t0 : Nat) (h : Hp) (x2 : Int32) (x3 : Int32) (y0 : Option Nat) : Option (Hp × String) := B_xX9_near_10 N t0 (h.new 5 0 7) x2 x3 y0 (some h.nx)
theorem mb_xX9_near_5 (N : Nat) (t0 : Nat) (h : Hp) (x2 : Int32) (x3 : Int32) (y0 : Option Nat) (hJ : B_xX9_near_5 N t0 h x2 x3 y0 = some (hz, ez)) : Mo h hz := by
  unfold B_xX9_near_5 at hJ
  exact (Mo.new h _ _ _).tr (mb_xX9_near_10 N t0 _ _ _ _ _ hJ)
set_option maxRecDepth 100000 in
set_option maxHeartbeats 4000000 in
theorem sb_xX9_near_5 (C : Cx p s m args meth c cX9_near 6 (some .int) RX9 D cs A h0.se) (hl0 : l.stackTraces = false) (htab : ∀ x ∈ c.exceptionTable.toList, False) (hz3 : hz.nx + 1 ≤ h0.nx + mc ∧ hz.su + 6 ≤ h0.su + ms) (N : Nat) (t0 : Nat) (h : Hp) (x2 : Int32) (x3 : Int32) (y0 : Option Nat) (hJ : B_xX9_near_5 N t0 h x2 x3 y0 = some (hz, ez)) (hk0 : h.kd t0 = 12) {H : Heap} {locs : List Loc} {cells slots : Nat} (w : Wo D cs A s h0 h H locs cells slots) {ls : Array Slot} (hl : lv_has ls 6 [(0, .ref t0), (2, .int x2), (3, .int x3)]) : W p l e { frames := 10, cells := mc, slots := ms, locals := 320 } s m args below meth c H locs cells slots (vx_MQ below xF (XE D cs A hz ez) args s mc ms A) (F0 m 5 ls [va_rf y0]) := by
  obtain ⟨hx, hb, hml, hown, hts, -⟩ := id C
  have hz2 : hz.nx ≤ h0.nx + mc ∧ hz.su ≤ h0.su + ms := ⟨by omega, by omega⟩
  unfold B_xX9_near_5 at hJ
  refine jv_astore (i := 4) (lv' := [(4, va_rf y0), (0, .ref t0), (2, .int x2), (3, .int x3)]) hx hb dX9_near_5 hl (by decide) rfl (fun ls hl => ?_)
  have w0 := w
  refine fn_5 C w (mb_xX9_near_10 N t0 _ _ _ _ _ hJ) hz2 tw_5_131 dX9_near_7 (fun H w => ?_)
  have hk12 := kd_new (k := 5) (n := 0) (sl := 7) w0 hk0 (by decide)
  exact sb_xX9_near_10 C hl0 htab hz3 N t0 _ _ _ _ _ hJ hk12 w (lv_sub (l' := [(0, .ref t0), (2, .int x2), (3, .int x3), (4, va_rf y0)]) hl [1, 2, 3, 0] rfl)
def B_xX9_near_0 (N : Nat) (t0 : Nat) (h : Hp) (x1 : Int32) (x2 : Int32) (x3 : Int32) : Option (Hp × String) := orX (J_xX9_activeOne N t0 h x1) ((J_X9_activeOne N t0 h x1).bind (fun z => B_xX9_near_5 N t0 z.1 x2 x3 z.2))
theorem mb_xX9_near_0 (N : Nat) (t0 : Nat) (h : Hp) (x1 : Int32) (x2 : Int32) (x3 : Int32) (hJ : B_xX9_near_0 N t0 h x1 x2 x3 = some (hz, ez)) : Mo h hz := by
  unfold B_xX9_near_0 at hJ
  rcases orX_some hJ with hX | ⟨-, hJ⟩
  · exact mo_xX9_activeOne N t0 h x1 hX
  · obtain ⟨⟨h13, r14⟩, e15, hJ⟩ := ob_some hJ
    exact (mo_X9_activeOne N t0 h x1 e15).tr (mb_xX9_near_5 N t0 _ _ _ _ hJ)
set_option maxRecDepth 100000 in
set_option maxHeartbeats 4000000 in
theorem sb_xX9_near_0 (C : Cx p s m args meth c cX9_near 6 (some .int) RX9 D cs A h0.se) (hl0 : l.stackTraces = false) (htab : ∀ x ∈ c.exceptionTable.toList, False) (hz3 : hz.nx + 1 ≤ h0.nx + mc ∧ hz.su + 6 ≤ h0.su + ms) (N : Nat) (t0 : Nat) (h : Hp) (x1 : Int32) (x2 : Int32) (x3 : Int32) (hJ : B_xX9_near_0 N t0 h x1 x2 x3 = some (hz, ez)) (hk0 : h.kd t0 = 12) {H : Heap} {locs : List Loc} {cells slots : Nat} (w : Wo D cs A s h0 h H locs cells slots) {ls : Array Slot} (hl : lv_has ls 6 [(0, .ref t0), (1, .int x1), (2, .int x2), (3, .int x3)]) : W p l e { frames := 10, cells := mc, slots := ms, locals := 320 } s m args below meth c H locs cells slots (vx_MQ below xF (XE D cs A hz ez) args s mc ms A) (F0 m 0 ls []) := by
  obtain ⟨hx, hb, hml, hown, hts, -⟩ := id C
  have hz2 : hz.nx ≤ h0.nx + mc ∧ hz.su ≤ h0.su + ms := ⟨by omega, by omega⟩
  unfold B_xX9_near_0 at hJ
  refine lv_aload_n hx hb dX9_near_0 rfl (lv_at hl 0 rfl) ?_
  refine lv_iload_n hx hb dX9_near_1 rfl (lv_at hl 1 rfl) ?_
  rcases orX_some hJ with hX | ⟨-, hJ⟩
  · exact jx_V (As := [.int x1]) C htab w (xc_X9_activeOne hl0 N t0 h x1 hk0 hX) (mo_xX9_activeOne N t0 h x1 hX) hz3 hk0 (by decide) rfl (fs := fs12 h t0) rfl rfl ⟨tw_5_114, tw_5_111, tw_5_113, ts_17, tw_1_1⟩ cd_X9_activeOne ⟨by decide, by decide⟩ hl.1 (by first | exact Nat.le_of_ble_eq_true rfl | simp [rf_cat, cat_i, cat_l, cat_r]) rfl dX9_near_2
  · obtain ⟨⟨h13, r14⟩, e15, hJ⟩ := ob_some hJ
    refine jc_Vq (As := [.int x1]) C w (cc_X9_activeOne N t0 h x1 hk0 e15) (mo_X9_activeOne N t0 h x1 e15) (mb_xX9_near_5 N t0 _ _ _ _ hJ) hz2 hk0 (by decide) rfl (fs := fs12 h t0) rfl rfl ⟨tw_5_114, tw_5_111, tw_5_113, ts_17, tw_1_1⟩ cd_X9_activeOne ⟨by decide, by decide⟩ hl.1 (by first | exact Nat.le_of_ble_eq_true rfl | simp [rf_cat, cat_i, cat_l, cat_r]) rfl dX9_near_2 (fun H locs w1 => ?_)
    have hk16 := kd_keep w (mo_X9_activeOne N t0 h x1 e15) hk0 (by decide)
    have w := w1
    exact sb_xX9_near_5 C hl0 htab hz3 N t0 _ _ _ _ hJ hk16 w (lv_sub (l' := [(0, .ref t0), (2, .int x2), (3, .int x3)]) hl [0, 2, 3] rfl)
def J_xX9_near (N : Nat) (t0 : Nat) (h : Hp) (x1 : Int32) (x2 : Int32) (x3 : Int32) : Option (Hp × String) := B_xX9_near_0 N t0 h x1 x2 x3
theorem mo_xX9_near (N : Nat) (t0 : Nat) (h : Hp) (x1 : Int32) (x2 : Int32) (x3 : Int32) (hJ : J_xX9_near N t0 h x1 x2 x3 = some (hz, ez)) : Mo h hz := mb_xX9_near_0 N t0 h x1 x2 x3 hJ
theorem xc_X9_near (hl0 : l.stackTraces = false) (N : Nat) (t0 : Nat) (h : Hp) (x1 : Int32) (x2 : Int32) (x3 : Int32) (hk0 : h.kd t0 = 12) (hJ : J_xX9_near N t0 h x1 x2 x3 = some (hz, ez)) : Xc l yX9_near cX9_near 6 (some .int) 10 320 D cs h hz ez [.ref t0, .int x1, .int x2, .int x3] := by
  intro mc ms g1 g2
  refine je_anyX (by decide) (by simp [lg_sl, rf_cat, cat_i, cat_l, cat_r]) ?_
  intro p e s m args below meth c C htab w ls hl
  have hl : lv_has ls 6 [(0, .ref t0), (1, .int x1), (2, .int x2), (3, .int x3)] := hl
  exact sb_xX9_near_0 C hl0 htab ⟨g1, g2⟩ N t0 h x1 x2 x3 hJ hk0 w hl
end G_xX9_near
section G_xX9_scan
variable {p : Program} {l : Launch} {e : Env} {s : State} {m : MethodId} {args : Array Value} {below : List Frame} {meth : Method} {c : Code} {D : va_G} {cs : C4} {A : Nat → Prop} {h0 hz : Hp} {mc ms : Nat} {ez : String}
def B_xX9_scan_35 (N : Nat) (t0 : Nat) (h : Hp) : Option (Hp × String) := some (h, "java/lang/IllegalArgumentException")
theorem mb_xX9_scan_35 (N : Nat) (t0 : Nat) (h : Hp) (hJ : B_xX9_scan_35 N t0 h = some (hz, ez)) : Mo h hz := by
  unfold B_xX9_scan_35 at hJ
  obtain ⟨rfl, -⟩ := rs2 hJ
  exact ⟨fun _ _ => rfl, Nat.le_refl _, Nat.le_refl _, rfl, fun _ _ => rfl⟩
set_option maxRecDepth 100000 in
set_option maxHeartbeats 4000000 in
theorem sb_xX9_scan_35 (C : Cx p s m args meth c cX9_scan 7 (some .int) RX9 D cs A h0.se) (hl0 : l.stackTraces = false) (htab : ∀ x ∈ c.exceptionTable.toList, False) (hz3 : hz.nx + 1 ≤ h0.nx + mc ∧ hz.su + 6 ≤ h0.su + ms) (N : Nat) (t0 : Nat) (h : Hp) (hJ : B_xX9_scan_35 N t0 h = some (hz, ez)) (hk0 : h.kd t0 = 12) {H : Heap} {locs : List Loc} {cells slots : Nat} (w : Wo D cs A s h0 h H locs cells slots) {ls : Array Slot} (hl : lv_has ls 7 [(0, .ref t0)]) : W p l e { frames := 10, cells := mc, slots := ms, locals := 320 } s m args below meth c H locs cells slots (vx_MQ below xF (XE D cs A hz ez) args s mc ms A) (F0 m 35 ls []) := by
  obtain ⟨hx, hb, hml, hown, hts, -⟩ := id C
  have hz2 : hz.nx ≤ h0.nx + mc ∧ hz.su ≤ h0.su + ms := ⟨by omega, by omega⟩
  unfold B_xX9_scan_35 at hJ
  obtain ⟨rfl, rfl⟩ := rs2 hJ
  exact jx_S C hl0 htab w hz3 (by decide +kernel) tw_6_22 tw_1_30 (xa_122 hts (xw_of C)) (xg_122 _) (xw_of C).2.2.2.2.2.2.2.2.2.2.2.1 hl.1 dX9_scan_35 dX9_scan_38 dX9_scan_39 dX9_scan_41 dX9_scan_44 (by decide) (by first | exact Nat.le_of_ble_eq_true rfl | simp [rf_cat, cat_i, cat_l, cat_r])
def B_xX9_scan_77 (N : Nat) (t0 : Nat) (h : Hp) (y0 : Int32) : Option (Hp × String) := none
theorem mb_xX9_scan_77 (N : Nat) (t0 : Nat) (h : Hp) (y0 : Int32) (hJ : B_xX9_scan_77 N t0 h y0 = some (hz, ez)) : Mo h hz := by
  unfold B_xX9_scan_77 at hJ
  cases hJ
set_option maxRecDepth 100000 in
set_option maxHeartbeats 4000000 in
theorem sb_xX9_scan_77 (C : Cx p s m args meth c cX9_scan 7 (some .int) RX9 D cs A h0.se) (hl0 : l.stackTraces = false) (htab : ∀ x ∈ c.exceptionTable.toList, False) (hz3 : hz.nx + 1 ≤ h0.nx + mc ∧ hz.su + 6 ≤ h0.su + ms) (N : Nat) (t0 : Nat) (h : Hp) (y0 : Int32) (hJ : B_xX9_scan_77 N t0 h y0 = some (hz, ez)) (hk0 : h.kd t0 = 12) {H : Heap} {locs : List Loc} {cells slots : Nat} (w : Wo D cs A s h0 h H locs cells slots) {ls : Array Slot} (hl : lv_has ls 7 [(0, .ref t0)]) : W p l e { frames := 10, cells := mc, slots := ms, locals := 320 } s m args below meth c H locs cells slots (vx_MQ below xF (XE D cs A hz ez) args s mc ms A) (F0 m 77 ls [.int y0]) := by
  obtain ⟨hx, hb, hml, hown, hts, -⟩ := id C
  have hz2 : hz.nx ≤ h0.nx + mc ∧ hz.su ≤ h0.su + ms := ⟨by omega, by omega⟩
  unfold B_xX9_scan_77 at hJ
  cases hJ
def B_xX9_scan_54 (N : Nat) (t0 : Nat) (h : Hp) (x3 : Int32) (x4 : Int32) (x5 : Option Nat) (y0 : Option Nat) : Option (Hp × String) := dr h 5 y0 (fun a1 => (J_X9_carryOut N t0 ((h.sfi 502 a1 x3).sfi 503 a1 x4) x5 (some a1)).bind (fun z => B_xX9_scan_77 N t0 z.1 z.2))
theorem mb_xX9_scan_54 (N : Nat) (t0 : Nat) (h : Hp) (x3 : Int32) (x4 : Int32) (x5 : Option Nat) (y0 : Option Nat) (hJ : B_xX9_scan_54 N t0 h x3 x4 x5 y0 = some (hz, ez)) : Mo h hz := by
  unfold B_xX9_scan_54 at hJ
  obtain ⟨a1, ea1, -, hJ⟩ := dr_some hJ
  obtain ⟨⟨h2, r3⟩, e4, hJ⟩ := ob_some hJ
  exact (Mo.tr (show Mo h ((h.sfi 502 a1 x3).sfi 503 a1 x4) from ⟨fun _ _ => rfl, Nat.le_refl _, Nat.le_refl _, rfl, fun _ _ => rfl⟩) ((mo_X9_carryOut N t0 ((h.sfi 502 a1 x3).sfi 503 a1 x4) x5 (some a1) e4).tr (mb_xX9_scan_77 N t0 _ _ hJ)))
set_option maxRecDepth 100000 in
set_option maxHeartbeats 4000000 in
theorem sb_xX9_scan_54 (C : Cx p s m args meth c cX9_scan 7 (some .int) RX9 D cs A h0.se) (hl0 : l.stackTraces = false) (htab : ∀ x ∈ c.exceptionTable.toList, False) (hz3 : hz.nx + 1 ≤ h0.nx + mc ∧ hz.su + 6 ≤ h0.su + ms) (N : Nat) (t0 : Nat) (h : Hp) (x3 : Int32) (x4 : Int32) (x5 : Option Nat) (y0 : Option Nat) (hJ : B_xX9_scan_54 N t0 h x3 x4 x5 y0 = some (hz, ez)) (hk0 : h.kd t0 = 12) {H : Heap} {locs : List Loc} {cells slots : Nat} (w : Wo D cs A s h0 h H locs cells slots) {ls : Array Slot} (hl : lv_has ls 7 [(0, .ref t0), (3, .int x3), (4, .int x4), (5, va_rf x5)]) : W p l e { frames := 10, cells := mc, slots := ms, locals := 320 } s m args below meth c H locs cells slots (vx_MQ below xF (XE D cs A hz ez) args s mc ms A) (F0 m 54 ls [va_rf y0]) := by
  obtain ⟨hx, hb, hml, hown, hts, -⟩ := id C
  have hz2 : hz.nx ≤ h0.nx + mc ∧ hz.su ≤ h0.su + ms := ⟨by omega, by omega⟩
  unfold B_xX9_scan_54 at hJ
  refine jv_astore (i := 6) (lv' := [(6, va_rf y0), (0, .ref t0), (3, .int x3), (4, .int x4), (5, va_rf x5)]) hx hb dX9_scan_54 hl (by decide) (by simp [List.filter, rf_cat, cat_i, cat_l, cat_r]) (fun ls hl => ?_)
  refine jv_aload hx hb dX9_scan_56 (lv_at hl 0 rfl) ?_
  refine lv_iload_n hx hb dX9_scan_58 rfl (lv_at hl 2 rfl) ?_
  obtain ⟨a1, ea1, hka1, hJ⟩ := dr_some hJ
  rw [ea1] at hl
  rw [ea1]
  refine fp_502 (x := x3) C w hka1 tw_5_141 dX9_scan_59 (fun H locs w => ?_)
  refine lv_aload hx hb dX9_scan_62 (lv_at hl 0 rfl) ?_
  refine lv_iload hx hb dX9_scan_64 (lv_at hl 3 rfl) ?_
  refine fp_503 (x := x4) C w hka1 tw_5_143 dX9_scan_66 (fun H locs w => ?_)
  refine lv_aload_n hx hb dX9_scan_69 rfl (lv_at hl 1 rfl) ?_
  refine jv_aload hx hb dX9_scan_70 (lv_at hl 4 rfl) ?_
  refine lv_aload hx hb dX9_scan_72 (lv_at hl 0 rfl) ?_
  obtain ⟨⟨h2, r3⟩, e4, hJ⟩ := ob_some hJ
  refine jc_Vi (As := [va_rf x5, .ref a1]) C w (cc_X9_carryOut N t0 ((h.sfi 502 a1 x3).sfi 503 a1 x4) x5 (some a1) hk0 e4) (mo_X9_carryOut N t0 ((h.sfi 502 a1 x3).sfi 503 a1 x4) x5 (some a1) e4) (mb_xX9_scan_77 N t0 _ _ hJ) hz2 hk0 (by decide) rfl (fs := fs12 ((h.sfi 502 a1 x3).sfi 503 a1 x4) t0) rfl rfl ⟨tw_5_169, tw_5_166, tw_5_168, ts_18, tw_1_1⟩ cd_X9_carryOut ⟨by decide, by decide⟩ hl.1 (by first | exact Nat.le_of_ble_eq_true rfl | simp [rf_cat, cat_i, cat_l, cat_r]) rfl dX9_scan_74 (fun H locs w1 => ?_)
  have hk5 := kd_keep w (mo_X9_carryOut N t0 ((h.sfi 502 a1 x3).sfi 503 a1 x4) x5 (some a1) e4) hk0 (by decide)
  have w := w1
  exact sb_xX9_scan_77 C hl0 htab hz3 N t0 _ _ hJ hk5 w (lv_sub (l' := [(0, .ref t0)]) hl [1] rfl)
def B_xX9_scan_48 (N : Nat) (t0 : Nat) (h : Hp) (x2 : Int32) (x3 : Int32) (x4 : Int32) (x5 : Option Nat) (y0 : Option Nat) : Option (Hp × String) := dr h 5 y0 (fun a6 => (J_X2_init N a6 h (2 : Int32) x2).bind (fun z => B_xX9_scan_54 N t0 z.1 x3 x4 x5 (some a6)))
theorem mb_xX9_scan_48 (N : Nat) (t0 : Nat) (h : Hp) (x2 : Int32) (x3 : Int32) (x4 : Int32) (x5 : Option Nat) (y0 : Option Nat) (hJ : B_xX9_scan_48 N t0 h x2 x3 x4 x5 y0 = some (hz, ez)) : Mo h hz := by
  unfold B_xX9_scan_48 at hJ
  obtain ⟨a6, ea6, -, hJ⟩ := dr_some hJ
  obtain ⟨⟨h7, r8⟩, e9, hJ⟩ := ob_some hJ
  exact (mo_X2_init N a6 h (2 : Int32) x2 e9).tr (mb_xX9_scan_54 N t0 _ _ _ _ _ hJ)
set_option maxRecDepth 100000 in
set_option maxHeartbeats 4000000 in
theorem sb_xX9_scan_48 (C : Cx p s m args meth c cX9_scan 7 (some .int) RX9 D cs A h0.se) (hl0 : l.stackTraces = false) (htab : ∀ x ∈ c.exceptionTable.toList, False) (hz3 : hz.nx + 1 ≤ h0.nx + mc ∧ hz.su + 6 ≤ h0.su + ms) (N : Nat) (t0 : Nat) (h : Hp) (x2 : Int32) (x3 : Int32) (x4 : Int32) (x5 : Option Nat) (y0 : Option Nat) (hJ : B_xX9_scan_48 N t0 h x2 x3 x4 x5 y0 = some (hz, ez)) (hk0 : h.kd t0 = 12) {H : Heap} {locs : List Loc} {cells slots : Nat} (w : Wo D cs A s h0 h H locs cells slots) {ls : Array Slot} (hl : lv_has ls 7 [(0, .ref t0), (2, .int x2), (3, .int x3), (4, .int x4), (5, va_rf x5)]) : W p l e { frames := 10, cells := mc, slots := ms, locals := 320 } s m args below meth c H locs cells slots (vx_MQ below xF (XE D cs A hz ez) args s mc ms A) (F0 m 48 ls [va_rf y0]) := by
  obtain ⟨hx, hb, hml, hown, hts, -⟩ := id C
  have hz2 : hz.nx ≤ h0.nx + mc ∧ hz.su ≤ h0.su + ms := ⟨by omega, by omega⟩
  unfold B_xX9_scan_48 at hJ
  refine lv_dup hx hb dX9_scan_48 (rf_cat _) ?_
  refine lv_iconst (v := (2 : Int32)) hx hb dX9_scan_49 (by decide) ?_
  refine lv_iload_n hx hb dX9_scan_50 rfl (lv_at hl 1 rfl) ?_
  obtain ⟨a6, ea6, hka6, hJ⟩ := dr_some hJ
  rw [ea6]
  obtain ⟨⟨h7, r8⟩, e9, hJ⟩ := ob_some hJ
  refine jc_I (As := [.int (2 : Int32), .int x2]) C w (cc_X2_init N a6 h (2 : Int32) x2 hka6 e9) (mo_X2_init N a6 h (2 : Int32) x2 e9) (mb_xX9_scan_54 N t0 _ _ _ _ _ hJ) hz2 tw_5_135 tw_5_133 tw_5_134 tw_1_21 rfl cd_X2_init ⟨by decide, by decide⟩ hl.1 (by first | exact Nat.le_of_ble_eq_true rfl | simp [rf_cat, cat_i, cat_l, cat_r]) rfl dX9_scan_51 (fun H locs w1 => ?_)
  have hk10 := kd_keep w (mo_X2_init N a6 h (2 : Int32) x2 e9) hk0 (by decide)
  have w := w1
  exact sb_xX9_scan_54 C hl0 htab hz3 N t0 _ _ _ _ _ hJ hk10 w (lv_sub (l' := [(0, .ref t0), (3, .int x3), (4, .int x4), (5, va_rf x5)]) hl [0, 2, 3, 4] rfl)
def B_xX9_scan_5 (N : Nat) (t0 : Nat) (h : Hp) (x2 : Int32) (x3 : Int32) (x4 : Int32) (y0 : Option Nat) : Option (Hp × String) := if x2 ≤ x3 then (if x4 < (1 : Int32) then (B_xX9_scan_35 N t0 h) else (if x4 ≤ (100 : Int32) then (B_xX9_scan_48 N t0 (h.new 5 0 7) x2 x3 x4 y0 (some h.nx)) else (B_xX9_scan_35 N t0 h))) else (some (h, "java/lang/IllegalArgumentException"))
theorem mb_xX9_scan_5 (N : Nat) (t0 : Nat) (h : Hp) (x2 : Int32) (x3 : Int32) (x4 : Int32) (y0 : Option Nat) (hJ : B_xX9_scan_5 N t0 h x2 x3 x4 y0 = some (hz, ez)) : Mo h hz := by
  unfold B_xX9_scan_5 at hJ
  by_cases c11 : x2 ≤ x3
  · have hJ := it_pos c11 hJ
    by_cases c12 : x4 < (1 : Int32)
    · have hJ := it_pos c12 hJ
      exact mb_xX9_scan_35 N t0 _ hJ
    · have hJ := it_neg c12 hJ
      by_cases c13 : x4 ≤ (100 : Int32)
      · have hJ := it_pos c13 hJ
        exact (Mo.new h _ _ _).tr (mb_xX9_scan_48 N t0 _ _ _ _ _ _ hJ)
      · have hJ := it_neg c13 hJ
        exact mb_xX9_scan_35 N t0 _ hJ
  · have hJ := it_neg c11 hJ
    obtain ⟨rfl, -⟩ := rs2 hJ
    exact ⟨fun _ _ => rfl, Nat.le_refl _, Nat.le_refl _, rfl, fun _ _ => rfl⟩
set_option maxRecDepth 100000 in
set_option maxHeartbeats 4000000 in
theorem sb_xX9_scan_5 (C : Cx p s m args meth c cX9_scan 7 (some .int) RX9 D cs A h0.se) (hl0 : l.stackTraces = false) (htab : ∀ x ∈ c.exceptionTable.toList, False) (hz3 : hz.nx + 1 ≤ h0.nx + mc ∧ hz.su + 6 ≤ h0.su + ms) (N : Nat) (t0 : Nat) (h : Hp) (x2 : Int32) (x3 : Int32) (x4 : Int32) (y0 : Option Nat) (hJ : B_xX9_scan_5 N t0 h x2 x3 x4 y0 = some (hz, ez)) (hk0 : h.kd t0 = 12) {H : Heap} {locs : List Loc} {cells slots : Nat} (w : Wo D cs A s h0 h H locs cells slots) {ls : Array Slot} (hl : lv_has ls 7 [(0, .ref t0), (2, .int x2), (3, .int x3), (4, .int x4)]) : W p l e { frames := 10, cells := mc, slots := ms, locals := 320 } s m args below meth c H locs cells slots (vx_MQ below xF (XE D cs A hz ez) args s mc ms A) (F0 m 5 ls [va_rf y0]) := by
  obtain ⟨hx, hb, hml, hown, hts, -⟩ := id C
  have hz2 : hz.nx ≤ h0.nx + mc ∧ hz.su ≤ h0.su + ms := ⟨by omega, by omega⟩
  unfold B_xX9_scan_5 at hJ
  refine jv_astore (i := 5) (lv' := [(5, va_rf y0), (0, .ref t0), (2, .int x2), (3, .int x3), (4, .int x4)]) hx hb dX9_scan_5 hl (by decide) rfl (fun ls hl => ?_)
  refine lv_iload_n hx hb dX9_scan_7 rfl (lv_at hl 2 rfl) ?_
  refine lv_iload_n hx hb dX9_scan_8 rfl (lv_at hl 3 rfl) ?_
  refine lv_icmp_le (tgt := 22) hx hb dX9_scan_9 (by decide) (fun c11 => ?_) (fun c11 => ?_)
  · have hJ := it_pos c11 hJ
    refine lv_iload hx hb dX9_scan_22 (lv_at hl 4 rfl) ?_
    refine lv_iconst (v := (1 : Int32)) hx hb dX9_scan_24 (by decide) ?_
    refine lv_icmp_lt (tgt := 35) hx hb dX9_scan_25 (by decide) (fun c12 => ?_) (fun c12 => ?_)
    · have hJ := it_pos c12 hJ
      exact sb_xX9_scan_35 C hl0 htab hz3 N t0 _ hJ hk0 w (lv_sub (l' := [(0, .ref t0)]) hl [1] rfl)
    · have hJ := it_neg c12 hJ
      refine lv_iload hx hb dX9_scan_28 (lv_at hl 4 rfl) ?_
      refine lv_bipush (v := (100 : Int32)) hx hb dX9_scan_30 (by decide) ?_
      refine lv_icmp_le (tgt := 45) hx hb dX9_scan_32 (by decide) (fun c13 => ?_) (fun c13 => ?_)
      · have hJ := it_pos c13 hJ
        have w0 := w
        refine fn_5 C w (mb_xX9_scan_48 N t0 _ _ _ _ _ _ hJ) hz2 tw_5_131 dX9_scan_45 (fun H w => ?_)
        have hk14 := kd_new (k := 5) (n := 0) (sl := 7) w0 hk0 (by decide)
        exact sb_xX9_scan_48 C hl0 htab hz3 N t0 _ _ _ _ _ _ hJ hk14 w (lv_sub (l' := [(0, .ref t0), (2, .int x2), (3, .int x3), (4, .int x4), (5, va_rf y0)]) hl [1, 2, 3, 4, 0] rfl)
      · have hJ := it_neg c13 hJ
        exact sb_xX9_scan_35 C hl0 htab hz3 N t0 _ hJ hk0 w (lv_sub (l' := [(0, .ref t0)]) hl [1] rfl)
  · have hJ := it_neg c11 hJ
    obtain ⟨rfl, rfl⟩ := rs2 hJ
    exact jx_S C hl0 htab w hz3 (by decide +kernel) tw_6_22 tw_1_30 (xa_122 hts (xw_of C)) (xg_122 _) (xw_of C).2.2.2.2.2.2.2.2.2.2.1 hl.1 dX9_scan_12 dX9_scan_15 dX9_scan_16 dX9_scan_18 dX9_scan_21 (by decide) (by first | exact Nat.le_of_ble_eq_true rfl | simp [rf_cat, cat_i, cat_l, cat_r])
def B_xX9_scan_0 (N : Nat) (t0 : Nat) (h : Hp) (x1 : Int32) (x2 : Int32) (x3 : Int32) (x4 : Int32) : Option (Hp × String) := orX (J_xX9_activeOne N t0 h x1) ((J_X9_activeOne N t0 h x1).bind (fun z => B_xX9_scan_5 N t0 z.1 x2 x3 x4 z.2))
theorem mb_xX9_scan_0 (N : Nat) (t0 : Nat) (h : Hp) (x1 : Int32) (x2 : Int32) (x3 : Int32) (x4 : Int32) (hJ : B_xX9_scan_0 N t0 h x1 x2 x3 x4 = some (hz, ez)) : Mo h hz := by
  unfold B_xX9_scan_0 at hJ
  rcases orX_some hJ with hX | ⟨-, hJ⟩
  · exact mo_xX9_activeOne N t0 h x1 hX
  · obtain ⟨⟨h15, r16⟩, e17, hJ⟩ := ob_some hJ
    exact (mo_X9_activeOne N t0 h x1 e17).tr (mb_xX9_scan_5 N t0 _ _ _ _ _ hJ)
set_option maxRecDepth 100000 in
set_option maxHeartbeats 4000000 in
theorem sb_xX9_scan_0 (C : Cx p s m args meth c cX9_scan 7 (some .int) RX9 D cs A h0.se) (hl0 : l.stackTraces = false) (htab : ∀ x ∈ c.exceptionTable.toList, False) (hz3 : hz.nx + 1 ≤ h0.nx + mc ∧ hz.su + 6 ≤ h0.su + ms) (N : Nat) (t0 : Nat) (h : Hp) (x1 : Int32) (x2 : Int32) (x3 : Int32) (x4 : Int32) (hJ : B_xX9_scan_0 N t0 h x1 x2 x3 x4 = some (hz, ez)) (hk0 : h.kd t0 = 12) {H : Heap} {locs : List Loc} {cells slots : Nat} (w : Wo D cs A s h0 h H locs cells slots) {ls : Array Slot} (hl : lv_has ls 7 [(0, .ref t0), (1, .int x1), (2, .int x2), (3, .int x3), (4, .int x4)]) : W p l e { frames := 10, cells := mc, slots := ms, locals := 320 } s m args below meth c H locs cells slots (vx_MQ below xF (XE D cs A hz ez) args s mc ms A) (F0 m 0 ls []) := by
  obtain ⟨hx, hb, hml, hown, hts, -⟩ := id C
  have hz2 : hz.nx ≤ h0.nx + mc ∧ hz.su ≤ h0.su + ms := ⟨by omega, by omega⟩
  unfold B_xX9_scan_0 at hJ
  refine lv_aload_n hx hb dX9_scan_0 rfl (lv_at hl 0 rfl) ?_
  refine lv_iload_n hx hb dX9_scan_1 rfl (lv_at hl 1 rfl) ?_
  rcases orX_some hJ with hX | ⟨-, hJ⟩
  · exact jx_V (As := [.int x1]) C htab w (xc_X9_activeOne hl0 N t0 h x1 hk0 hX) (mo_xX9_activeOne N t0 h x1 hX) hz3 hk0 (by decide) rfl (fs := fs12 h t0) rfl rfl ⟨tw_5_114, tw_5_111, tw_5_113, ts_17, tw_1_1⟩ cd_X9_activeOne ⟨by decide, by decide⟩ hl.1 (by first | exact Nat.le_of_ble_eq_true rfl | simp [rf_cat, cat_i, cat_l, cat_r]) rfl dX9_scan_2
  · obtain ⟨⟨h15, r16⟩, e17, hJ⟩ := ob_some hJ
    refine jc_Vq (As := [.int x1]) C w (cc_X9_activeOne N t0 h x1 hk0 e17) (mo_X9_activeOne N t0 h x1 e17) (mb_xX9_scan_5 N t0 _ _ _ _ _ hJ) hz2 hk0 (by decide) rfl (fs := fs12 h t0) rfl rfl ⟨tw_5_114, tw_5_111, tw_5_113, ts_17, tw_1_1⟩ cd_X9_activeOne ⟨by decide, by decide⟩ hl.1 (by first | exact Nat.le_of_ble_eq_true rfl | simp [rf_cat, cat_i, cat_l, cat_r]) rfl dX9_scan_2 (fun H locs w1 => ?_)
    have hk18 := kd_keep w (mo_X9_activeOne N t0 h x1 e17) hk0 (by decide)
    have w := w1
    exact sb_xX9_scan_5 C hl0 htab hz3 N t0 _ _ _ _ _ hJ hk18 w (lv_sub (l' := [(0, .ref t0), (2, .int x2), (3, .int x3), (4, .int x4)]) hl [0, 2, 3, 4] rfl)
def J_xX9_scan (N : Nat) (t0 : Nat) (h : Hp) (x1 : Int32) (x2 : Int32) (x3 : Int32) (x4 : Int32) : Option (Hp × String) := B_xX9_scan_0 N t0 h x1 x2 x3 x4
theorem mo_xX9_scan (N : Nat) (t0 : Nat) (h : Hp) (x1 : Int32) (x2 : Int32) (x3 : Int32) (x4 : Int32) (hJ : J_xX9_scan N t0 h x1 x2 x3 x4 = some (hz, ez)) : Mo h hz := mb_xX9_scan_0 N t0 h x1 x2 x3 x4 hJ
theorem xc_X9_scan (hl0 : l.stackTraces = false) (N : Nat) (t0 : Nat) (h : Hp) (x1 : Int32) (x2 : Int32) (x3 : Int32) (x4 : Int32) (hk0 : h.kd t0 = 12) (hJ : J_xX9_scan N t0 h x1 x2 x3 x4 = some (hz, ez)) : Xc l yX9_scan cX9_scan 7 (some .int) 10 320 D cs h hz ez [.ref t0, .int x1, .int x2, .int x3, .int x4] := by
  intro mc ms g1 g2
  refine je_anyX (by decide) (by simp [lg_sl, rf_cat, cat_i, cat_l, cat_r]) ?_
  intro p e s m args below meth c C htab w ls hl
  have hl : lv_has ls 7 [(0, .ref t0), (1, .int x1), (2, .int x2), (3, .int x3), (4, .int x4)] := hl
  exact sb_xX9_scan_0 C hl0 htab ⟨g1, g2⟩ N t0 h x1 x2 x3 x4 hJ hk0 w hl
end G_xX9_scan
section G_xX9_write
variable {p : Program} {l : Launch} {e : Env} {s : State} {m : MethodId} {args : Array Value} {below : List Frame} {meth : Method} {c : Code} {D : va_G} {cs : C4} {A : Nat → Prop} {h0 hz : Hp} {mc ms : Nat} {ez : String}
def B_xX9_write_38 (N : Nat) (t0 : Nat) (h : Hp) (y0 : Int32) : Option (Hp × String) := none
theorem mb_xX9_write_38 (N : Nat) (t0 : Nat) (h : Hp) (y0 : Int32) (hJ : B_xX9_write_38 N t0 h y0 = some (hz, ez)) : Mo h hz := by
  unfold B_xX9_write_38 at hJ
  cases hJ
set_option maxRecDepth 100000 in
set_option maxHeartbeats 4000000 in
theorem sb_xX9_write_38 (C : Cx p s m args meth c cX9_write 7 (some .int) RX9 D cs A h0.se) (hl0 : l.stackTraces = false) (htab : ∀ x ∈ c.exceptionTable.toList, False) (hz3 : hz.nx + 1 ≤ h0.nx + mc ∧ hz.su + 6 ≤ h0.su + ms) (N : Nat) (t0 : Nat) (h : Hp) (y0 : Int32) (hJ : B_xX9_write_38 N t0 h y0 = some (hz, ez)) (hk0 : h.kd t0 = 12) {H : Heap} {locs : List Loc} {cells slots : Nat} (w : Wo D cs A s h0 h H locs cells slots) {ls : Array Slot} (hl : lv_has ls 7 [(0, .ref t0)]) : W p l e { frames := 10, cells := mc, slots := ms, locals := 320 } s m args below meth c H locs cells slots (vx_MQ below xF (XE D cs A hz ez) args s mc ms A) (F0 m 38 ls [.int y0]) := by
  obtain ⟨hx, hb, hml, hown, hts, -⟩ := id C
  have hz2 : hz.nx ≤ h0.nx + mc ∧ hz.su ≤ h0.su + ms := ⟨by omega, by omega⟩
  unfold B_xX9_write_38 at hJ
  cases hJ
def B_xX9_write_16 (N : Nat) (t0 : Nat) (h : Hp) (x3 : Int64) (x5 : Option Nat) (y0 : Option Nat) : Option (Hp × String) := dr h 5 y0 (fun a1 => (J_X9_carryOut N t0 ((h.sfi 504 a1 (1 : Int32)).sfl 505 a1 x3) x5 (some a1)).bind (fun z => B_xX9_write_38 N t0 z.1 z.2))
theorem mb_xX9_write_16 (N : Nat) (t0 : Nat) (h : Hp) (x3 : Int64) (x5 : Option Nat) (y0 : Option Nat) (hJ : B_xX9_write_16 N t0 h x3 x5 y0 = some (hz, ez)) : Mo h hz := by
  unfold B_xX9_write_16 at hJ
  obtain ⟨a1, ea1, -, hJ⟩ := dr_some hJ
  obtain ⟨⟨h2, r3⟩, e4, hJ⟩ := ob_some hJ
  exact (Mo.tr (show Mo h ((h.sfi 504 a1 (1 : Int32)).sfl 505 a1 x3) from ⟨fun _ _ => rfl, Nat.le_refl _, Nat.le_refl _, rfl, fun _ _ => rfl⟩) ((mo_X9_carryOut N t0 ((h.sfi 504 a1 (1 : Int32)).sfl 505 a1 x3) x5 (some a1) e4).tr (mb_xX9_write_38 N t0 _ _ hJ)))
set_option maxRecDepth 100000 in
set_option maxHeartbeats 4000000 in
theorem sb_xX9_write_16 (C : Cx p s m args meth c cX9_write 7 (some .int) RX9 D cs A h0.se) (hl0 : l.stackTraces = false) (htab : ∀ x ∈ c.exceptionTable.toList, False) (hz3 : hz.nx + 1 ≤ h0.nx + mc ∧ hz.su + 6 ≤ h0.su + ms) (N : Nat) (t0 : Nat) (h : Hp) (x3 : Int64) (x5 : Option Nat) (y0 : Option Nat) (hJ : B_xX9_write_16 N t0 h x3 x5 y0 = some (hz, ez)) (hk0 : h.kd t0 = 12) {H : Heap} {locs : List Loc} {cells slots : Nat} (w : Wo D cs A s h0 h H locs cells slots) {ls : Array Slot} (hl : lv_has ls 7 [(0, .ref t0), (3, .long x3), (5, va_rf x5)]) : W p l e { frames := 10, cells := mc, slots := ms, locals := 320 } s m args below meth c H locs cells slots (vx_MQ below xF (XE D cs A hz ez) args s mc ms A) (F0 m 16 ls [va_rf y0]) := by
  obtain ⟨hx, hb, hml, hown, hts, -⟩ := id C
  have hz2 : hz.nx ≤ h0.nx + mc ∧ hz.su ≤ h0.su + ms := ⟨by omega, by omega⟩
  unfold B_xX9_write_16 at hJ
  refine jv_astore (i := 6) (lv' := [(6, va_rf y0), (0, .ref t0), (3, .long x3), (5, va_rf x5)]) hx hb dX9_write_16 hl (by decide) (by simp [List.filter, rf_cat, cat_i, cat_l, cat_r]) (fun ls hl => ?_)
  refine jv_aload hx hb dX9_write_18 (lv_at hl 0 rfl) ?_
  refine lv_iconst (v := (1 : Int32)) hx hb dX9_write_20 (by decide) ?_
  obtain ⟨a1, ea1, hka1, hJ⟩ := dr_some hJ
  rw [ea1] at hl
  rw [ea1]
  refine fp_504 (x := (1 : Int32)) C w hka1 (Or.inr rfl) tw_5_145 dX9_write_21 (fun H locs w => ?_)
  refine lv_aload hx hb dX9_write_24 (lv_at hl 0 rfl) ?_
  refine lv_lload_n hx hb dX9_write_26 rfl (lv_at hl 2 rfl) ?_
  refine fp_505 (x := x3) C w hka1 tw_5_147 dX9_write_27 (fun H locs w => ?_)
  refine lv_aload_n hx hb dX9_write_30 rfl (lv_at hl 1 rfl) ?_
  refine jv_aload hx hb dX9_write_31 (lv_at hl 3 rfl) ?_
  refine lv_aload hx hb dX9_write_33 (lv_at hl 0 rfl) ?_
  obtain ⟨⟨h2, r3⟩, e4, hJ⟩ := ob_some hJ
  refine jc_Vi (As := [va_rf x5, .ref a1]) C w (cc_X9_carryOut N t0 ((h.sfi 504 a1 (1 : Int32)).sfl 505 a1 x3) x5 (some a1) hk0 e4) (mo_X9_carryOut N t0 ((h.sfi 504 a1 (1 : Int32)).sfl 505 a1 x3) x5 (some a1) e4) (mb_xX9_write_38 N t0 _ _ hJ) hz2 hk0 (by decide) rfl (fs := fs12 ((h.sfi 504 a1 (1 : Int32)).sfl 505 a1 x3) t0) rfl rfl ⟨tw_5_169, tw_5_166, tw_5_168, ts_18, tw_1_1⟩ cd_X9_carryOut ⟨by decide, by decide⟩ hl.1 (by first | exact Nat.le_of_ble_eq_true rfl | simp [rf_cat, cat_i, cat_l, cat_r]) rfl dX9_write_35 (fun H locs w1 => ?_)
  have hk5 := kd_keep w (mo_X9_carryOut N t0 ((h.sfi 504 a1 (1 : Int32)).sfl 505 a1 x3) x5 (some a1) e4) hk0 (by decide)
  have w := w1
  exact sb_xX9_write_38 C hl0 htab hz3 N t0 _ _ hJ hk5 w (lv_sub (l' := [(0, .ref t0)]) hl [1] rfl)
def B_xX9_write_10 (N : Nat) (t0 : Nat) (h : Hp) (x2 : Int32) (x3 : Int64) (x5 : Option Nat) (y0 : Option Nat) : Option (Hp × String) := dr h 5 y0 (fun a6 => (J_X2_init N a6 h (3 : Int32) x2).bind (fun z => B_xX9_write_16 N t0 z.1 x3 x5 (some a6)))
theorem mb_xX9_write_10 (N : Nat) (t0 : Nat) (h : Hp) (x2 : Int32) (x3 : Int64) (x5 : Option Nat) (y0 : Option Nat) (hJ : B_xX9_write_10 N t0 h x2 x3 x5 y0 = some (hz, ez)) : Mo h hz := by
  unfold B_xX9_write_10 at hJ
  obtain ⟨a6, ea6, -, hJ⟩ := dr_some hJ
  obtain ⟨⟨h7, r8⟩, e9, hJ⟩ := ob_some hJ
  exact (mo_X2_init N a6 h (3 : Int32) x2 e9).tr (mb_xX9_write_16 N t0 _ _ _ _ hJ)
set_option maxRecDepth 100000 in
set_option maxHeartbeats 4000000 in
theorem sb_xX9_write_10 (C : Cx p s m args meth c cX9_write 7 (some .int) RX9 D cs A h0.se) (hl0 : l.stackTraces = false) (htab : ∀ x ∈ c.exceptionTable.toList, False) (hz3 : hz.nx + 1 ≤ h0.nx + mc ∧ hz.su + 6 ≤ h0.su + ms) (N : Nat) (t0 : Nat) (h : Hp) (x2 : Int32) (x3 : Int64) (x5 : Option Nat) (y0 : Option Nat) (hJ : B_xX9_write_10 N t0 h x2 x3 x5 y0 = some (hz, ez)) (hk0 : h.kd t0 = 12) {H : Heap} {locs : List Loc} {cells slots : Nat} (w : Wo D cs A s h0 h H locs cells slots) {ls : Array Slot} (hl : lv_has ls 7 [(0, .ref t0), (2, .int x2), (3, .long x3), (5, va_rf x5)]) : W p l e { frames := 10, cells := mc, slots := ms, locals := 320 } s m args below meth c H locs cells slots (vx_MQ below xF (XE D cs A hz ez) args s mc ms A) (F0 m 10 ls [va_rf y0]) := by
  obtain ⟨hx, hb, hml, hown, hts, -⟩ := id C
  have hz2 : hz.nx ≤ h0.nx + mc ∧ hz.su ≤ h0.su + ms := ⟨by omega, by omega⟩
  unfold B_xX9_write_10 at hJ
  refine lv_dup hx hb dX9_write_10 (rf_cat _) ?_
  refine lv_iconst (v := (3 : Int32)) hx hb dX9_write_11 (by decide) ?_
  refine lv_iload_n hx hb dX9_write_12 rfl (lv_at hl 1 rfl) ?_
  obtain ⟨a6, ea6, hka6, hJ⟩ := dr_some hJ
  rw [ea6]
  obtain ⟨⟨h7, r8⟩, e9, hJ⟩ := ob_some hJ
  refine jc_I (As := [.int (3 : Int32), .int x2]) C w (cc_X2_init N a6 h (3 : Int32) x2 hka6 e9) (mo_X2_init N a6 h (3 : Int32) x2 e9) (mb_xX9_write_16 N t0 _ _ _ _ hJ) hz2 tw_5_135 tw_5_133 tw_5_134 tw_1_21 rfl cd_X2_init ⟨by decide, by decide⟩ hl.1 (by first | exact Nat.le_of_ble_eq_true rfl | simp [rf_cat, cat_i, cat_l, cat_r]) rfl dX9_write_13 (fun H locs w1 => ?_)
  have hk10 := kd_keep w (mo_X2_init N a6 h (3 : Int32) x2 e9) hk0 (by decide)
  have w := w1
  exact sb_xX9_write_16 C hl0 htab hz3 N t0 _ _ _ _ hJ hk10 w (lv_sub (l' := [(0, .ref t0), (3, .long x3), (5, va_rf x5)]) hl [0, 2, 3] rfl)
def B_xX9_write_5 (N : Nat) (t0 : Nat) (h : Hp) (x2 : Int32) (x3 : Int64) (y0 : Option Nat) : Option (Hp × String) := B_xX9_write_10 N t0 (h.new 5 0 7) x2 x3 y0 (some h.nx)
theorem mb_xX9_write_5 (N : Nat) (t0 : Nat) (h : Hp) (x2 : Int32) (x3 : Int64) (y0 : Option Nat) (hJ : B_xX9_write_5 N t0 h x2 x3 y0 = some (hz, ez)) : Mo h hz := by
  unfold B_xX9_write_5 at hJ
  exact (Mo.new h _ _ _).tr (mb_xX9_write_10 N t0 _ _ _ _ _ hJ)
set_option maxRecDepth 100000 in
set_option maxHeartbeats 4000000 in
theorem sb_xX9_write_5 (C : Cx p s m args meth c cX9_write 7 (some .int) RX9 D cs A h0.se) (hl0 : l.stackTraces = false) (htab : ∀ x ∈ c.exceptionTable.toList, False) (hz3 : hz.nx + 1 ≤ h0.nx + mc ∧ hz.su + 6 ≤ h0.su + ms) (N : Nat) (t0 : Nat) (h : Hp) (x2 : Int32) (x3 : Int64) (y0 : Option Nat) (hJ : B_xX9_write_5 N t0 h x2 x3 y0 = some (hz, ez)) (hk0 : h.kd t0 = 12) {H : Heap} {locs : List Loc} {cells slots : Nat} (w : Wo D cs A s h0 h H locs cells slots) {ls : Array Slot} (hl : lv_has ls 7 [(0, .ref t0), (2, .int x2), (3, .long x3)]) : W p l e { frames := 10, cells := mc, slots := ms, locals := 320 } s m args below meth c H locs cells slots (vx_MQ below xF (XE D cs A hz ez) args s mc ms A) (F0 m 5 ls [va_rf y0]) := by
  obtain ⟨hx, hb, hml, hown, hts, -⟩ := id C
  have hz2 : hz.nx ≤ h0.nx + mc ∧ hz.su ≤ h0.su + ms := ⟨by omega, by omega⟩
  unfold B_xX9_write_5 at hJ
  refine jv_astore (i := 5) (lv' := [(5, va_rf y0), (0, .ref t0), (2, .int x2), (3, .long x3)]) hx hb dX9_write_5 hl (by decide) rfl (fun ls hl => ?_)
  have w0 := w
  refine fn_5 C w (mb_xX9_write_10 N t0 _ _ _ _ _ hJ) hz2 tw_5_131 dX9_write_7 (fun H w => ?_)
  have hk11 := kd_new (k := 5) (n := 0) (sl := 7) w0 hk0 (by decide)
  exact sb_xX9_write_10 C hl0 htab hz3 N t0 _ _ _ _ _ hJ hk11 w (lv_sub (l' := [(0, .ref t0), (2, .int x2), (3, .long x3), (5, va_rf y0)]) hl [1, 2, 3, 0] rfl)
def B_xX9_write_0 (N : Nat) (t0 : Nat) (h : Hp) (x1 : Int32) (x2 : Int32) (x3 : Int64) : Option (Hp × String) := orX (J_xX9_writingOne N t0 h x1) ((J_X9_writingOne N t0 h x1).bind (fun z => B_xX9_write_5 N t0 z.1 x2 x3 z.2))
theorem mb_xX9_write_0 (N : Nat) (t0 : Nat) (h : Hp) (x1 : Int32) (x2 : Int32) (x3 : Int64) (hJ : B_xX9_write_0 N t0 h x1 x2 x3 = some (hz, ez)) : Mo h hz := by
  unfold B_xX9_write_0 at hJ
  rcases orX_some hJ with hX | ⟨-, hJ⟩
  · exact mo_xX9_writingOne N t0 h x1 hX
  · obtain ⟨⟨h12, r13⟩, e14, hJ⟩ := ob_some hJ
    exact (mo_X9_writingOne N t0 h x1 e14).tr (mb_xX9_write_5 N t0 _ _ _ _ hJ)
set_option maxRecDepth 100000 in
set_option maxHeartbeats 4000000 in
theorem sb_xX9_write_0 (C : Cx p s m args meth c cX9_write 7 (some .int) RX9 D cs A h0.se) (hl0 : l.stackTraces = false) (htab : ∀ x ∈ c.exceptionTable.toList, False) (hz3 : hz.nx + 1 ≤ h0.nx + mc ∧ hz.su + 6 ≤ h0.su + ms) (N : Nat) (t0 : Nat) (h : Hp) (x1 : Int32) (x2 : Int32) (x3 : Int64) (hJ : B_xX9_write_0 N t0 h x1 x2 x3 = some (hz, ez)) (hk0 : h.kd t0 = 12) {H : Heap} {locs : List Loc} {cells slots : Nat} (w : Wo D cs A s h0 h H locs cells slots) {ls : Array Slot} (hl : lv_has ls 7 [(0, .ref t0), (1, .int x1), (2, .int x2), (3, .long x3)]) : W p l e { frames := 10, cells := mc, slots := ms, locals := 320 } s m args below meth c H locs cells slots (vx_MQ below xF (XE D cs A hz ez) args s mc ms A) (F0 m 0 ls []) := by
  obtain ⟨hx, hb, hml, hown, hts, -⟩ := id C
  have hz2 : hz.nx ≤ h0.nx + mc ∧ hz.su ≤ h0.su + ms := ⟨by omega, by omega⟩
  unfold B_xX9_write_0 at hJ
  refine lv_aload_n hx hb dX9_write_0 rfl (lv_at hl 0 rfl) ?_
  refine lv_iload_n hx hb dX9_write_1 rfl (lv_at hl 1 rfl) ?_
  rcases orX_some hJ with hX | ⟨-, hJ⟩
  · exact jx_V (As := [.int x1]) C htab w (xc_X9_writingOne hl0 N t0 h x1 hk0 hX) (mo_xX9_writingOne N t0 h x1 hX) hz3 hk0 (by decide) rfl (fs := fs12 h t0) rfl rfl ⟨tw_6_69, tw_6_66, tw_6_68, ts_25, tw_1_1⟩ cd_X9_writingOne ⟨by decide, by decide⟩ hl.1 (by first | exact Nat.le_of_ble_eq_true rfl | simp [rf_cat, cat_i, cat_l, cat_r]) rfl dX9_write_2
  · obtain ⟨⟨h12, r13⟩, e14, hJ⟩ := ob_some hJ
    refine jc_Vq (As := [.int x1]) C w (cc_X9_writingOne N t0 h x1 hk0 e14) (mo_X9_writingOne N t0 h x1 e14) (mb_xX9_write_5 N t0 _ _ _ _ hJ) hz2 hk0 (by decide) rfl (fs := fs12 h t0) rfl rfl ⟨tw_6_69, tw_6_66, tw_6_68, ts_25, tw_1_1⟩ cd_X9_writingOne ⟨by decide, by decide⟩ hl.1 (by first | exact Nat.le_of_ble_eq_true rfl | simp [rf_cat, cat_i, cat_l, cat_r]) rfl dX9_write_2 (fun H locs w1 => ?_)
    have hk15 := kd_keep w (mo_X9_writingOne N t0 h x1 e14) hk0 (by decide)
    have w := w1
    exact sb_xX9_write_5 C hl0 htab hz3 N t0 _ _ _ _ hJ hk15 w (lv_sub (l' := [(0, .ref t0), (2, .int x2), (3, .long x3)]) hl [0, 2, 3] rfl)
def J_xX9_write (N : Nat) (t0 : Nat) (h : Hp) (x1 : Int32) (x2 : Int32) (x3 : Int64) : Option (Hp × String) := B_xX9_write_0 N t0 h x1 x2 x3
theorem mo_xX9_write (N : Nat) (t0 : Nat) (h : Hp) (x1 : Int32) (x2 : Int32) (x3 : Int64) (hJ : J_xX9_write N t0 h x1 x2 x3 = some (hz, ez)) : Mo h hz := mb_xX9_write_0 N t0 h x1 x2 x3 hJ
theorem xc_X9_write (hl0 : l.stackTraces = false) (N : Nat) (t0 : Nat) (h : Hp) (x1 : Int32) (x2 : Int32) (x3 : Int64) (hk0 : h.kd t0 = 12) (hJ : J_xX9_write N t0 h x1 x2 x3 = some (hz, ez)) : Xc l yX9_write cX9_write 7 (some .int) 10 320 D cs h hz ez [.ref t0, .int x1, .int x2, .long x3] := by
  intro mc ms g1 g2
  refine je_anyX (by decide) (by simp [lg_sl, rf_cat, cat_i, cat_l, cat_r]) ?_
  intro p e s m args below meth c C htab w ls hl
  have hl : lv_has ls 7 [(0, .ref t0), (1, .int x1), (2, .int x2), (3, .long x3)] := hl
  exact sb_xX9_write_0 C hl0 htab ⟨g1, g2⟩ N t0 h x1 x2 x3 hJ hk0 w hl
end G_xX9_write
section G_xX9_remove
variable {p : Program} {l : Launch} {e : Env} {s : State} {m : MethodId} {args : Array Value} {below : List Frame} {meth : Method} {c : Code} {D : va_G} {cs : C4} {A : Nat → Prop} {h0 hz : Hp} {mc ms : Nat} {ez : String}
def B_xX9_remove_20 (N : Nat) (t0 : Nat) (h : Hp) (y0 : Int32) : Option (Hp × String) := none
theorem mb_xX9_remove_20 (N : Nat) (t0 : Nat) (h : Hp) (y0 : Int32) (hJ : B_xX9_remove_20 N t0 h y0 = some (hz, ez)) : Mo h hz := by
  unfold B_xX9_remove_20 at hJ
  cases hJ
set_option maxRecDepth 100000 in
set_option maxHeartbeats 4000000 in
theorem sb_xX9_remove_20 (C : Cx p s m args meth c cX9_remove 4 (some .int) RX9 D cs A h0.se) (hl0 : l.stackTraces = false) (htab : ∀ x ∈ c.exceptionTable.toList, False) (hz3 : hz.nx + 1 ≤ h0.nx + mc ∧ hz.su + 6 ≤ h0.su + ms) (N : Nat) (t0 : Nat) (h : Hp) (y0 : Int32) (hJ : B_xX9_remove_20 N t0 h y0 = some (hz, ez)) (hk0 : h.kd t0 = 12) {H : Heap} {locs : List Loc} {cells slots : Nat} (w : Wo D cs A s h0 h H locs cells slots) {ls : Array Slot} (hl : lv_has ls 4 [(0, .ref t0)]) : W p l e { frames := 10, cells := mc, slots := ms, locals := 320 } s m args below meth c H locs cells slots (vx_MQ below xF (XE D cs A hz ez) args s mc ms A) (F0 m 20 ls [.int y0]) := by
  obtain ⟨hx, hb, hml, hown, hts, -⟩ := id C
  have hz2 : hz.nx ≤ h0.nx + mc ∧ hz.su ≤ h0.su + ms := ⟨by omega, by omega⟩
  unfold B_xX9_remove_20 at hJ
  cases hJ
def B_xX9_remove_17 (N : Nat) (t0 : Nat) (h : Hp) (y0 : Option Nat) (y1 : Option Nat) (y2 : Option Nat) : Option (Hp × String) := dr h 12 y0 (fun a1 => (J_X9_carryOut N a1 h y1 y2).bind (fun z => B_xX9_remove_20 N t0 z.1 z.2))
theorem mb_xX9_remove_17 (N : Nat) (t0 : Nat) (h : Hp) (y0 : Option Nat) (y1 : Option Nat) (y2 : Option Nat) (hJ : B_xX9_remove_17 N t0 h y0 y1 y2 = some (hz, ez)) : Mo h hz := by
  unfold B_xX9_remove_17 at hJ
  obtain ⟨a1, ea1, -, hJ⟩ := dr_some hJ
  obtain ⟨⟨h2, r3⟩, e4, hJ⟩ := ob_some hJ
  exact (mo_X9_carryOut N a1 h y1 y2 e4).tr (mb_xX9_remove_20 N t0 _ _ hJ)
set_option maxRecDepth 100000 in
set_option maxHeartbeats 4000000 in
theorem sb_xX9_remove_17 (C : Cx p s m args meth c cX9_remove 4 (some .int) RX9 D cs A h0.se) (hl0 : l.stackTraces = false) (htab : ∀ x ∈ c.exceptionTable.toList, False) (hz3 : hz.nx + 1 ≤ h0.nx + mc ∧ hz.su + 6 ≤ h0.su + ms) (N : Nat) (t0 : Nat) (h : Hp) (y0 : Option Nat) (y1 : Option Nat) (y2 : Option Nat) (hJ : B_xX9_remove_17 N t0 h y0 y1 y2 = some (hz, ez)) (hk0 : h.kd t0 = 12) {H : Heap} {locs : List Loc} {cells slots : Nat} (w : Wo D cs A s h0 h H locs cells slots) {ls : Array Slot} (hl : lv_has ls 4 [(0, .ref t0)]) : W p l e { frames := 10, cells := mc, slots := ms, locals := 320 } s m args below meth c H locs cells slots (vx_MQ below xF (XE D cs A hz ez) args s mc ms A) (F0 m 17 ls [va_rf y2, va_rf y1, va_rf y0]) := by
  obtain ⟨hx, hb, hml, hown, hts, -⟩ := id C
  have hz2 : hz.nx ≤ h0.nx + mc ∧ hz.su ≤ h0.su + ms := ⟨by omega, by omega⟩
  unfold B_xX9_remove_17 at hJ
  obtain ⟨a1, ea1, hka1, hJ⟩ := dr_some hJ
  rw [ea1]
  obtain ⟨⟨h2, r3⟩, e4, hJ⟩ := ob_some hJ
  refine jc_Vi (As := [va_rf y1, va_rf y2]) C w (cc_X9_carryOut N a1 h y1 y2 hka1 e4) (mo_X9_carryOut N a1 h y1 y2 e4) (mb_xX9_remove_20 N t0 _ _ hJ) hz2 hka1 (by decide) rfl (fs := fs12 h a1) rfl rfl ⟨tw_5_169, tw_5_166, tw_5_168, ts_18, tw_1_1⟩ cd_X9_carryOut ⟨by decide, by decide⟩ hl.1 (by first | exact Nat.le_of_ble_eq_true rfl | simp [rf_cat, cat_i, cat_l, cat_r]) rfl dX9_remove_17 (fun H locs w1 => ?_)
  have hk5 := kd_keep w (mo_X9_carryOut N a1 h y1 y2 e4) hk0 (by decide)
  have w := w1
  exact sb_xX9_remove_20 C hl0 htab hz3 N t0 _ _ hJ hk5 w hl
def B_xX9_remove_11 (N : Nat) (t0 : Nat) (h : Hp) (x2 : Int32) (y0 : Option Nat) (y1 : Option Nat) (y2 : Option Nat) : Option (Hp × String) := dr h 5 y2 (fun a6 => (J_X2_init N a6 h (3 : Int32) x2).bind (fun z => B_xX9_remove_17 N t0 z.1 y0 y1 (some a6)))
theorem mb_xX9_remove_11 (N : Nat) (t0 : Nat) (h : Hp) (x2 : Int32) (y0 : Option Nat) (y1 : Option Nat) (y2 : Option Nat) (hJ : B_xX9_remove_11 N t0 h x2 y0 y1 y2 = some (hz, ez)) : Mo h hz := by
  unfold B_xX9_remove_11 at hJ
  obtain ⟨a6, ea6, -, hJ⟩ := dr_some hJ
  obtain ⟨⟨h7, r8⟩, e9, hJ⟩ := ob_some hJ
  exact (mo_X2_init N a6 h (3 : Int32) x2 e9).tr (mb_xX9_remove_17 N t0 _ _ _ _ hJ)
set_option maxRecDepth 100000 in
set_option maxHeartbeats 4000000 in
theorem sb_xX9_remove_11 (C : Cx p s m args meth c cX9_remove 4 (some .int) RX9 D cs A h0.se) (hl0 : l.stackTraces = false) (htab : ∀ x ∈ c.exceptionTable.toList, False) (hz3 : hz.nx + 1 ≤ h0.nx + mc ∧ hz.su + 6 ≤ h0.su + ms) (N : Nat) (t0 : Nat) (h : Hp) (x2 : Int32) (y0 : Option Nat) (y1 : Option Nat) (y2 : Option Nat) (hJ : B_xX9_remove_11 N t0 h x2 y0 y1 y2 = some (hz, ez)) (hk0 : h.kd t0 = 12) {H : Heap} {locs : List Loc} {cells slots : Nat} (w : Wo D cs A s h0 h H locs cells slots) {ls : Array Slot} (hl : lv_has ls 4 [(0, .ref t0), (2, .int x2)]) : W p l e { frames := 10, cells := mc, slots := ms, locals := 320 } s m args below meth c H locs cells slots (vx_MQ below xF (XE D cs A hz ez) args s mc ms A) (F0 m 11 ls [va_rf y2, va_rf y1, va_rf y0]) := by
  obtain ⟨hx, hb, hml, hown, hts, -⟩ := id C
  have hz2 : hz.nx ≤ h0.nx + mc ∧ hz.su ≤ h0.su + ms := ⟨by omega, by omega⟩
  unfold B_xX9_remove_11 at hJ
  refine lv_dup hx hb dX9_remove_11 (rf_cat _) ?_
  refine lv_iconst (v := (3 : Int32)) hx hb dX9_remove_12 (by decide) ?_
  refine lv_iload_n hx hb dX9_remove_13 rfl (lv_at hl 1 rfl) ?_
  obtain ⟨a6, ea6, hka6, hJ⟩ := dr_some hJ
  rw [ea6]
  obtain ⟨⟨h7, r8⟩, e9, hJ⟩ := ob_some hJ
  refine jc_I (As := [.int (3 : Int32), .int x2]) C w (cc_X2_init N a6 h (3 : Int32) x2 hka6 e9) (mo_X2_init N a6 h (3 : Int32) x2 e9) (mb_xX9_remove_17 N t0 _ _ _ _ hJ) hz2 tw_5_135 tw_5_133 tw_5_134 tw_1_21 rfl cd_X2_init ⟨by decide, by decide⟩ hl.1 (by first | exact Nat.le_of_ble_eq_true rfl | simp [rf_cat, cat_i, cat_l, cat_r]) rfl dX9_remove_14 (fun H locs w1 => ?_)
  have hk10 := kd_keep w (mo_X2_init N a6 h (3 : Int32) x2 e9) hk0 (by decide)
  have w := w1
  exact sb_xX9_remove_17 C hl0 htab hz3 N t0 _ _ _ _ hJ hk10 w (lv_sub (l' := [(0, .ref t0)]) hl [0] rfl)
def B_xX9_remove_5 (N : Nat) (t0 : Nat) (h : Hp) (x2 : Int32) (y0 : Option Nat) : Option (Hp × String) := B_xX9_remove_11 N t0 (h.new 5 0 7) x2 (some t0) y0 (some h.nx)
theorem mb_xX9_remove_5 (N : Nat) (t0 : Nat) (h : Hp) (x2 : Int32) (y0 : Option Nat) (hJ : B_xX9_remove_5 N t0 h x2 y0 = some (hz, ez)) : Mo h hz := by
  unfold B_xX9_remove_5 at hJ
  exact (Mo.new h _ _ _).tr (mb_xX9_remove_11 N t0 _ _ _ _ _ hJ)
set_option maxRecDepth 100000 in
set_option maxHeartbeats 4000000 in
theorem sb_xX9_remove_5 (C : Cx p s m args meth c cX9_remove 4 (some .int) RX9 D cs A h0.se) (hl0 : l.stackTraces = false) (htab : ∀ x ∈ c.exceptionTable.toList, False) (hz3 : hz.nx + 1 ≤ h0.nx + mc ∧ hz.su + 6 ≤ h0.su + ms) (N : Nat) (t0 : Nat) (h : Hp) (x2 : Int32) (y0 : Option Nat) (hJ : B_xX9_remove_5 N t0 h x2 y0 = some (hz, ez)) (hk0 : h.kd t0 = 12) {H : Heap} {locs : List Loc} {cells slots : Nat} (w : Wo D cs A s h0 h H locs cells slots) {ls : Array Slot} (hl : lv_has ls 4 [(0, .ref t0), (2, .int x2)]) : W p l e { frames := 10, cells := mc, slots := ms, locals := 320 } s m args below meth c H locs cells slots (vx_MQ below xF (XE D cs A hz ez) args s mc ms A) (F0 m 5 ls [va_rf y0]) := by
  obtain ⟨hx, hb, hml, hown, hts, -⟩ := id C
  have hz2 : hz.nx ≤ h0.nx + mc ∧ hz.su ≤ h0.su + ms := ⟨by omega, by omega⟩
  unfold B_xX9_remove_5 at hJ
  refine jv_astore_n (i := 3) (lv' := [(3, va_rf y0), (0, .ref t0), (2, .int x2)]) hx hb dX9_remove_5 rfl hl (by decide) rfl (fun ls hl => ?_)
  refine lv_aload_n hx hb dX9_remove_6 rfl (lv_at hl 1 rfl) ?_
  refine jv_aload_n hx hb dX9_remove_7 rfl (lv_at hl 0 rfl) ?_
  have w0 := w
  refine fn_5 C w (mb_xX9_remove_11 N t0 _ _ _ _ _ hJ) hz2 tw_5_131 dX9_remove_8 (fun H w => ?_)
  have hk11 := kd_new (k := 5) (n := 0) (sl := 7) w0 hk0 (by decide)
  exact sb_xX9_remove_11 C hl0 htab hz3 N t0 _ _ _ _ _ hJ hk11 w (lv_sub (l' := [(0, .ref t0), (2, .int x2)]) hl [1, 2] rfl)
def B_xX9_remove_0 (N : Nat) (t0 : Nat) (h : Hp) (x1 : Int32) (x2 : Int32) : Option (Hp × String) := orX (J_xX9_writingOne N t0 h x1) ((J_X9_writingOne N t0 h x1).bind (fun z => B_xX9_remove_5 N t0 z.1 x2 z.2))
theorem mb_xX9_remove_0 (N : Nat) (t0 : Nat) (h : Hp) (x1 : Int32) (x2 : Int32) (hJ : B_xX9_remove_0 N t0 h x1 x2 = some (hz, ez)) : Mo h hz := by
  unfold B_xX9_remove_0 at hJ
  rcases orX_some hJ with hX | ⟨-, hJ⟩
  · exact mo_xX9_writingOne N t0 h x1 hX
  · obtain ⟨⟨h12, r13⟩, e14, hJ⟩ := ob_some hJ
    exact (mo_X9_writingOne N t0 h x1 e14).tr (mb_xX9_remove_5 N t0 _ _ _ hJ)
set_option maxRecDepth 100000 in
set_option maxHeartbeats 4000000 in
theorem sb_xX9_remove_0 (C : Cx p s m args meth c cX9_remove 4 (some .int) RX9 D cs A h0.se) (hl0 : l.stackTraces = false) (htab : ∀ x ∈ c.exceptionTable.toList, False) (hz3 : hz.nx + 1 ≤ h0.nx + mc ∧ hz.su + 6 ≤ h0.su + ms) (N : Nat) (t0 : Nat) (h : Hp) (x1 : Int32) (x2 : Int32) (hJ : B_xX9_remove_0 N t0 h x1 x2 = some (hz, ez)) (hk0 : h.kd t0 = 12) {H : Heap} {locs : List Loc} {cells slots : Nat} (w : Wo D cs A s h0 h H locs cells slots) {ls : Array Slot} (hl : lv_has ls 4 [(0, .ref t0), (1, .int x1), (2, .int x2)]) : W p l e { frames := 10, cells := mc, slots := ms, locals := 320 } s m args below meth c H locs cells slots (vx_MQ below xF (XE D cs A hz ez) args s mc ms A) (F0 m 0 ls []) := by
  obtain ⟨hx, hb, hml, hown, hts, -⟩ := id C
  have hz2 : hz.nx ≤ h0.nx + mc ∧ hz.su ≤ h0.su + ms := ⟨by omega, by omega⟩
  unfold B_xX9_remove_0 at hJ
  refine lv_aload_n hx hb dX9_remove_0 rfl (lv_at hl 0 rfl) ?_
  refine lv_iload_n hx hb dX9_remove_1 rfl (lv_at hl 1 rfl) ?_
  rcases orX_some hJ with hX | ⟨-, hJ⟩
  · exact jx_V (As := [.int x1]) C htab w (xc_X9_writingOne hl0 N t0 h x1 hk0 hX) (mo_xX9_writingOne N t0 h x1 hX) hz3 hk0 (by decide) rfl (fs := fs12 h t0) rfl rfl ⟨tw_6_69, tw_6_66, tw_6_68, ts_25, tw_1_1⟩ cd_X9_writingOne ⟨by decide, by decide⟩ hl.1 (by first | exact Nat.le_of_ble_eq_true rfl | simp [rf_cat, cat_i, cat_l, cat_r]) rfl dX9_remove_2
  · obtain ⟨⟨h12, r13⟩, e14, hJ⟩ := ob_some hJ
    refine jc_Vq (As := [.int x1]) C w (cc_X9_writingOne N t0 h x1 hk0 e14) (mo_X9_writingOne N t0 h x1 e14) (mb_xX9_remove_5 N t0 _ _ _ hJ) hz2 hk0 (by decide) rfl (fs := fs12 h t0) rfl rfl ⟨tw_6_69, tw_6_66, tw_6_68, ts_25, tw_1_1⟩ cd_X9_writingOne ⟨by decide, by decide⟩ hl.1 (by first | exact Nat.le_of_ble_eq_true rfl | simp [rf_cat, cat_i, cat_l, cat_r]) rfl dX9_remove_2 (fun H locs w1 => ?_)
    have hk15 := kd_keep w (mo_X9_writingOne N t0 h x1 e14) hk0 (by decide)
    have w := w1
    exact sb_xX9_remove_5 C hl0 htab hz3 N t0 _ _ _ hJ hk15 w (lv_sub (l' := [(0, .ref t0), (2, .int x2)]) hl [0, 2] rfl)
def J_xX9_remove (N : Nat) (t0 : Nat) (h : Hp) (x1 : Int32) (x2 : Int32) : Option (Hp × String) := B_xX9_remove_0 N t0 h x1 x2
theorem mo_xX9_remove (N : Nat) (t0 : Nat) (h : Hp) (x1 : Int32) (x2 : Int32) (hJ : J_xX9_remove N t0 h x1 x2 = some (hz, ez)) : Mo h hz := mb_xX9_remove_0 N t0 h x1 x2 hJ
theorem xc_X9_remove (hl0 : l.stackTraces = false) (N : Nat) (t0 : Nat) (h : Hp) (x1 : Int32) (x2 : Int32) (hk0 : h.kd t0 = 12) (hJ : J_xX9_remove N t0 h x1 x2 = some (hz, ez)) : Xc l yX9_remove cX9_remove 4 (some .int) 10 320 D cs h hz ez [.ref t0, .int x1, .int x2] := by
  intro mc ms g1 g2
  refine je_anyX (by decide) (by simp [lg_sl, rf_cat, cat_i, cat_l, cat_r]) ?_
  intro p e s m args below meth c C htab w ls hl
  have hl : lv_has ls 4 [(0, .ref t0), (1, .int x1), (2, .int x2)] := hl
  exact sb_xX9_remove_0 C hl0 htab ⟨g1, g2⟩ N t0 h x1 x2 hJ hk0 w hl
end G_xX9_remove
section G_xX9_save
variable {p : Program} {l : Launch} {e : Env} {s : State} {m : MethodId} {args : Array Value} {below : List Frame} {meth : Method} {c : Code} {D : va_G} {cs : C4} {A : Nat → Prop} {h0 hz : Hp} {mc ms : Nat} {ez : String}
def B_xX9_save_20 (N : Nat) (t0 : Nat) (h : Hp) (y0 : Int32) : Option (Hp × String) := none
theorem mb_xX9_save_20 (N : Nat) (t0 : Nat) (h : Hp) (y0 : Int32) (hJ : B_xX9_save_20 N t0 h y0 = some (hz, ez)) : Mo h hz := by
  unfold B_xX9_save_20 at hJ
  cases hJ
set_option maxRecDepth 100000 in
set_option maxHeartbeats 4000000 in
theorem sb_xX9_save_20 (C : Cx p s m args meth c cX9_save 3 (some .int) RX9 D cs A h0.se) (hl0 : l.stackTraces = false) (htab : ∀ x ∈ c.exceptionTable.toList, False) (hz3 : hz.nx + 1 ≤ h0.nx + mc ∧ hz.su + 6 ≤ h0.su + ms) (N : Nat) (t0 : Nat) (h : Hp) (y0 : Int32) (hJ : B_xX9_save_20 N t0 h y0 = some (hz, ez)) (hk0 : h.kd t0 = 12) {H : Heap} {locs : List Loc} {cells slots : Nat} (w : Wo D cs A s h0 h H locs cells slots) {ls : Array Slot} (hl : lv_has ls 3 [(0, .ref t0)]) : W p l e { frames := 10, cells := mc, slots := ms, locals := 320 } s m args below meth c H locs cells slots (vx_MQ below xF (XE D cs A hz ez) args s mc ms A) (F0 m 20 ls [.int y0]) := by
  obtain ⟨hx, hb, hml, hown, hts, -⟩ := id C
  have hz2 : hz.nx ≤ h0.nx + mc ∧ hz.su ≤ h0.su + ms := ⟨by omega, by omega⟩
  unfold B_xX9_save_20 at hJ
  cases hJ
def B_xX9_save_17 (N : Nat) (t0 : Nat) (h : Hp) (y0 : Option Nat) (y1 : Option Nat) (y2 : Option Nat) : Option (Hp × String) := dr h 12 y0 (fun a1 => (J_X9_carryOut N a1 h y1 y2).bind (fun z => B_xX9_save_20 N t0 z.1 z.2))
theorem mb_xX9_save_17 (N : Nat) (t0 : Nat) (h : Hp) (y0 : Option Nat) (y1 : Option Nat) (y2 : Option Nat) (hJ : B_xX9_save_17 N t0 h y0 y1 y2 = some (hz, ez)) : Mo h hz := by
  unfold B_xX9_save_17 at hJ
  obtain ⟨a1, ea1, -, hJ⟩ := dr_some hJ
  obtain ⟨⟨h2, r3⟩, e4, hJ⟩ := ob_some hJ
  exact (mo_X9_carryOut N a1 h y1 y2 e4).tr (mb_xX9_save_20 N t0 _ _ hJ)
set_option maxRecDepth 100000 in
set_option maxHeartbeats 4000000 in
theorem sb_xX9_save_17 (C : Cx p s m args meth c cX9_save 3 (some .int) RX9 D cs A h0.se) (hl0 : l.stackTraces = false) (htab : ∀ x ∈ c.exceptionTable.toList, False) (hz3 : hz.nx + 1 ≤ h0.nx + mc ∧ hz.su + 6 ≤ h0.su + ms) (N : Nat) (t0 : Nat) (h : Hp) (y0 : Option Nat) (y1 : Option Nat) (y2 : Option Nat) (hJ : B_xX9_save_17 N t0 h y0 y1 y2 = some (hz, ez)) (hk0 : h.kd t0 = 12) {H : Heap} {locs : List Loc} {cells slots : Nat} (w : Wo D cs A s h0 h H locs cells slots) {ls : Array Slot} (hl : lv_has ls 3 [(0, .ref t0)]) : W p l e { frames := 10, cells := mc, slots := ms, locals := 320 } s m args below meth c H locs cells slots (vx_MQ below xF (XE D cs A hz ez) args s mc ms A) (F0 m 17 ls [va_rf y2, va_rf y1, va_rf y0]) := by
  obtain ⟨hx, hb, hml, hown, hts, -⟩ := id C
  have hz2 : hz.nx ≤ h0.nx + mc ∧ hz.su ≤ h0.su + ms := ⟨by omega, by omega⟩
  unfold B_xX9_save_17 at hJ
  obtain ⟨a1, ea1, hka1, hJ⟩ := dr_some hJ
  rw [ea1]
  obtain ⟨⟨h2, r3⟩, e4, hJ⟩ := ob_some hJ
  refine jc_Vi (As := [va_rf y1, va_rf y2]) C w (cc_X9_carryOut N a1 h y1 y2 hka1 e4) (mo_X9_carryOut N a1 h y1 y2 e4) (mb_xX9_save_20 N t0 _ _ hJ) hz2 hka1 (by decide) rfl (fs := fs12 h a1) rfl rfl ⟨tw_5_169, tw_5_166, tw_5_168, ts_18, tw_1_1⟩ cd_X9_carryOut ⟨by decide, by decide⟩ hl.1 (by first | exact Nat.le_of_ble_eq_true rfl | simp [rf_cat, cat_i, cat_l, cat_r]) rfl dX9_save_17 (fun H locs w1 => ?_)
  have hk5 := kd_keep w (mo_X9_carryOut N a1 h y1 y2 e4) hk0 (by decide)
  have w := w1
  exact sb_xX9_save_20 C hl0 htab hz3 N t0 _ _ hJ hk5 w hl
def B_xX9_save_11 (N : Nat) (t0 : Nat) (h : Hp) (y0 : Option Nat) (y1 : Option Nat) (y2 : Option Nat) : Option (Hp × String) := dr h 5 y2 (fun a6 => (J_X2_init N a6 h (4 : Int32) (0 : Int32)).bind (fun z => B_xX9_save_17 N t0 z.1 y0 y1 (some a6)))
theorem mb_xX9_save_11 (N : Nat) (t0 : Nat) (h : Hp) (y0 : Option Nat) (y1 : Option Nat) (y2 : Option Nat) (hJ : B_xX9_save_11 N t0 h y0 y1 y2 = some (hz, ez)) : Mo h hz := by
  unfold B_xX9_save_11 at hJ
  obtain ⟨a6, ea6, -, hJ⟩ := dr_some hJ
  obtain ⟨⟨h7, r8⟩, e9, hJ⟩ := ob_some hJ
  exact (mo_X2_init N a6 h (4 : Int32) (0 : Int32) e9).tr (mb_xX9_save_17 N t0 _ _ _ _ hJ)
set_option maxRecDepth 100000 in
set_option maxHeartbeats 4000000 in
theorem sb_xX9_save_11 (C : Cx p s m args meth c cX9_save 3 (some .int) RX9 D cs A h0.se) (hl0 : l.stackTraces = false) (htab : ∀ x ∈ c.exceptionTable.toList, False) (hz3 : hz.nx + 1 ≤ h0.nx + mc ∧ hz.su + 6 ≤ h0.su + ms) (N : Nat) (t0 : Nat) (h : Hp) (y0 : Option Nat) (y1 : Option Nat) (y2 : Option Nat) (hJ : B_xX9_save_11 N t0 h y0 y1 y2 = some (hz, ez)) (hk0 : h.kd t0 = 12) {H : Heap} {locs : List Loc} {cells slots : Nat} (w : Wo D cs A s h0 h H locs cells slots) {ls : Array Slot} (hl : lv_has ls 3 [(0, .ref t0)]) : W p l e { frames := 10, cells := mc, slots := ms, locals := 320 } s m args below meth c H locs cells slots (vx_MQ below xF (XE D cs A hz ez) args s mc ms A) (F0 m 11 ls [va_rf y2, va_rf y1, va_rf y0]) := by
  obtain ⟨hx, hb, hml, hown, hts, -⟩ := id C
  have hz2 : hz.nx ≤ h0.nx + mc ∧ hz.su ≤ h0.su + ms := ⟨by omega, by omega⟩
  unfold B_xX9_save_11 at hJ
  refine lv_dup hx hb dX9_save_11 (rf_cat _) ?_
  refine lv_iconst (v := (4 : Int32)) hx hb dX9_save_12 (by decide) ?_
  refine lv_iconst (v := (0 : Int32)) hx hb dX9_save_13 (by decide) ?_
  obtain ⟨a6, ea6, hka6, hJ⟩ := dr_some hJ
  rw [ea6]
  obtain ⟨⟨h7, r8⟩, e9, hJ⟩ := ob_some hJ
  refine jc_I (As := [.int (4 : Int32), .int (0 : Int32)]) C w (cc_X2_init N a6 h (4 : Int32) (0 : Int32) hka6 e9) (mo_X2_init N a6 h (4 : Int32) (0 : Int32) e9) (mb_xX9_save_17 N t0 _ _ _ _ hJ) hz2 tw_5_135 tw_5_133 tw_5_134 tw_1_21 rfl cd_X2_init ⟨by decide, by decide⟩ hl.1 (by first | exact Nat.le_of_ble_eq_true rfl | simp [rf_cat, cat_i, cat_l, cat_r]) rfl dX9_save_14 (fun H locs w1 => ?_)
  have hk10 := kd_keep w (mo_X2_init N a6 h (4 : Int32) (0 : Int32) e9) hk0 (by decide)
  have w := w1
  exact sb_xX9_save_17 C hl0 htab hz3 N t0 _ _ _ _ hJ hk10 w hl
def B_xX9_save_5 (N : Nat) (t0 : Nat) (h : Hp) (y0 : Option Nat) : Option (Hp × String) := B_xX9_save_11 N t0 (h.new 5 0 7) (some t0) y0 (some h.nx)
theorem mb_xX9_save_5 (N : Nat) (t0 : Nat) (h : Hp) (y0 : Option Nat) (hJ : B_xX9_save_5 N t0 h y0 = some (hz, ez)) : Mo h hz := by
  unfold B_xX9_save_5 at hJ
  exact (Mo.new h _ _ _).tr (mb_xX9_save_11 N t0 _ _ _ _ hJ)
set_option maxRecDepth 100000 in
set_option maxHeartbeats 4000000 in
theorem sb_xX9_save_5 (C : Cx p s m args meth c cX9_save 3 (some .int) RX9 D cs A h0.se) (hl0 : l.stackTraces = false) (htab : ∀ x ∈ c.exceptionTable.toList, False) (hz3 : hz.nx + 1 ≤ h0.nx + mc ∧ hz.su + 6 ≤ h0.su + ms) (N : Nat) (t0 : Nat) (h : Hp) (y0 : Option Nat) (hJ : B_xX9_save_5 N t0 h y0 = some (hz, ez)) (hk0 : h.kd t0 = 12) {H : Heap} {locs : List Loc} {cells slots : Nat} (w : Wo D cs A s h0 h H locs cells slots) {ls : Array Slot} (hl : lv_has ls 3 [(0, .ref t0)]) : W p l e { frames := 10, cells := mc, slots := ms, locals := 320 } s m args below meth c H locs cells slots (vx_MQ below xF (XE D cs A hz ez) args s mc ms A) (F0 m 5 ls [va_rf y0]) := by
  obtain ⟨hx, hb, hml, hown, hts, -⟩ := id C
  have hz2 : hz.nx ≤ h0.nx + mc ∧ hz.su ≤ h0.su + ms := ⟨by omega, by omega⟩
  unfold B_xX9_save_5 at hJ
  refine jv_astore_n (i := 2) (lv' := [(2, va_rf y0), (0, .ref t0)]) hx hb dX9_save_5 rfl hl (by decide) rfl (fun ls hl => ?_)
  refine lv_aload_n hx hb dX9_save_6 rfl (lv_at hl 1 rfl) ?_
  refine jv_aload_n hx hb dX9_save_7 rfl (lv_at hl 0 rfl) ?_
  have w0 := w
  refine fn_5 C w (mb_xX9_save_11 N t0 _ _ _ _ hJ) hz2 tw_5_131 dX9_save_8 (fun H w => ?_)
  have hk11 := kd_new (k := 5) (n := 0) (sl := 7) w0 hk0 (by decide)
  exact sb_xX9_save_11 C hl0 htab hz3 N t0 _ _ _ _ hJ hk11 w (lv_sub (l' := [(0, .ref t0)]) hl [1] rfl)
def B_xX9_save_0 (N : Nat) (t0 : Nat) (h : Hp) (x1 : Int32) : Option (Hp × String) := orX (J_xX9_activeOne N t0 h x1) ((J_X9_activeOne N t0 h x1).bind (fun z => B_xX9_save_5 N t0 z.1 z.2))
theorem mb_xX9_save_0 (N : Nat) (t0 : Nat) (h : Hp) (x1 : Int32) (hJ : B_xX9_save_0 N t0 h x1 = some (hz, ez)) : Mo h hz := by
  unfold B_xX9_save_0 at hJ
  rcases orX_some hJ with hX | ⟨-, hJ⟩
  · exact mo_xX9_activeOne N t0 h x1 hX
  · obtain ⟨⟨h12, r13⟩, e14, hJ⟩ := ob_some hJ
    exact (mo_X9_activeOne N t0 h x1 e14).tr (mb_xX9_save_5 N t0 _ _ hJ)
set_option maxRecDepth 100000 in
set_option maxHeartbeats 4000000 in
theorem sb_xX9_save_0 (C : Cx p s m args meth c cX9_save 3 (some .int) RX9 D cs A h0.se) (hl0 : l.stackTraces = false) (htab : ∀ x ∈ c.exceptionTable.toList, False) (hz3 : hz.nx + 1 ≤ h0.nx + mc ∧ hz.su + 6 ≤ h0.su + ms) (N : Nat) (t0 : Nat) (h : Hp) (x1 : Int32) (hJ : B_xX9_save_0 N t0 h x1 = some (hz, ez)) (hk0 : h.kd t0 = 12) {H : Heap} {locs : List Loc} {cells slots : Nat} (w : Wo D cs A s h0 h H locs cells slots) {ls : Array Slot} (hl : lv_has ls 3 [(0, .ref t0), (1, .int x1)]) : W p l e { frames := 10, cells := mc, slots := ms, locals := 320 } s m args below meth c H locs cells slots (vx_MQ below xF (XE D cs A hz ez) args s mc ms A) (F0 m 0 ls []) := by
  obtain ⟨hx, hb, hml, hown, hts, -⟩ := id C
  have hz2 : hz.nx ≤ h0.nx + mc ∧ hz.su ≤ h0.su + ms := ⟨by omega, by omega⟩
  unfold B_xX9_save_0 at hJ
  refine lv_aload_n hx hb dX9_save_0 rfl (lv_at hl 0 rfl) ?_
  refine lv_iload_n hx hb dX9_save_1 rfl (lv_at hl 1 rfl) ?_
  rcases orX_some hJ with hX | ⟨-, hJ⟩
  · exact jx_V (As := [.int x1]) C htab w (xc_X9_activeOne hl0 N t0 h x1 hk0 hX) (mo_xX9_activeOne N t0 h x1 hX) hz3 hk0 (by decide) rfl (fs := fs12 h t0) rfl rfl ⟨tw_5_114, tw_5_111, tw_5_113, ts_17, tw_1_1⟩ cd_X9_activeOne ⟨by decide, by decide⟩ hl.1 (by first | exact Nat.le_of_ble_eq_true rfl | simp [rf_cat, cat_i, cat_l, cat_r]) rfl dX9_save_2
  · obtain ⟨⟨h12, r13⟩, e14, hJ⟩ := ob_some hJ
    refine jc_Vq (As := [.int x1]) C w (cc_X9_activeOne N t0 h x1 hk0 e14) (mo_X9_activeOne N t0 h x1 e14) (mb_xX9_save_5 N t0 _ _ hJ) hz2 hk0 (by decide) rfl (fs := fs12 h t0) rfl rfl ⟨tw_5_114, tw_5_111, tw_5_113, ts_17, tw_1_1⟩ cd_X9_activeOne ⟨by decide, by decide⟩ hl.1 (by first | exact Nat.le_of_ble_eq_true rfl | simp [rf_cat, cat_i, cat_l, cat_r]) rfl dX9_save_2 (fun H locs w1 => ?_)
    have hk15 := kd_keep w (mo_X9_activeOne N t0 h x1 e14) hk0 (by decide)
    have w := w1
    exact sb_xX9_save_5 C hl0 htab hz3 N t0 _ _ hJ hk15 w (lv_sub (l' := [(0, .ref t0)]) hl [0] rfl)
def J_xX9_save (N : Nat) (t0 : Nat) (h : Hp) (x1 : Int32) : Option (Hp × String) := B_xX9_save_0 N t0 h x1
theorem mo_xX9_save (N : Nat) (t0 : Nat) (h : Hp) (x1 : Int32) (hJ : J_xX9_save N t0 h x1 = some (hz, ez)) : Mo h hz := mb_xX9_save_0 N t0 h x1 hJ
theorem xc_X9_save (hl0 : l.stackTraces = false) (N : Nat) (t0 : Nat) (h : Hp) (x1 : Int32) (hk0 : h.kd t0 = 12) (hJ : J_xX9_save N t0 h x1 = some (hz, ez)) : Xc l yX9_save cX9_save 3 (some .int) 10 320 D cs h hz ez [.ref t0, .int x1] := by
  intro mc ms g1 g2
  refine je_anyX (by decide) (by simp [lg_sl, rf_cat, cat_i, cat_l, cat_r]) ?_
  intro p e s m args below meth c C htab w ls hl
  have hl : lv_has ls 3 [(0, .ref t0), (1, .int x1)] := hl
  exact sb_xX9_save_0 C hl0 htab ⟨g1, g2⟩ N t0 h x1 hJ hk0 w hl
end G_xX9_save
section G_xX9_undo
variable {p : Program} {l : Launch} {e : Env} {s : State} {m : MethodId} {args : Array Value} {below : List Frame} {meth : Method} {c : Code} {D : va_G} {cs : C4} {A : Nat → Prop} {h0 hz : Hp} {mc ms : Nat} {ez : String}
def B_xX9_undo_51 (N : Nat) (t0 : Nat) (h : Hp) (y0 : Int32) : Option (Hp × String) := none
theorem mb_xX9_undo_51 (N : Nat) (t0 : Nat) (h : Hp) (y0 : Int32) (hJ : B_xX9_undo_51 N t0 h y0 = some (hz, ez)) : Mo h hz := by
  unfold B_xX9_undo_51 at hJ
  cases hJ
set_option maxRecDepth 100000 in
set_option maxHeartbeats 4000000 in
theorem sb_xX9_undo_51 (C : Cx p s m args meth c cX9_undo 5 (some .int) RX9 D cs A h0.se) (hl0 : l.stackTraces = false) (htab : ∀ x ∈ c.exceptionTable.toList, False) (hz3 : hz.nx + 1 ≤ h0.nx + mc ∧ hz.su + 6 ≤ h0.su + ms) (N : Nat) (t0 : Nat) (h : Hp) (y0 : Int32) (hJ : B_xX9_undo_51 N t0 h y0 = some (hz, ez)) (hk0 : h.kd t0 = 12) {H : Heap} {locs : List Loc} {cells slots : Nat} (w : Wo D cs A s h0 h H locs cells slots) {ls : Array Slot} (hl : lv_has ls 5 [(0, .ref t0)]) : W p l e { frames := 10, cells := mc, slots := ms, locals := 320 } s m args below meth c H locs cells slots (vx_MQ below xF (XE D cs A hz ez) args s mc ms A) (F0 m 51 ls [.int y0]) := by
  obtain ⟨hx, hb, hml, hown, hts, -⟩ := id C
  have hz2 : hz.nx ≤ h0.nx + mc ∧ hz.su ≤ h0.su + ms := ⟨by omega, by omega⟩
  unfold B_xX9_undo_51 at hJ
  cases hJ
def B_xX9_undo_36 (N : Nat) (t0 : Nat) (h : Hp) (x2 : Int32) (x3 : Option Nat) (y0 : Option Nat) : Option (Hp × String) := dr h 5 y0 (fun a1 => (J_X9_carryOut N t0 (h.sfi 503 a1 x2) x3 (some a1)).bind (fun z => B_xX9_undo_51 N t0 z.1 z.2))
theorem mb_xX9_undo_36 (N : Nat) (t0 : Nat) (h : Hp) (x2 : Int32) (x3 : Option Nat) (y0 : Option Nat) (hJ : B_xX9_undo_36 N t0 h x2 x3 y0 = some (hz, ez)) : Mo h hz := by
  unfold B_xX9_undo_36 at hJ
  obtain ⟨a1, ea1, -, hJ⟩ := dr_some hJ
  obtain ⟨⟨h2, r3⟩, e4, hJ⟩ := ob_some hJ
  exact (Mo.tr (show Mo h (h.sfi 503 a1 x2) from ⟨fun _ _ => rfl, Nat.le_refl _, Nat.le_refl _, rfl, fun _ _ => rfl⟩) ((mo_X9_carryOut N t0 (h.sfi 503 a1 x2) x3 (some a1) e4).tr (mb_xX9_undo_51 N t0 _ _ hJ)))
set_option maxRecDepth 100000 in
set_option maxHeartbeats 4000000 in
theorem sb_xX9_undo_36 (C : Cx p s m args meth c cX9_undo 5 (some .int) RX9 D cs A h0.se) (hl0 : l.stackTraces = false) (htab : ∀ x ∈ c.exceptionTable.toList, False) (hz3 : hz.nx + 1 ≤ h0.nx + mc ∧ hz.su + 6 ≤ h0.su + ms) (N : Nat) (t0 : Nat) (h : Hp) (x2 : Int32) (x3 : Option Nat) (y0 : Option Nat) (hJ : B_xX9_undo_36 N t0 h x2 x3 y0 = some (hz, ez)) (hk0 : h.kd t0 = 12) {H : Heap} {locs : List Loc} {cells slots : Nat} (w : Wo D cs A s h0 h H locs cells slots) {ls : Array Slot} (hl : lv_has ls 5 [(0, .ref t0), (2, .int x2), (3, va_rf x3)]) : W p l e { frames := 10, cells := mc, slots := ms, locals := 320 } s m args below meth c H locs cells slots (vx_MQ below xF (XE D cs A hz ez) args s mc ms A) (F0 m 36 ls [va_rf y0]) := by
  obtain ⟨hx, hb, hml, hown, hts, -⟩ := id C
  have hz2 : hz.nx ≤ h0.nx + mc ∧ hz.su ≤ h0.su + ms := ⟨by omega, by omega⟩
  unfold B_xX9_undo_36 at hJ
  refine jv_astore (i := 4) (lv' := [(4, va_rf y0), (0, .ref t0), (2, .int x2), (3, va_rf x3)]) hx hb dX9_undo_36 hl (by decide) (by simp [List.filter, rf_cat, cat_i, cat_l, cat_r]) (fun ls hl => ?_)
  refine jv_aload hx hb dX9_undo_38 (lv_at hl 0 rfl) ?_
  refine lv_iload_n hx hb dX9_undo_40 rfl (lv_at hl 2 rfl) ?_
  obtain ⟨a1, ea1, hka1, hJ⟩ := dr_some hJ
  rw [ea1] at hl
  rw [ea1]
  refine fp_503 (x := x2) C w hka1 tw_5_143 dX9_undo_41 (fun H locs w => ?_)
  refine lv_aload_n hx hb dX9_undo_44 rfl (lv_at hl 1 rfl) ?_
  refine jv_aload_n hx hb dX9_undo_45 rfl (lv_at hl 3 rfl) ?_
  refine lv_aload hx hb dX9_undo_46 (lv_at hl 0 rfl) ?_
  obtain ⟨⟨h2, r3⟩, e4, hJ⟩ := ob_some hJ
  refine jc_Vi (As := [va_rf x3, .ref a1]) C w (cc_X9_carryOut N t0 (h.sfi 503 a1 x2) x3 (some a1) hk0 e4) (mo_X9_carryOut N t0 (h.sfi 503 a1 x2) x3 (some a1) e4) (mb_xX9_undo_51 N t0 _ _ hJ) hz2 hk0 (by decide) rfl (fs := fs12 (h.sfi 503 a1 x2) t0) rfl rfl ⟨tw_5_169, tw_5_166, tw_5_168, ts_18, tw_1_1⟩ cd_X9_carryOut ⟨by decide, by decide⟩ hl.1 (by first | exact Nat.le_of_ble_eq_true rfl | simp [rf_cat, cat_i, cat_l, cat_r]) rfl dX9_undo_48 (fun H locs w1 => ?_)
  have hk5 := kd_keep w (mo_X9_carryOut N t0 (h.sfi 503 a1 x2) x3 (some a1) e4) hk0 (by decide)
  have w := w1
  exact sb_xX9_undo_51 C hl0 htab hz3 N t0 _ _ hJ hk5 w (lv_sub (l' := [(0, .ref t0)]) hl [1] rfl)
def B_xX9_undo_30 (N : Nat) (t0 : Nat) (h : Hp) (x2 : Int32) (x3 : Option Nat) (y0 : Option Nat) : Option (Hp × String) := dr h 5 y0 (fun a6 => (J_X2_init N a6 h (5 : Int32) (0 : Int32)).bind (fun z => B_xX9_undo_36 N t0 z.1 x2 x3 (some a6)))
theorem mb_xX9_undo_30 (N : Nat) (t0 : Nat) (h : Hp) (x2 : Int32) (x3 : Option Nat) (y0 : Option Nat) (hJ : B_xX9_undo_30 N t0 h x2 x3 y0 = some (hz, ez)) : Mo h hz := by
  unfold B_xX9_undo_30 at hJ
  obtain ⟨a6, ea6, -, hJ⟩ := dr_some hJ
  obtain ⟨⟨h7, r8⟩, e9, hJ⟩ := ob_some hJ
  exact (mo_X2_init N a6 h (5 : Int32) (0 : Int32) e9).tr (mb_xX9_undo_36 N t0 _ _ _ _ hJ)
set_option maxRecDepth 100000 in
set_option maxHeartbeats 4000000 in
theorem sb_xX9_undo_30 (C : Cx p s m args meth c cX9_undo 5 (some .int) RX9 D cs A h0.se) (hl0 : l.stackTraces = false) (htab : ∀ x ∈ c.exceptionTable.toList, False) (hz3 : hz.nx + 1 ≤ h0.nx + mc ∧ hz.su + 6 ≤ h0.su + ms) (N : Nat) (t0 : Nat) (h : Hp) (x2 : Int32) (x3 : Option Nat) (y0 : Option Nat) (hJ : B_xX9_undo_30 N t0 h x2 x3 y0 = some (hz, ez)) (hk0 : h.kd t0 = 12) {H : Heap} {locs : List Loc} {cells slots : Nat} (w : Wo D cs A s h0 h H locs cells slots) {ls : Array Slot} (hl : lv_has ls 5 [(0, .ref t0), (2, .int x2), (3, va_rf x3)]) : W p l e { frames := 10, cells := mc, slots := ms, locals := 320 } s m args below meth c H locs cells slots (vx_MQ below xF (XE D cs A hz ez) args s mc ms A) (F0 m 30 ls [va_rf y0]) := by
  obtain ⟨hx, hb, hml, hown, hts, -⟩ := id C
  have hz2 : hz.nx ≤ h0.nx + mc ∧ hz.su ≤ h0.su + ms := ⟨by omega, by omega⟩
  unfold B_xX9_undo_30 at hJ
  refine lv_dup hx hb dX9_undo_30 (rf_cat _) ?_
  refine lv_iconst (v := (5 : Int32)) hx hb dX9_undo_31 (by decide) ?_
  refine lv_iconst (v := (0 : Int32)) hx hb dX9_undo_32 (by decide) ?_
  obtain ⟨a6, ea6, hka6, hJ⟩ := dr_some hJ
  rw [ea6]
  obtain ⟨⟨h7, r8⟩, e9, hJ⟩ := ob_some hJ
  refine jc_I (As := [.int (5 : Int32), .int (0 : Int32)]) C w (cc_X2_init N a6 h (5 : Int32) (0 : Int32) hka6 e9) (mo_X2_init N a6 h (5 : Int32) (0 : Int32) e9) (mb_xX9_undo_36 N t0 _ _ _ _ hJ) hz2 tw_5_135 tw_5_133 tw_5_134 tw_1_21 rfl cd_X2_init ⟨by decide, by decide⟩ hl.1 (by first | exact Nat.le_of_ble_eq_true rfl | simp [rf_cat, cat_i, cat_l, cat_r]) rfl dX9_undo_33 (fun H locs w1 => ?_)
  have hk10 := kd_keep w (mo_X2_init N a6 h (5 : Int32) (0 : Int32) e9) hk0 (by decide)
  have w := w1
  exact sb_xX9_undo_36 C hl0 htab hz3 N t0 _ _ _ _ hJ hk10 w hl
def B_xX9_undo_14 (N : Nat) (t0 : Nat) (h : Hp) (x2 : Int32) (x3 : Option Nat) (y0 : Int32) : Option (Hp × String) := if y0 = 0 then (some (h, "java/lang/IndexOutOfBoundsException")) else (B_xX9_undo_30 N t0 (h.new 5 0 7) x2 x3 (some h.nx))
theorem mb_xX9_undo_14 (N : Nat) (t0 : Nat) (h : Hp) (x2 : Int32) (x3 : Option Nat) (y0 : Int32) (hJ : B_xX9_undo_14 N t0 h x2 x3 y0 = some (hz, ez)) : Mo h hz := by
  unfold B_xX9_undo_14 at hJ
  by_cases c11 : y0 = 0
  · have hJ := it_pos c11 hJ
    obtain ⟨rfl, -⟩ := rs2 hJ
    exact ⟨fun _ _ => rfl, Nat.le_refl _, Nat.le_refl _, rfl, fun _ _ => rfl⟩
  · have hJ := it_neg c11 hJ
    exact (Mo.new h _ _ _).tr (mb_xX9_undo_30 N t0 _ _ _ _ hJ)
set_option maxRecDepth 100000 in
set_option maxHeartbeats 4000000 in
theorem sb_xX9_undo_14 (C : Cx p s m args meth c cX9_undo 5 (some .int) RX9 D cs A h0.se) (hl0 : l.stackTraces = false) (htab : ∀ x ∈ c.exceptionTable.toList, False) (hz3 : hz.nx + 1 ≤ h0.nx + mc ∧ hz.su + 6 ≤ h0.su + ms) (N : Nat) (t0 : Nat) (h : Hp) (x2 : Int32) (x3 : Option Nat) (y0 : Int32) (hJ : B_xX9_undo_14 N t0 h x2 x3 y0 = some (hz, ez)) (hk0 : h.kd t0 = 12) {H : Heap} {locs : List Loc} {cells slots : Nat} (w : Wo D cs A s h0 h H locs cells slots) {ls : Array Slot} (hl : lv_has ls 5 [(0, .ref t0), (2, .int x2), (3, va_rf x3)]) : W p l e { frames := 10, cells := mc, slots := ms, locals := 320 } s m args below meth c H locs cells slots (vx_MQ below xF (XE D cs A hz ez) args s mc ms A) (F0 m 14 ls [.int y0]) := by
  obtain ⟨hx, hb, hml, hown, hts, -⟩ := id C
  have hz2 : hz.nx ≤ h0.nx + mc ∧ hz.su ≤ h0.su + ms := ⟨by omega, by omega⟩
  unfold B_xX9_undo_14 at hJ
  refine lv_if_ne (tgt := 27) hx hb dX9_undo_14 (by decide) (fun c11 => ?_) (fun c11 => ?_)
  · have hJ := it_neg c11 hJ
    have w0 := w
    refine fn_5 C w (mb_xX9_undo_30 N t0 _ _ _ _ hJ) hz2 tw_5_131 dX9_undo_27 (fun H w => ?_)
    have hk12 := kd_new (k := 5) (n := 0) (sl := 7) w0 hk0 (by decide)
    exact sb_xX9_undo_30 C hl0 htab hz3 N t0 _ _ _ _ hJ hk12 w hl
  · have hJ := it_pos c11 hJ
    obtain ⟨rfl, rfl⟩ := rs2 hJ
    exact jx_S C hl0 htab w hz3 (by decide +kernel) tw_6_109 tw_1_23 (xa_164 hts (xw_of C)) (xg_164 _) (xw_of C).2.2.2.2.2.2.2.2.2.2.2.2.2 hl.1 dX9_undo_17 dX9_undo_20 dX9_undo_21 dX9_undo_23 dX9_undo_26 (by decide) (by first | exact Nat.le_of_ble_eq_true rfl | simp [rf_cat, cat_i, cat_l, cat_r])
def B_xX9_undo_5 (N : Nat) (t0 : Nat) (h : Hp) (x2 : Int32) (y0 : Option Nat) : Option (Hp × String) := dr h 10 y0 (fun a13 => dr h 11 (h.fr 1002 a13) (fun a14 => (J_X8_hasPlace N a14 h x2).bind (fun z => B_xX9_undo_14 N t0 z.1 x2 (some a13) z.2)))
theorem mb_xX9_undo_5 (N : Nat) (t0 : Nat) (h : Hp) (x2 : Int32) (y0 : Option Nat) (hJ : B_xX9_undo_5 N t0 h x2 y0 = some (hz, ez)) : Mo h hz := by
  unfold B_xX9_undo_5 at hJ
  obtain ⟨a13, ea13, -, hJ⟩ := dr_some hJ
  obtain ⟨a14, ea14, -, hJ⟩ := dr_some hJ
  obtain ⟨⟨h15, r16⟩, e17, hJ⟩ := ob_some hJ
  exact (mo_X8_hasPlace N a14 h x2 e17).tr (mb_xX9_undo_14 N t0 _ _ _ _ hJ)
set_option maxRecDepth 100000 in
set_option maxHeartbeats 4000000 in
theorem sb_xX9_undo_5 (C : Cx p s m args meth c cX9_undo 5 (some .int) RX9 D cs A h0.se) (hl0 : l.stackTraces = false) (htab : ∀ x ∈ c.exceptionTable.toList, False) (hz3 : hz.nx + 1 ≤ h0.nx + mc ∧ hz.su + 6 ≤ h0.su + ms) (N : Nat) (t0 : Nat) (h : Hp) (x2 : Int32) (y0 : Option Nat) (hJ : B_xX9_undo_5 N t0 h x2 y0 = some (hz, ez)) (hk0 : h.kd t0 = 12) {H : Heap} {locs : List Loc} {cells slots : Nat} (w : Wo D cs A s h0 h H locs cells slots) {ls : Array Slot} (hl : lv_has ls 5 [(0, .ref t0), (2, .int x2)]) : W p l e { frames := 10, cells := mc, slots := ms, locals := 320 } s m args below meth c H locs cells slots (vx_MQ below xF (XE D cs A hz ez) args s mc ms A) (F0 m 5 ls [va_rf y0]) := by
  obtain ⟨hx, hb, hml, hown, hts, -⟩ := id C
  have hz2 : hz.nx ≤ h0.nx + mc ∧ hz.su ≤ h0.su + ms := ⟨by omega, by omega⟩
  unfold B_xX9_undo_5 at hJ
  refine jv_astore_n (i := 3) (lv' := [(3, va_rf y0), (0, .ref t0), (2, .int x2)]) hx hb dX9_undo_5 rfl hl (by decide) rfl (fun ls hl => ?_)
  refine jv_aload_n hx hb dX9_undo_6 rfl (lv_at hl 0 rfl) ?_
  obtain ⟨a13, ea13, hka13, hJ⟩ := dr_some hJ
  rw [ea13] at hl
  rw [ea13]
  refine fg_1002 C w hka13 tw_2_16 dX9_undo_7 ?_
  refine lv_iload_n hx hb dX9_undo_10 rfl (lv_at hl 2 rfl) ?_
  obtain ⟨a14, ea14, hka14, hJ⟩ := dr_some hJ
  rw [ea14]
  obtain ⟨⟨h15, r16⟩, e17, hJ⟩ := ob_some hJ
  refine jc_Vi (As := [.int x2]) C w (cc_X8_hasPlace N a14 h x2 hka14 e17) (mo_X8_hasPlace N a14 h x2 e17) (mb_xX9_undo_14 N t0 _ _ _ _ hJ) hz2 hka14 (by decide) rfl (fs := fs11 h a14) rfl rfl ⟨tw_5_55, tw_6_108, tw_5_53, tw_5_54, tw_1_8⟩ cd_X8_hasPlace ⟨by decide, by decide⟩ hl.1 (by first | exact Nat.le_of_ble_eq_true rfl | simp [rf_cat, cat_i, cat_l, cat_r]) rfl dX9_undo_11 (fun H locs w1 => ?_)
  have hk18 := kd_keep w (mo_X8_hasPlace N a14 h x2 e17) hk0 (by decide)
  have w := w1
  exact sb_xX9_undo_14 C hl0 htab hz3 N t0 _ _ _ _ hJ hk18 w (lv_sub (l' := [(0, .ref t0), (2, .int x2), (3, .ref a13)]) hl [1, 2, 0] rfl)
def B_xX9_undo_0 (N : Nat) (t0 : Nat) (h : Hp) (x1 : Int32) (x2 : Int32) : Option (Hp × String) := orX (J_xX9_activeOne N t0 h x1) ((J_X9_activeOne N t0 h x1).bind (fun z => B_xX9_undo_5 N t0 z.1 x2 z.2))
theorem mb_xX9_undo_0 (N : Nat) (t0 : Nat) (h : Hp) (x1 : Int32) (x2 : Int32) (hJ : B_xX9_undo_0 N t0 h x1 x2 = some (hz, ez)) : Mo h hz := by
  unfold B_xX9_undo_0 at hJ
  rcases orX_some hJ with hX | ⟨-, hJ⟩
  · exact mo_xX9_activeOne N t0 h x1 hX
  · obtain ⟨⟨h19, r20⟩, e21, hJ⟩ := ob_some hJ
    exact (mo_X9_activeOne N t0 h x1 e21).tr (mb_xX9_undo_5 N t0 _ _ _ hJ)
set_option maxRecDepth 100000 in
set_option maxHeartbeats 4000000 in
theorem sb_xX9_undo_0 (C : Cx p s m args meth c cX9_undo 5 (some .int) RX9 D cs A h0.se) (hl0 : l.stackTraces = false) (htab : ∀ x ∈ c.exceptionTable.toList, False) (hz3 : hz.nx + 1 ≤ h0.nx + mc ∧ hz.su + 6 ≤ h0.su + ms) (N : Nat) (t0 : Nat) (h : Hp) (x1 : Int32) (x2 : Int32) (hJ : B_xX9_undo_0 N t0 h x1 x2 = some (hz, ez)) (hk0 : h.kd t0 = 12) {H : Heap} {locs : List Loc} {cells slots : Nat} (w : Wo D cs A s h0 h H locs cells slots) {ls : Array Slot} (hl : lv_has ls 5 [(0, .ref t0), (1, .int x1), (2, .int x2)]) : W p l e { frames := 10, cells := mc, slots := ms, locals := 320 } s m args below meth c H locs cells slots (vx_MQ below xF (XE D cs A hz ez) args s mc ms A) (F0 m 0 ls []) := by
  obtain ⟨hx, hb, hml, hown, hts, -⟩ := id C
  have hz2 : hz.nx ≤ h0.nx + mc ∧ hz.su ≤ h0.su + ms := ⟨by omega, by omega⟩
  unfold B_xX9_undo_0 at hJ
  refine lv_aload_n hx hb dX9_undo_0 rfl (lv_at hl 0 rfl) ?_
  refine lv_iload_n hx hb dX9_undo_1 rfl (lv_at hl 1 rfl) ?_
  rcases orX_some hJ with hX | ⟨-, hJ⟩
  · exact jx_V (As := [.int x1]) C htab w (xc_X9_activeOne hl0 N t0 h x1 hk0 hX) (mo_xX9_activeOne N t0 h x1 hX) hz3 hk0 (by decide) rfl (fs := fs12 h t0) rfl rfl ⟨tw_5_114, tw_5_111, tw_5_113, ts_17, tw_1_1⟩ cd_X9_activeOne ⟨by decide, by decide⟩ hl.1 (by first | exact Nat.le_of_ble_eq_true rfl | simp [rf_cat, cat_i, cat_l, cat_r]) rfl dX9_undo_2
  · obtain ⟨⟨h19, r20⟩, e21, hJ⟩ := ob_some hJ
    refine jc_Vq (As := [.int x1]) C w (cc_X9_activeOne N t0 h x1 hk0 e21) (mo_X9_activeOne N t0 h x1 e21) (mb_xX9_undo_5 N t0 _ _ _ hJ) hz2 hk0 (by decide) rfl (fs := fs12 h t0) rfl rfl ⟨tw_5_114, tw_5_111, tw_5_113, ts_17, tw_1_1⟩ cd_X9_activeOne ⟨by decide, by decide⟩ hl.1 (by first | exact Nat.le_of_ble_eq_true rfl | simp [rf_cat, cat_i, cat_l, cat_r]) rfl dX9_undo_2 (fun H locs w1 => ?_)
    have hk22 := kd_keep w (mo_X9_activeOne N t0 h x1 e21) hk0 (by decide)
    have w := w1
    exact sb_xX9_undo_5 C hl0 htab hz3 N t0 _ _ _ hJ hk22 w (lv_sub (l' := [(0, .ref t0), (2, .int x2)]) hl [0, 2] rfl)
def J_xX9_undo (N : Nat) (t0 : Nat) (h : Hp) (x1 : Int32) (x2 : Int32) : Option (Hp × String) := B_xX9_undo_0 N t0 h x1 x2
theorem mo_xX9_undo (N : Nat) (t0 : Nat) (h : Hp) (x1 : Int32) (x2 : Int32) (hJ : J_xX9_undo N t0 h x1 x2 = some (hz, ez)) : Mo h hz := mb_xX9_undo_0 N t0 h x1 x2 hJ
theorem xc_X9_undo (hl0 : l.stackTraces = false) (N : Nat) (t0 : Nat) (h : Hp) (x1 : Int32) (x2 : Int32) (hk0 : h.kd t0 = 12) (hJ : J_xX9_undo N t0 h x1 x2 = some (hz, ez)) : Xc l yX9_undo cX9_undo 5 (some .int) 10 320 D cs h hz ez [.ref t0, .int x1, .int x2] := by
  intro mc ms g1 g2
  refine je_anyX (by decide) (by simp [lg_sl, rf_cat, cat_i, cat_l, cat_r]) ?_
  intro p e s m args below meth c C htab w ls hl
  have hl : lv_has ls 5 [(0, .ref t0), (1, .int x1), (2, .int x2)] := hl
  exact sb_xX9_undo_0 C hl0 htab ⟨g1, g2⟩ N t0 h x1 x2 hJ hk0 w hl
end G_xX9_undo
section G_xX9_commit
variable {p : Program} {l : Launch} {e : Env} {s : State} {m : MethodId} {args : Array Value} {below : List Frame} {meth : Method} {c : Code} {D : va_G} {cs : C4} {A : Nat → Prop} {h0 hz : Hp} {mc ms : Nat} {ez : String}
def B_xX9_commit_20 (N : Nat) (t0 : Nat) (h : Hp) : Option (Hp × String) := none
theorem mb_xX9_commit_20 (N : Nat) (t0 : Nat) (h : Hp) (hJ : B_xX9_commit_20 N t0 h = some (hz, ez)) : Mo h hz := by
  unfold B_xX9_commit_20 at hJ
  cases hJ
set_option maxRecDepth 100000 in
set_option maxHeartbeats 4000000 in
theorem sb_xX9_commit_20 (C : Cx p s m args meth c cX9_commit 3 (some .int) RX9 D cs A h0.se) (hl0 : l.stackTraces = false) (htab : ∀ x ∈ c.exceptionTable.toList, False) (hz3 : hz.nx + 1 ≤ h0.nx + mc ∧ hz.su + 6 ≤ h0.su + ms) (N : Nat) (t0 : Nat) (h : Hp) (hJ : B_xX9_commit_20 N t0 h = some (hz, ez)) (hk0 : h.kd t0 = 12) {H : Heap} {locs : List Loc} {cells slots : Nat} (w : Wo D cs A s h0 h H locs cells slots) {ls : Array Slot} (hl : lv_has ls 3 [(0, .ref t0)]) : W p l e { frames := 9, cells := mc, slots := ms, locals := 290 } s m args below meth c H locs cells slots (vx_MQ below xF (XE D cs A hz ez) args s mc ms A) (F0 m 20 ls []) := by
  obtain ⟨hx, hb, hml, hown, hts, -⟩ := id C
  have hz2 : hz.nx ≤ h0.nx + mc ∧ hz.su ≤ h0.su + ms := ⟨by omega, by omega⟩
  unfold B_xX9_commit_20 at hJ
  refine lv_iconst (v := (1 : Int32)) hx hb dX9_commit_20 (by decide) ?_
  cases hJ
def B_xX9_commit_41 (N : Nat) (t0 : Nat) (h : Hp) : Option (Hp × String) := none
theorem mb_xX9_commit_41 (N : Nat) (t0 : Nat) (h : Hp) (hJ : B_xX9_commit_41 N t0 h = some (hz, ez)) : Mo h hz := by
  unfold B_xX9_commit_41 at hJ
  cases hJ
set_option maxRecDepth 100000 in
set_option maxHeartbeats 4000000 in
theorem sb_xX9_commit_41 (C : Cx p s m args meth c cX9_commit 3 (some .int) RX9 D cs A h0.se) (hl0 : l.stackTraces = false) (htab : ∀ x ∈ c.exceptionTable.toList, False) (hz3 : hz.nx + 1 ≤ h0.nx + mc ∧ hz.su + 6 ≤ h0.su + ms) (N : Nat) (t0 : Nat) (h : Hp) (hJ : B_xX9_commit_41 N t0 h = some (hz, ez)) (hk0 : h.kd t0 = 12) {H : Heap} {locs : List Loc} {cells slots : Nat} (w : Wo D cs A s h0 h H locs cells slots) {ls : Array Slot} (hl : lv_has ls 3 [(0, .ref t0)]) : W p l e { frames := 9, cells := mc, slots := ms, locals := 290 } s m args below meth c H locs cells slots (vx_MQ below xF (XE D cs A hz ez) args s mc ms A) (F0 m 41 ls []) := by
  obtain ⟨hx, hb, hml, hown, hts, -⟩ := id C
  have hz2 : hz.nx ≤ h0.nx + mc ∧ hz.su ≤ h0.su + ms := ⟨by omega, by omega⟩
  unfold B_xX9_commit_41 at hJ
  refine lv_iconst (v := (2 : Int32)) hx hb dX9_commit_41 (by decide) ?_
  cases hJ
def B_xX9_commit_87 (N : Nat) (t0 : Nat) (h : Hp) : Option (Hp × String) := none
theorem mb_xX9_commit_87 (N : Nat) (t0 : Nat) (h : Hp) (hJ : B_xX9_commit_87 N t0 h = some (hz, ez)) : Mo h hz := by
  unfold B_xX9_commit_87 at hJ
  cases hJ
set_option maxRecDepth 100000 in
set_option maxHeartbeats 4000000 in
theorem sb_xX9_commit_87 (C : Cx p s m args meth c cX9_commit 3 (some .int) RX9 D cs A h0.se) (hl0 : l.stackTraces = false) (htab : ∀ x ∈ c.exceptionTable.toList, False) (hz3 : hz.nx + 1 ≤ h0.nx + mc ∧ hz.su + 6 ≤ h0.su + ms) (N : Nat) (t0 : Nat) (h : Hp) (hJ : B_xX9_commit_87 N t0 h = some (hz, ez)) (hk0 : h.kd t0 = 12) {H : Heap} {locs : List Loc} {cells slots : Nat} (w : Wo D cs A s h0 h H locs cells slots) {ls : Array Slot} (hl : lv_has ls 3 [(0, .ref t0)]) : W p l e { frames := 9, cells := mc, slots := ms, locals := 290 } s m args below meth c H locs cells slots (vx_MQ below xF (XE D cs A hz ez) args s mc ms A) (F0 m 87 ls []) := by
  obtain ⟨hx, hb, hml, hown, hts, -⟩ := id C
  have hz2 : hz.nx ≤ h0.nx + mc ∧ hz.su ≤ h0.su + ms := ⟨by omega, by omega⟩
  unfold B_xX9_commit_87 at hJ
  refine lv_iconst (v := (0 : Int32)) hx hb dX9_commit_87 (by decide) ?_
  cases hJ
def B_xX9_commit_81 (N : Nat) (t0 : Nat) (h : Hp) (x2 : Option Nat) : Option (Hp × String) := (J_X9_end N t0 h x2 (2 : Int32)).bind (fun z => B_xX9_commit_87 N t0 z.1)
theorem mb_xX9_commit_81 (N : Nat) (t0 : Nat) (h : Hp) (x2 : Option Nat) (hJ : B_xX9_commit_81 N t0 h x2 = some (hz, ez)) : Mo h hz := by
  unfold B_xX9_commit_81 at hJ
  obtain ⟨⟨h1, r2⟩, e3, hJ⟩ := ob_some hJ
  exact (mo_X9_end N t0 h x2 (2 : Int32) e3).tr (mb_xX9_commit_87 N t0 _ hJ)
set_option maxRecDepth 100000 in
set_option maxHeartbeats 4000000 in
theorem sb_xX9_commit_81 (C : Cx p s m args meth c cX9_commit 3 (some .int) RX9 D cs A h0.se) (hl0 : l.stackTraces = false) (htab : ∀ x ∈ c.exceptionTable.toList, False) (hz3 : hz.nx + 1 ≤ h0.nx + mc ∧ hz.su + 6 ≤ h0.su + ms) (N : Nat) (t0 : Nat) (h : Hp) (x2 : Option Nat) (hJ : B_xX9_commit_81 N t0 h x2 = some (hz, ez)) (hk0 : h.kd t0 = 12) {H : Heap} {locs : List Loc} {cells slots : Nat} (w : Wo D cs A s h0 h H locs cells slots) {ls : Array Slot} (hl : lv_has ls 3 [(0, .ref t0), (2, va_rf x2)]) : W p l e { frames := 9, cells := mc, slots := ms, locals := 290 } s m args below meth c H locs cells slots (vx_MQ below xF (XE D cs A hz ez) args s mc ms A) (F0 m 81 ls []) := by
  obtain ⟨hx, hb, hml, hown, hts, -⟩ := id C
  have hz2 : hz.nx ≤ h0.nx + mc ∧ hz.su ≤ h0.su + ms := ⟨by omega, by omega⟩
  unfold B_xX9_commit_81 at hJ
  refine lv_aload_n hx hb dX9_commit_81 rfl (lv_at hl 0 rfl) ?_
  refine jv_aload_n hx hb dX9_commit_82 rfl (lv_at hl 1 rfl) ?_
  refine lv_iconst (v := (2 : Int32)) hx hb dX9_commit_83 (by decide) ?_
  obtain ⟨⟨h1, r2⟩, e3, hJ⟩ := ob_some hJ
  refine jc_Vv (As := [va_rf x2, .int (2 : Int32)]) C w (cc_X9_end N t0 h x2 (2 : Int32) hk0 e3) (mo_X9_end N t0 h x2 (2 : Int32) e3) (mb_xX9_commit_87 N t0 _ hJ) hz2 hk0 (by decide) rfl (fs := fs12 h t0) rfl rfl ⟨tw_5_203, tw_5_200, tw_5_202, ts_24, tw_1_1⟩ cd_X9_end ⟨by decide, by decide⟩ hl.1 (by first | exact Nat.le_of_ble_eq_true rfl | simp [rf_cat, cat_i, cat_l, cat_r]) rfl dX9_commit_84 (fun H locs w1 => ?_)
  have hk4 := kd_keep w (mo_X9_end N t0 h x2 (2 : Int32) e3) hk0 (by decide)
  have w := w1
  exact sb_xX9_commit_87 C hl0 htab hz3 N t0 _ hJ hk4 w (lv_sub (l' := [(0, .ref t0)]) hl [0] rfl)
def B_xX9_commit_76 (N : Nat) (t0 : Nat) (h : Hp) (x2 : Option Nat) : Option (Hp × String) := (J_X9_noteReaders N t0 h x2).bind (fun z => B_xX9_commit_81 N t0 z.1 x2)
theorem mb_xX9_commit_76 (N : Nat) (t0 : Nat) (h : Hp) (x2 : Option Nat) (hJ : B_xX9_commit_76 N t0 h x2 = some (hz, ez)) : Mo h hz := by
  unfold B_xX9_commit_76 at hJ
  obtain ⟨⟨h5, r6⟩, e7, hJ⟩ := ob_some hJ
  exact (mo_X9_noteReaders N t0 h x2 e7).tr (mb_xX9_commit_81 N t0 _ _ hJ)
set_option maxRecDepth 100000 in
set_option maxHeartbeats 4000000 in
theorem sb_xX9_commit_76 (C : Cx p s m args meth c cX9_commit 3 (some .int) RX9 D cs A h0.se) (hl0 : l.stackTraces = false) (htab : ∀ x ∈ c.exceptionTable.toList, False) (hz3 : hz.nx + 1 ≤ h0.nx + mc ∧ hz.su + 6 ≤ h0.su + ms) (N : Nat) (t0 : Nat) (h : Hp) (x2 : Option Nat) (hJ : B_xX9_commit_76 N t0 h x2 = some (hz, ez)) (hk0 : h.kd t0 = 12) {H : Heap} {locs : List Loc} {cells slots : Nat} (w : Wo D cs A s h0 h H locs cells slots) {ls : Array Slot} (hl : lv_has ls 3 [(0, .ref t0), (2, va_rf x2)]) : W p l e { frames := 9, cells := mc, slots := ms, locals := 290 } s m args below meth c H locs cells slots (vx_MQ below xF (XE D cs A hz ez) args s mc ms A) (F0 m 76 ls []) := by
  obtain ⟨hx, hb, hml, hown, hts, -⟩ := id C
  have hz2 : hz.nx ≤ h0.nx + mc ∧ hz.su ≤ h0.su + ms := ⟨by omega, by omega⟩
  unfold B_xX9_commit_76 at hJ
  refine lv_aload_n hx hb dX9_commit_76 rfl (lv_at hl 0 rfl) ?_
  refine jv_aload_n hx hb dX9_commit_77 rfl (lv_at hl 1 rfl) ?_
  obtain ⟨⟨h5, r6⟩, e7, hJ⟩ := ob_some hJ
  refine jc_Vv (As := [va_rf x2]) C w (cc_X9_noteReaders N t0 h x2 hk0 e7) (mo_X9_noteReaders N t0 h x2 e7) (mb_xX9_commit_81 N t0 _ _ hJ) hz2 hk0 (by decide) rfl (fs := fs12 h t0) rfl rfl ⟨tw_6_148, tw_6_145, tw_6_147, ts_30, tw_1_1⟩ cd_X9_noteReaders ⟨by decide, by decide⟩ hl.1 (by first | exact Nat.le_of_ble_eq_true rfl | simp [rf_cat, cat_i, cat_l, cat_r]) rfl dX9_commit_78 (fun H locs w1 => ?_)
  have hk8 := kd_keep w (mo_X9_noteReaders N t0 h x2 e7) hk0 (by decide)
  have w := w1
  exact sb_xX9_commit_81 C hl0 htab hz3 N t0 _ _ hJ hk8 w hl
def B_xX9_commit_64 (N : Nat) (t0 : Nat) (h : Hp) (x2 : Option Nat) (y0 : Int32) : Option (Hp × String) := dr h 10 x2 (fun a9 => dr h 11 (h.fr 1002 a9) (fun a10 => (J_X8_install N a10 h (h.fi 1007 a9)).bind (fun z => B_xX9_commit_76 N t0 z.1 (some a9))))
theorem mb_xX9_commit_64 (N : Nat) (t0 : Nat) (h : Hp) (x2 : Option Nat) (y0 : Int32) (hJ : B_xX9_commit_64 N t0 h x2 y0 = some (hz, ez)) : Mo h hz := by
  unfold B_xX9_commit_64 at hJ
  obtain ⟨a9, ea9, -, hJ⟩ := dr_some hJ
  obtain ⟨a10, ea10, -, hJ⟩ := dr_some hJ
  obtain ⟨⟨h11, r12⟩, e13, hJ⟩ := ob_some hJ
  exact (mo_X8_install N a10 h (h.fi 1007 a9) e13).tr (mb_xX9_commit_76 N t0 _ _ hJ)
set_option maxRecDepth 100000 in
set_option maxHeartbeats 4000000 in
theorem sb_xX9_commit_64 (C : Cx p s m args meth c cX9_commit 3 (some .int) RX9 D cs A h0.se) (hl0 : l.stackTraces = false) (htab : ∀ x ∈ c.exceptionTable.toList, False) (hz3 : hz.nx + 1 ≤ h0.nx + mc ∧ hz.su + 6 ≤ h0.su + ms) (N : Nat) (t0 : Nat) (h : Hp) (x2 : Option Nat) (y0 : Int32) (hJ : B_xX9_commit_64 N t0 h x2 y0 = some (hz, ez)) (hk0 : h.kd t0 = 12) {H : Heap} {locs : List Loc} {cells slots : Nat} (w : Wo D cs A s h0 h H locs cells slots) {ls : Array Slot} (hl : lv_has ls 3 [(0, .ref t0), (2, va_rf x2)]) : W p l e { frames := 9, cells := mc, slots := ms, locals := 290 } s m args below meth c H locs cells slots (vx_MQ below xF (XE D cs A hz ez) args s mc ms A) (F0 m 64 ls [.int y0]) := by
  obtain ⟨hx, hb, hml, hown, hts, -⟩ := id C
  have hz2 : hz.nx ≤ h0.nx + mc ∧ hz.su ≤ h0.su + ms := ⟨by omega, by omega⟩
  unfold B_xX9_commit_64 at hJ
  refine lv_pop hx hb dX9_commit_64 rfl ?_
  refine jv_aload_n hx hb dX9_commit_65 rfl (lv_at hl 1 rfl) ?_
  obtain ⟨a9, ea9, hka9, hJ⟩ := dr_some hJ
  rw [ea9] at hl
  rw [ea9]
  refine fg_1002 C w hka9 tw_2_16 dX9_commit_66 ?_
  refine lv_aload_n hx hb dX9_commit_69 rfl (lv_at hl 1 rfl) ?_
  refine fg_1007 C w hka9 tw_2_29 dX9_commit_70 ?_
  obtain ⟨a10, ea10, hka10, hJ⟩ := dr_some hJ
  rw [ea10]
  obtain ⟨⟨h11, r12⟩, e13, hJ⟩ := ob_some hJ
  refine jc_Vv (As := [.int (h.fi 1007 a9)]) C w (cc_X8_install N a10 h (h.fi 1007 a9) hka10 e13) (mo_X8_install N a10 h (h.fi 1007 a9) e13) (mb_xX9_commit_76 N t0 _ _ hJ) hz2 hka10 (by decide) rfl (fs := fs11 h a10) rfl rfl ⟨tw_5_84, tw_6_144, tw_5_82, tw_5_83, tw_1_8⟩ cd_X8_install ⟨by decide, by decide⟩ hl.1 (by first | exact Nat.le_of_ble_eq_true rfl | simp [rf_cat, cat_i, cat_l, cat_r]) rfl dX9_commit_73 (fun H locs w1 => ?_)
  have hk14 := kd_keep w (mo_X8_install N a10 h (h.fi 1007 a9) e13) hk0 (by decide)
  have w := w1
  exact sb_xX9_commit_76 C hl0 htab hz3 N t0 _ _ hJ hk14 w hl
def B_xX9_commit_51 (N : Nat) (t0 : Nat) (h : Hp) (x2 : Option Nat) (y0 : Option Nat) (y1 : Int32) : Option (Hp × String) := dr h 10 y0 (fun a15 => dr (h.sfi 1007 a15 (y1 + (1 : Int32))) 2 ((h.sfi 1007 a15 (y1 + (1 : Int32))).fr 1203 t0) (fun a16 => (J_Jx4a65c_add_9ea2d N a16 (h.sfi 1007 a15 (y1 + (1 : Int32))) x2).bind (fun z => B_xX9_commit_64 N t0 z.1 x2 z.2)))
theorem mb_xX9_commit_51 (N : Nat) (t0 : Nat) (h : Hp) (x2 : Option Nat) (y0 : Option Nat) (y1 : Int32) (hJ : B_xX9_commit_51 N t0 h x2 y0 y1 = some (hz, ez)) : Mo h hz := by
  unfold B_xX9_commit_51 at hJ
  obtain ⟨a15, ea15, -, hJ⟩ := dr_some hJ
  obtain ⟨a16, ea16, -, hJ⟩ := dr_some hJ
  obtain ⟨⟨h17, r18⟩, e19, hJ⟩ := ob_some hJ
  exact (Mo.tr (show Mo h (h.sfi 1007 a15 (y1 + (1 : Int32))) from ⟨fun _ _ => rfl, Nat.le_refl _, Nat.le_refl _, rfl, fun _ _ => rfl⟩) ((mo_Jx4a65c_add_9ea2d N a16 (h.sfi 1007 a15 (y1 + (1 : Int32))) x2 e19).tr (mb_xX9_commit_64 N t0 _ _ _ hJ)))
set_option maxRecDepth 100000 in
set_option maxHeartbeats 4000000 in
theorem sb_xX9_commit_51 (C : Cx p s m args meth c cX9_commit 3 (some .int) RX9 D cs A h0.se) (hl0 : l.stackTraces = false) (htab : ∀ x ∈ c.exceptionTable.toList, False) (hz3 : hz.nx + 1 ≤ h0.nx + mc ∧ hz.su + 6 ≤ h0.su + ms) (N : Nat) (t0 : Nat) (h : Hp) (x2 : Option Nat) (y0 : Option Nat) (y1 : Int32) (hJ : B_xX9_commit_51 N t0 h x2 y0 y1 = some (hz, ez)) (hk0 : h.kd t0 = 12) {H : Heap} {locs : List Loc} {cells slots : Nat} (w : Wo D cs A s h0 h H locs cells slots) {ls : Array Slot} (hl : lv_has ls 3 [(0, .ref t0), (2, va_rf x2)]) : W p l e { frames := 9, cells := mc, slots := ms, locals := 290 } s m args below meth c H locs cells slots (vx_MQ below xF (XE D cs A hz ez) args s mc ms A) (F0 m 51 ls [.int y1, va_rf y0]) := by
  obtain ⟨hx, hb, hml, hown, hts, -⟩ := id C
  have hz2 : hz.nx ≤ h0.nx + mc ∧ hz.su ≤ h0.su + ms := ⟨by omega, by omega⟩
  unfold B_xX9_commit_51 at hJ
  refine lv_iconst (v := (1 : Int32)) hx hb dX9_commit_51 (by decide) ?_
  refine lv_iadd hx hb dX9_commit_52 ?_
  obtain ⟨a15, ea15, hka15, hJ⟩ := dr_some hJ
  rw [ea15]
  refine fp_1007 (x := y1 + (1 : Int32)) C w hka15 tw_2_29 dX9_commit_53 (fun H locs w => ?_)
  refine lv_aload_n hx hb dX9_commit_56 rfl (lv_at hl 0 rfl) ?_
  refine fg_1203 C w hk0 tw_1_135 dX9_commit_57 ?_
  refine jv_aload_n hx hb dX9_commit_60 rfl (lv_at hl 1 rfl) ?_
  obtain ⟨a16, ea16, hka16, hJ⟩ := dr_some hJ
  rw [ea16]
  obtain ⟨⟨h17, r18⟩, e19, hJ⟩ := ob_some hJ
  refine jc_Vi (As := [va_rf x2]) C w (cc_Jx4a65c_add_9ea2d N a16 (h.sfi 1007 a15 (y1 + (1 : Int32))) x2 hka16 e19) (mo_Jx4a65c_add_9ea2d N a16 (h.sfi 1007 a15 (y1 + (1 : Int32))) x2 e19) (mb_xX9_commit_64 N t0 _ _ _ hJ) hz2 hka16 (by decide) rfl (fs := fs2 (h.sfi 1007 a15 (y1 + (1 : Int32))) a16) rfl rfl ⟨tw_2_87, tw_2_84, tw_2_85, tw_2_86, tw_1_5⟩ cd_Jx4a65c_add_9ea2d ⟨by decide, by decide⟩ hl.1 (by first | exact Nat.le_of_ble_eq_true rfl | simp [rf_cat, cat_i, cat_l, cat_r]) rfl dX9_commit_61 (fun H locs w1 => ?_)
  have hk20 := kd_keep w (mo_Jx4a65c_add_9ea2d N a16 (h.sfi 1007 a15 (y1 + (1 : Int32))) x2 e19) hk0 (by decide)
  have w := w1
  exact sb_xX9_commit_64 C hl0 htab hz3 N t0 _ _ _ hJ hk20 w hl
def B_xX9_commit_32 (N : Nat) (t0 : Nat) (h : Hp) (x2 : Option Nat) (y0 : Int32) : Option (Hp × String) := if y0 = 0 then (dr h 2 (h.fr 1203 t0) (fun a22 => (J_Jx4a65c_size_8abf5 N a22 h).bind (fun z => B_xX9_commit_51 N t0 z.1 x2 x2 z.2))) else ((J_X9_end N t0 h x2 (5 : Int32)).bind (fun z => B_xX9_commit_41 N t0 z.1))
theorem mb_xX9_commit_32 (N : Nat) (t0 : Nat) (h : Hp) (x2 : Option Nat) (y0 : Int32) (hJ : B_xX9_commit_32 N t0 h x2 y0 = some (hz, ez)) : Mo h hz := by
  unfold B_xX9_commit_32 at hJ
  by_cases c21 : y0 = 0
  · have hJ := it_pos c21 hJ
    obtain ⟨a22, ea22, -, hJ⟩ := dr_some hJ
    obtain ⟨⟨h23, r24⟩, e25, hJ⟩ := ob_some hJ
    exact (mo_Jx4a65c_size_8abf5 N a22 h e25).tr (mb_xX9_commit_51 N t0 _ _ _ _ hJ)
  · have hJ := it_neg c21 hJ
    obtain ⟨⟨h27, r28⟩, e29, hJ⟩ := ob_some hJ
    exact (mo_X9_end N t0 h x2 (5 : Int32) e29).tr (mb_xX9_commit_41 N t0 _ hJ)
set_option maxRecDepth 100000 in
set_option maxHeartbeats 4000000 in
theorem sb_xX9_commit_32 (C : Cx p s m args meth c cX9_commit 3 (some .int) RX9 D cs A h0.se) (hl0 : l.stackTraces = false) (htab : ∀ x ∈ c.exceptionTable.toList, False) (hz3 : hz.nx + 1 ≤ h0.nx + mc ∧ hz.su + 6 ≤ h0.su + ms) (N : Nat) (t0 : Nat) (h : Hp) (x2 : Option Nat) (y0 : Int32) (hJ : B_xX9_commit_32 N t0 h x2 y0 = some (hz, ez)) (hk0 : h.kd t0 = 12) {H : Heap} {locs : List Loc} {cells slots : Nat} (w : Wo D cs A s h0 h H locs cells slots) {ls : Array Slot} (hl : lv_has ls 3 [(0, .ref t0), (2, va_rf x2)]) : W p l e { frames := 9, cells := mc, slots := ms, locals := 290 } s m args below meth c H locs cells slots (vx_MQ below xF (XE D cs A hz ez) args s mc ms A) (F0 m 32 ls [.int y0]) := by
  obtain ⟨hx, hb, hml, hown, hts, -⟩ := id C
  have hz2 : hz.nx ≤ h0.nx + mc ∧ hz.su ≤ h0.su + ms := ⟨by omega, by omega⟩
  unfold B_xX9_commit_32 at hJ
  refine lv_if_eq (tgt := 43) hx hb dX9_commit_32 (by decide) (fun c21 => ?_) (fun c21 => ?_)
  · have hJ := it_pos c21 hJ
    refine jv_aload_n hx hb dX9_commit_43 rfl (lv_at hl 1 rfl) ?_
    refine lv_aload_n hx hb dX9_commit_44 rfl (lv_at hl 0 rfl) ?_
    refine fg_1203 C w hk0 tw_1_135 dX9_commit_45 ?_
    obtain ⟨a22, ea22, hka22, hJ⟩ := dr_some hJ
    rw [ea22]
    obtain ⟨⟨h23, r24⟩, e25, hJ⟩ := ob_some hJ
    refine jc_Vi (As := []) C w (cc_Jx4a65c_size_8abf5 N a22 h hka22 e25) (mo_Jx4a65c_size_8abf5 N a22 h e25) (mb_xX9_commit_51 N t0 _ _ _ _ hJ) hz2 hka22 (by decide) rfl (fs := fs2 h a22) rfl rfl ⟨tw_1_182, tw_1_179, tw_1_180, tw_1_181, tw_1_5⟩ cd_Jx4a65c_size_8abf5 ⟨by decide, by decide⟩ hl.1 (by first | exact Nat.le_of_ble_eq_true rfl | simp [rf_cat, cat_i, cat_l, cat_r]) rfl dX9_commit_48 (fun H locs w1 => ?_)
    have hk26 := kd_keep w (mo_Jx4a65c_size_8abf5 N a22 h e25) hk0 (by decide)
    have w := w1
    exact sb_xX9_commit_51 C hl0 htab hz3 N t0 _ _ _ _ hJ hk26 w hl
  · have hJ := it_neg c21 hJ
    refine lv_aload_n hx hb dX9_commit_35 rfl (lv_at hl 0 rfl) ?_
    refine jv_aload_n hx hb dX9_commit_36 rfl (lv_at hl 1 rfl) ?_
    refine lv_iconst (v := (5 : Int32)) hx hb dX9_commit_37 (by decide) ?_
    obtain ⟨⟨h27, r28⟩, e29, hJ⟩ := ob_some hJ
    refine jc_Vv (As := [va_rf x2, .int (5 : Int32)]) C w (cc_X9_end N t0 h x2 (5 : Int32) hk0 e29) (mo_X9_end N t0 h x2 (5 : Int32) e29) (mb_xX9_commit_41 N t0 _ hJ) hz2 hk0 (by decide) rfl (fs := fs12 h t0) rfl rfl ⟨tw_5_203, tw_5_200, tw_5_202, ts_24, tw_1_1⟩ cd_X9_end ⟨by decide, by decide⟩ hl.1 (by first | exact Nat.le_of_ble_eq_true rfl | simp [rf_cat, cat_i, cat_l, cat_r]) rfl dX9_commit_38 (fun H locs w1 => ?_)
    have hk30 := kd_keep w (mo_X9_end N t0 h x2 (5 : Int32) e29) hk0 (by decide)
    have w := w1
    exact sb_xX9_commit_41 C hl0 htab hz3 N t0 _ hJ hk30 w (lv_sub (l' := [(0, .ref t0)]) hl [0] rfl)
def B_xX9_commit_27 (N : Nat) (t0 : Nat) (h : Hp) (x2 : Option Nat) : Option (Hp × String) := (J_X9_isInDanger N t0 h x2).bind (fun z => B_xX9_commit_32 N t0 z.1 x2 z.2)
theorem mb_xX9_commit_27 (N : Nat) (t0 : Nat) (h : Hp) (x2 : Option Nat) (hJ : B_xX9_commit_27 N t0 h x2 = some (hz, ez)) : Mo h hz := by
  unfold B_xX9_commit_27 at hJ
  obtain ⟨⟨h31, r32⟩, e33, hJ⟩ := ob_some hJ
  exact (mo_X9_isInDanger N t0 h x2 e33).tr (mb_xX9_commit_32 N t0 _ _ _ hJ)
set_option maxRecDepth 100000 in
set_option maxHeartbeats 4000000 in
theorem sb_xX9_commit_27 (C : Cx p s m args meth c cX9_commit 3 (some .int) RX9 D cs A h0.se) (hl0 : l.stackTraces = false) (htab : ∀ x ∈ c.exceptionTable.toList, False) (hz3 : hz.nx + 1 ≤ h0.nx + mc ∧ hz.su + 6 ≤ h0.su + ms) (N : Nat) (t0 : Nat) (h : Hp) (x2 : Option Nat) (hJ : B_xX9_commit_27 N t0 h x2 = some (hz, ez)) (hk0 : h.kd t0 = 12) {H : Heap} {locs : List Loc} {cells slots : Nat} (w : Wo D cs A s h0 h H locs cells slots) {ls : Array Slot} (hl : lv_has ls 3 [(0, .ref t0), (2, va_rf x2)]) : W p l e { frames := 9, cells := mc, slots := ms, locals := 290 } s m args below meth c H locs cells slots (vx_MQ below xF (XE D cs A hz ez) args s mc ms A) (F0 m 27 ls []) := by
  obtain ⟨hx, hb, hml, hown, hts, -⟩ := id C
  have hz2 : hz.nx ≤ h0.nx + mc ∧ hz.su ≤ h0.su + ms := ⟨by omega, by omega⟩
  unfold B_xX9_commit_27 at hJ
  refine lv_aload_n hx hb dX9_commit_27 rfl (lv_at hl 0 rfl) ?_
  refine jv_aload_n hx hb dX9_commit_28 rfl (lv_at hl 1 rfl) ?_
  obtain ⟨⟨h31, r32⟩, e33, hJ⟩ := ob_some hJ
  refine jc_Vi (As := [va_rf x2]) C w (cc_X9_isInDanger N t0 h x2 hk0 e33) (mo_X9_isInDanger N t0 h x2 e33) (mb_xX9_commit_32 N t0 _ _ _ hJ) hz2 hk0 (by decide) rfl (fs := fs12 h t0) rfl rfl ⟨tw_6_143, tw_6_140, tw_6_142, ts_29, tw_1_1⟩ cd_X9_isInDanger ⟨by decide, by decide⟩ hl.1 (by first | exact Nat.le_of_ble_eq_true rfl | simp [rf_cat, cat_i, cat_l, cat_r]) rfl dX9_commit_29 (fun H locs w1 => ?_)
  have hk34 := kd_keep w (mo_X9_isInDanger N t0 h x2 e33) hk0 (by decide)
  have w := w1
  exact sb_xX9_commit_32 C hl0 htab hz3 N t0 _ _ _ hJ hk34 w hl
def B_xX9_commit_11 (N : Nat) (t0 : Nat) (h : Hp) (x2 : Option Nat) (y0 : Int32) : Option (Hp × String) := if y0 = 0 then ((J_X9_gatherReaders N t0 h x2).bind (fun z => B_xX9_commit_27 N t0 z.1 x2)) else ((J_X9_end N t0 h x2 (4 : Int32)).bind (fun z => B_xX9_commit_20 N t0 z.1))
theorem mb_xX9_commit_11 (N : Nat) (t0 : Nat) (h : Hp) (x2 : Option Nat) (y0 : Int32) (hJ : B_xX9_commit_11 N t0 h x2 y0 = some (hz, ez)) : Mo h hz := by
  unfold B_xX9_commit_11 at hJ
  by_cases c35 : y0 = 0
  · have hJ := it_pos c35 hJ
    obtain ⟨⟨h36, r37⟩, e38, hJ⟩ := ob_some hJ
    exact (mo_X9_gatherReaders N t0 h x2 e38).tr (mb_xX9_commit_27 N t0 _ _ hJ)
  · have hJ := it_neg c35 hJ
    obtain ⟨⟨h40, r41⟩, e42, hJ⟩ := ob_some hJ
    exact (mo_X9_end N t0 h x2 (4 : Int32) e42).tr (mb_xX9_commit_20 N t0 _ hJ)
set_option maxRecDepth 100000 in
set_option maxHeartbeats 4000000 in
theorem sb_xX9_commit_11 (C : Cx p s m args meth c cX9_commit 3 (some .int) RX9 D cs A h0.se) (hl0 : l.stackTraces = false) (htab : ∀ x ∈ c.exceptionTable.toList, False) (hz3 : hz.nx + 1 ≤ h0.nx + mc ∧ hz.su + 6 ≤ h0.su + ms) (N : Nat) (t0 : Nat) (h : Hp) (x2 : Option Nat) (y0 : Int32) (hJ : B_xX9_commit_11 N t0 h x2 y0 = some (hz, ez)) (hk0 : h.kd t0 = 12) {H : Heap} {locs : List Loc} {cells slots : Nat} (w : Wo D cs A s h0 h H locs cells slots) {ls : Array Slot} (hl : lv_has ls 3 [(0, .ref t0), (2, va_rf x2)]) : W p l e { frames := 9, cells := mc, slots := ms, locals := 290 } s m args below meth c H locs cells slots (vx_MQ below xF (XE D cs A hz ez) args s mc ms A) (F0 m 11 ls [.int y0]) := by
  obtain ⟨hx, hb, hml, hown, hts, -⟩ := id C
  have hz2 : hz.nx ≤ h0.nx + mc ∧ hz.su ≤ h0.su + ms := ⟨by omega, by omega⟩
  unfold B_xX9_commit_11 at hJ
  refine lv_if_eq (tgt := 22) hx hb dX9_commit_11 (by decide) (fun c35 => ?_) (fun c35 => ?_)
  · have hJ := it_pos c35 hJ
    refine lv_aload_n hx hb dX9_commit_22 rfl (lv_at hl 0 rfl) ?_
    refine jv_aload_n hx hb dX9_commit_23 rfl (lv_at hl 1 rfl) ?_
    obtain ⟨⟨h36, r37⟩, e38, hJ⟩ := ob_some hJ
    refine jc_Vv (As := [va_rf x2]) C w (cc_X9_gatherReaders N t0 h x2 hk0 e38) (mo_X9_gatherReaders N t0 h x2 e38) (mb_xX9_commit_27 N t0 _ _ hJ) hz2 hk0 (by decide) rfl (fs := fs12 h t0) rfl rfl ⟨tw_6_127, tw_6_124, tw_6_126, ts_27, tw_1_1⟩ cd_X9_gatherReaders ⟨by decide, by decide⟩ hl.1 (by first | exact Nat.le_of_ble_eq_true rfl | simp [rf_cat, cat_i, cat_l, cat_r]) rfl dX9_commit_24 (fun H locs w1 => ?_)
    have hk39 := kd_keep w (mo_X9_gatherReaders N t0 h x2 e38) hk0 (by decide)
    have w := w1
    exact sb_xX9_commit_27 C hl0 htab hz3 N t0 _ _ hJ hk39 w hl
  · have hJ := it_neg c35 hJ
    refine lv_aload_n hx hb dX9_commit_14 rfl (lv_at hl 0 rfl) ?_
    refine jv_aload_n hx hb dX9_commit_15 rfl (lv_at hl 1 rfl) ?_
    refine lv_iconst (v := (4 : Int32)) hx hb dX9_commit_16 (by decide) ?_
    obtain ⟨⟨h40, r41⟩, e42, hJ⟩ := ob_some hJ
    refine jc_Vv (As := [va_rf x2, .int (4 : Int32)]) C w (cc_X9_end N t0 h x2 (4 : Int32) hk0 e42) (mo_X9_end N t0 h x2 (4 : Int32) e42) (mb_xX9_commit_20 N t0 _ hJ) hz2 hk0 (by decide) rfl (fs := fs12 h t0) rfl rfl ⟨tw_5_203, tw_5_200, tw_5_202, ts_24, tw_1_1⟩ cd_X9_end ⟨by decide, by decide⟩ hl.1 (by first | exact Nat.le_of_ble_eq_true rfl | simp [rf_cat, cat_i, cat_l, cat_r]) rfl dX9_commit_17 (fun H locs w1 => ?_)
    have hk43 := kd_keep w (mo_X9_end N t0 h x2 (4 : Int32) e42) hk0 (by decide)
    have w := w1
    exact sb_xX9_commit_20 C hl0 htab hz3 N t0 _ hJ hk43 w (lv_sub (l' := [(0, .ref t0)]) hl [0] rfl)
def B_xX9_commit_5 (N : Nat) (t0 : Nat) (h : Hp) (y0 : Option Nat) : Option (Hp × String) := (J_X9_isInConflict N t0 h y0).bind (fun z => B_xX9_commit_11 N t0 z.1 y0 z.2)
theorem mb_xX9_commit_5 (N : Nat) (t0 : Nat) (h : Hp) (y0 : Option Nat) (hJ : B_xX9_commit_5 N t0 h y0 = some (hz, ez)) : Mo h hz := by
  unfold B_xX9_commit_5 at hJ
  obtain ⟨⟨h44, r45⟩, e46, hJ⟩ := ob_some hJ
  exact (mo_X9_isInConflict N t0 h y0 e46).tr (mb_xX9_commit_11 N t0 _ _ _ hJ)
set_option maxRecDepth 100000 in
set_option maxHeartbeats 4000000 in
theorem sb_xX9_commit_5 (C : Cx p s m args meth c cX9_commit 3 (some .int) RX9 D cs A h0.se) (hl0 : l.stackTraces = false) (htab : ∀ x ∈ c.exceptionTable.toList, False) (hz3 : hz.nx + 1 ≤ h0.nx + mc ∧ hz.su + 6 ≤ h0.su + ms) (N : Nat) (t0 : Nat) (h : Hp) (y0 : Option Nat) (hJ : B_xX9_commit_5 N t0 h y0 = some (hz, ez)) (hk0 : h.kd t0 = 12) {H : Heap} {locs : List Loc} {cells slots : Nat} (w : Wo D cs A s h0 h H locs cells slots) {ls : Array Slot} (hl : lv_has ls 3 [(0, .ref t0)]) : W p l e { frames := 9, cells := mc, slots := ms, locals := 290 } s m args below meth c H locs cells slots (vx_MQ below xF (XE D cs A hz ez) args s mc ms A) (F0 m 5 ls [va_rf y0]) := by
  obtain ⟨hx, hb, hml, hown, hts, -⟩ := id C
  have hz2 : hz.nx ≤ h0.nx + mc ∧ hz.su ≤ h0.su + ms := ⟨by omega, by omega⟩
  unfold B_xX9_commit_5 at hJ
  refine jv_astore_n (i := 2) (lv' := [(2, va_rf y0), (0, .ref t0)]) hx hb dX9_commit_5 rfl hl (by decide) rfl (fun ls hl => ?_)
  refine lv_aload_n hx hb dX9_commit_6 rfl (lv_at hl 1 rfl) ?_
  refine jv_aload_n hx hb dX9_commit_7 rfl (lv_at hl 0 rfl) ?_
  obtain ⟨⟨h44, r45⟩, e46, hJ⟩ := ob_some hJ
  refine jc_Vi (As := [va_rf y0]) C w (cc_X9_isInConflict N t0 h y0 hk0 e46) (mo_X9_isInConflict N t0 h y0 e46) (mb_xX9_commit_11 N t0 _ _ _ hJ) hz2 hk0 (by decide) rfl (fs := fs12 h t0) rfl rfl ⟨tw_6_122, tw_6_119, tw_6_121, ts_26, tw_1_1⟩ cd_X9_isInConflict ⟨by decide, by decide⟩ hl.1 (by first | exact Nat.le_of_ble_eq_true rfl | simp [rf_cat, cat_i, cat_l, cat_r]) rfl dX9_commit_8 (fun H locs w1 => ?_)
  have hk47 := kd_keep w (mo_X9_isInConflict N t0 h y0 e46) hk0 (by decide)
  have w := w1
  exact sb_xX9_commit_11 C hl0 htab hz3 N t0 _ _ _ hJ hk47 w (lv_sub (l' := [(0, .ref t0), (2, va_rf y0)]) hl [1, 0] rfl)
def B_xX9_commit_0 (N : Nat) (t0 : Nat) (h : Hp) (x1 : Int32) : Option (Hp × String) := orX (J_xX9_activeOne N t0 h x1) ((J_X9_activeOne N t0 h x1).bind (fun z => B_xX9_commit_5 N t0 z.1 z.2))
theorem mb_xX9_commit_0 (N : Nat) (t0 : Nat) (h : Hp) (x1 : Int32) (hJ : B_xX9_commit_0 N t0 h x1 = some (hz, ez)) : Mo h hz := by
  unfold B_xX9_commit_0 at hJ
  rcases orX_some hJ with hX | ⟨-, hJ⟩
  · exact mo_xX9_activeOne N t0 h x1 hX
  · obtain ⟨⟨h48, r49⟩, e50, hJ⟩ := ob_some hJ
    exact (mo_X9_activeOne N t0 h x1 e50).tr (mb_xX9_commit_5 N t0 _ _ hJ)
set_option maxRecDepth 100000 in
set_option maxHeartbeats 4000000 in
theorem sb_xX9_commit_0 (C : Cx p s m args meth c cX9_commit 3 (some .int) RX9 D cs A h0.se) (hl0 : l.stackTraces = false) (htab : ∀ x ∈ c.exceptionTable.toList, False) (hz3 : hz.nx + 1 ≤ h0.nx + mc ∧ hz.su + 6 ≤ h0.su + ms) (N : Nat) (t0 : Nat) (h : Hp) (x1 : Int32) (hJ : B_xX9_commit_0 N t0 h x1 = some (hz, ez)) (hk0 : h.kd t0 = 12) {H : Heap} {locs : List Loc} {cells slots : Nat} (w : Wo D cs A s h0 h H locs cells slots) {ls : Array Slot} (hl : lv_has ls 3 [(0, .ref t0), (1, .int x1)]) : W p l e { frames := 9, cells := mc, slots := ms, locals := 290 } s m args below meth c H locs cells slots (vx_MQ below xF (XE D cs A hz ez) args s mc ms A) (F0 m 0 ls []) := by
  obtain ⟨hx, hb, hml, hown, hts, -⟩ := id C
  have hz2 : hz.nx ≤ h0.nx + mc ∧ hz.su ≤ h0.su + ms := ⟨by omega, by omega⟩
  unfold B_xX9_commit_0 at hJ
  refine lv_aload_n hx hb dX9_commit_0 rfl (lv_at hl 0 rfl) ?_
  refine lv_iload_n hx hb dX9_commit_1 rfl (lv_at hl 1 rfl) ?_
  rcases orX_some hJ with hX | ⟨-, hJ⟩
  · exact jx_V (As := [.int x1]) C htab w (xc_X9_activeOne hl0 N t0 h x1 hk0 hX) (mo_xX9_activeOne N t0 h x1 hX) hz3 hk0 (by decide) rfl (fs := fs12 h t0) rfl rfl ⟨tw_5_114, tw_5_111, tw_5_113, ts_17, tw_1_1⟩ cd_X9_activeOne ⟨by decide, by decide⟩ hl.1 (by first | exact Nat.le_of_ble_eq_true rfl | simp [rf_cat, cat_i, cat_l, cat_r]) rfl dX9_commit_2
  · obtain ⟨⟨h48, r49⟩, e50, hJ⟩ := ob_some hJ
    refine jc_Vq (As := [.int x1]) C w (cc_X9_activeOne N t0 h x1 hk0 e50) (mo_X9_activeOne N t0 h x1 e50) (mb_xX9_commit_5 N t0 _ _ hJ) hz2 hk0 (by decide) rfl (fs := fs12 h t0) rfl rfl ⟨tw_5_114, tw_5_111, tw_5_113, ts_17, tw_1_1⟩ cd_X9_activeOne ⟨by decide, by decide⟩ hl.1 (by first | exact Nat.le_of_ble_eq_true rfl | simp [rf_cat, cat_i, cat_l, cat_r]) rfl dX9_commit_2 (fun H locs w1 => ?_)
    have hk51 := kd_keep w (mo_X9_activeOne N t0 h x1 e50) hk0 (by decide)
    have w := w1
    exact sb_xX9_commit_5 C hl0 htab hz3 N t0 _ _ hJ hk51 w (lv_sub (l' := [(0, .ref t0)]) hl [0] rfl)
def J_xX9_commit (N : Nat) (t0 : Nat) (h : Hp) (x1 : Int32) : Option (Hp × String) := B_xX9_commit_0 N t0 h x1
theorem mo_xX9_commit (N : Nat) (t0 : Nat) (h : Hp) (x1 : Int32) (hJ : J_xX9_commit N t0 h x1 = some (hz, ez)) : Mo h hz := mb_xX9_commit_0 N t0 h x1 hJ
theorem xc_X9_commit (hl0 : l.stackTraces = false) (N : Nat) (t0 : Nat) (h : Hp) (x1 : Int32) (hk0 : h.kd t0 = 12) (hJ : J_xX9_commit N t0 h x1 = some (hz, ez)) : Xc l yX9_commit cX9_commit 3 (some .int) 9 290 D cs h hz ez [.ref t0, .int x1] := by
  intro mc ms g1 g2
  refine je_anyX (by decide) (by simp [lg_sl, rf_cat, cat_i, cat_l, cat_r]) ?_
  intro p e s m args below meth c C htab w ls hl
  have hl : lv_has ls 3 [(0, .ref t0), (1, .int x1)] := hl
  exact sb_xX9_commit_0 C hl0 htab ⟨g1, g2⟩ N t0 h x1 hJ hk0 w hl
end G_xX9_commit
section G_xX9_abort
variable {p : Program} {l : Launch} {e : Env} {s : State} {m : MethodId} {args : Array Value} {below : List Frame} {meth : Method} {c : Code} {D : va_G} {cs : C4} {A : Nat → Prop} {h0 hz : Hp} {mc ms : Nat} {ez : String}
def B_xX9_abort_10 (N : Nat) (t0 : Nat) (h : Hp) : Option (Hp × String) := none
theorem mb_xX9_abort_10 (N : Nat) (t0 : Nat) (h : Hp) (hJ : B_xX9_abort_10 N t0 h = some (hz, ez)) : Mo h hz := by
  unfold B_xX9_abort_10 at hJ
  cases hJ
set_option maxRecDepth 100000 in
set_option maxHeartbeats 4000000 in
theorem sb_xX9_abort_10 (C : Cx p s m args meth c cX9_abort 2 none RX9 D cs A h0.se) (hl0 : l.stackTraces = false) (htab : ∀ x ∈ c.exceptionTable.toList, False) (hz3 : hz.nx + 1 ≤ h0.nx + mc ∧ hz.su + 6 ≤ h0.su + ms) (N : Nat) (t0 : Nat) (h : Hp) (hJ : B_xX9_abort_10 N t0 h = some (hz, ez)) (hk0 : h.kd t0 = 12) {H : Heap} {locs : List Loc} {cells slots : Nat} (w : Wo D cs A s h0 h H locs cells slots) {ls : Array Slot} (hl : lv_has ls 2 [(0, .ref t0)]) : W p l e { frames := 7, cells := mc, slots := ms, locals := 150 } s m args below meth c H locs cells slots (vx_MQ below xF (XE D cs A hz ez) args s mc ms A) (F0 m 10 ls []) := by
  obtain ⟨hx, hb, hml, hown, hts, -⟩ := id C
  have hz2 : hz.nx ≤ h0.nx + mc ∧ hz.su ≤ h0.su + ms := ⟨by omega, by omega⟩
  unfold B_xX9_abort_10 at hJ
  cases hJ
def B_xX9_abort_6 (N : Nat) (t0 : Nat) (h : Hp) (y0 : Option Nat) (y1 : Option Nat) : Option (Hp × String) := dr h 12 y0 (fun a1 => (J_X9_end N a1 h y1 (3 : Int32)).bind (fun z => B_xX9_abort_10 N t0 z.1))
theorem mb_xX9_abort_6 (N : Nat) (t0 : Nat) (h : Hp) (y0 : Option Nat) (y1 : Option Nat) (hJ : B_xX9_abort_6 N t0 h y0 y1 = some (hz, ez)) : Mo h hz := by
  unfold B_xX9_abort_6 at hJ
  obtain ⟨a1, ea1, -, hJ⟩ := dr_some hJ
  obtain ⟨⟨h2, r3⟩, e4, hJ⟩ := ob_some hJ
  exact (mo_X9_end N a1 h y1 (3 : Int32) e4).tr (mb_xX9_abort_10 N t0 _ hJ)
set_option maxRecDepth 100000 in
set_option maxHeartbeats 4000000 in
theorem sb_xX9_abort_6 (C : Cx p s m args meth c cX9_abort 2 none RX9 D cs A h0.se) (hl0 : l.stackTraces = false) (htab : ∀ x ∈ c.exceptionTable.toList, False) (hz3 : hz.nx + 1 ≤ h0.nx + mc ∧ hz.su + 6 ≤ h0.su + ms) (N : Nat) (t0 : Nat) (h : Hp) (y0 : Option Nat) (y1 : Option Nat) (hJ : B_xX9_abort_6 N t0 h y0 y1 = some (hz, ez)) (hk0 : h.kd t0 = 12) {H : Heap} {locs : List Loc} {cells slots : Nat} (w : Wo D cs A s h0 h H locs cells slots) {ls : Array Slot} (hl : lv_has ls 2 [(0, .ref t0)]) : W p l e { frames := 7, cells := mc, slots := ms, locals := 150 } s m args below meth c H locs cells slots (vx_MQ below xF (XE D cs A hz ez) args s mc ms A) (F0 m 6 ls [va_rf y1, va_rf y0]) := by
  obtain ⟨hx, hb, hml, hown, hts, -⟩ := id C
  have hz2 : hz.nx ≤ h0.nx + mc ∧ hz.su ≤ h0.su + ms := ⟨by omega, by omega⟩
  unfold B_xX9_abort_6 at hJ
  refine lv_iconst (v := (3 : Int32)) hx hb dX9_abort_6 (by decide) ?_
  obtain ⟨a1, ea1, hka1, hJ⟩ := dr_some hJ
  rw [ea1]
  obtain ⟨⟨h2, r3⟩, e4, hJ⟩ := ob_some hJ
  refine jc_Vv (As := [va_rf y1, .int (3 : Int32)]) C w (cc_X9_end N a1 h y1 (3 : Int32) hka1 e4) (mo_X9_end N a1 h y1 (3 : Int32) e4) (mb_xX9_abort_10 N t0 _ hJ) hz2 hka1 (by decide) rfl (fs := fs12 h a1) rfl rfl ⟨tw_5_203, tw_5_200, tw_5_202, ts_24, tw_1_1⟩ cd_X9_end ⟨by decide, by decide⟩ hl.1 (by first | exact Nat.le_of_ble_eq_true rfl | simp [rf_cat, cat_i, cat_l, cat_r]) rfl dX9_abort_7 (fun H locs w1 => ?_)
  have hk5 := kd_keep w (mo_X9_end N a1 h y1 (3 : Int32) e4) hk0 (by decide)
  have w := w1
  exact sb_xX9_abort_10 C hl0 htab hz3 N t0 _ hJ hk5 w hl
def B_xX9_abort_0 (N : Nat) (t0 : Nat) (h : Hp) (x1 : Int32) : Option (Hp × String) := orX (J_xX9_activeOne N t0 h x1) ((J_X9_activeOne N t0 h x1).bind (fun z => B_xX9_abort_6 N t0 z.1 (some t0) z.2))
theorem mb_xX9_abort_0 (N : Nat) (t0 : Nat) (h : Hp) (x1 : Int32) (hJ : B_xX9_abort_0 N t0 h x1 = some (hz, ez)) : Mo h hz := by
  unfold B_xX9_abort_0 at hJ
  rcases orX_some hJ with hX | ⟨-, hJ⟩
  · exact mo_xX9_activeOne N t0 h x1 hX
  · obtain ⟨⟨h6, r7⟩, e8, hJ⟩ := ob_some hJ
    exact (mo_X9_activeOne N t0 h x1 e8).tr (mb_xX9_abort_6 N t0 _ _ _ hJ)
set_option maxRecDepth 100000 in
set_option maxHeartbeats 4000000 in
theorem sb_xX9_abort_0 (C : Cx p s m args meth c cX9_abort 2 none RX9 D cs A h0.se) (hl0 : l.stackTraces = false) (htab : ∀ x ∈ c.exceptionTable.toList, False) (hz3 : hz.nx + 1 ≤ h0.nx + mc ∧ hz.su + 6 ≤ h0.su + ms) (N : Nat) (t0 : Nat) (h : Hp) (x1 : Int32) (hJ : B_xX9_abort_0 N t0 h x1 = some (hz, ez)) (hk0 : h.kd t0 = 12) {H : Heap} {locs : List Loc} {cells slots : Nat} (w : Wo D cs A s h0 h H locs cells slots) {ls : Array Slot} (hl : lv_has ls 2 [(0, .ref t0), (1, .int x1)]) : W p l e { frames := 7, cells := mc, slots := ms, locals := 150 } s m args below meth c H locs cells slots (vx_MQ below xF (XE D cs A hz ez) args s mc ms A) (F0 m 0 ls []) := by
  obtain ⟨hx, hb, hml, hown, hts, -⟩ := id C
  have hz2 : hz.nx ≤ h0.nx + mc ∧ hz.su ≤ h0.su + ms := ⟨by omega, by omega⟩
  unfold B_xX9_abort_0 at hJ
  refine lv_aload_n hx hb dX9_abort_0 rfl (lv_at hl 0 rfl) ?_
  refine lv_aload_n hx hb dX9_abort_1 rfl (lv_at hl 0 rfl) ?_
  refine lv_iload_n hx hb dX9_abort_2 rfl (lv_at hl 1 rfl) ?_
  rcases orX_some hJ with hX | ⟨-, hJ⟩
  · exact jx_V (As := [.int x1]) C htab w (xc_X9_activeOne hl0 N t0 h x1 hk0 hX) (mo_xX9_activeOne N t0 h x1 hX) hz3 hk0 (by decide) rfl (fs := fs12 h t0) rfl rfl ⟨tw_5_114, tw_5_111, tw_5_113, ts_17, tw_1_1⟩ cd_X9_activeOne ⟨by decide, by decide⟩ hl.1 (by first | exact Nat.le_of_ble_eq_true rfl | simp [rf_cat, cat_i, cat_l, cat_r]) rfl dX9_abort_3
  · obtain ⟨⟨h6, r7⟩, e8, hJ⟩ := ob_some hJ
    refine jc_Vq (As := [.int x1]) C w (cc_X9_activeOne N t0 h x1 hk0 e8) (mo_X9_activeOne N t0 h x1 e8) (mb_xX9_abort_6 N t0 _ _ _ hJ) hz2 hk0 (by decide) rfl (fs := fs12 h t0) rfl rfl ⟨tw_5_114, tw_5_111, tw_5_113, ts_17, tw_1_1⟩ cd_X9_activeOne ⟨by decide, by decide⟩ hl.1 (by first | exact Nat.le_of_ble_eq_true rfl | simp [rf_cat, cat_i, cat_l, cat_r]) rfl dX9_abort_3 (fun H locs w1 => ?_)
    have hk9 := kd_keep w (mo_X9_activeOne N t0 h x1 e8) hk0 (by decide)
    have w := w1
    exact sb_xX9_abort_6 C hl0 htab hz3 N t0 _ _ _ hJ hk9 w (lv_sub (l' := [(0, .ref t0)]) hl [0] rfl)
def J_xX9_abort (N : Nat) (t0 : Nat) (h : Hp) (x1 : Int32) : Option (Hp × String) := B_xX9_abort_0 N t0 h x1
theorem mo_xX9_abort (N : Nat) (t0 : Nat) (h : Hp) (x1 : Int32) (hJ : J_xX9_abort N t0 h x1 = some (hz, ez)) : Mo h hz := mb_xX9_abort_0 N t0 h x1 hJ
theorem xc_X9_abort (hl0 : l.stackTraces = false) (N : Nat) (t0 : Nat) (h : Hp) (x1 : Int32) (hk0 : h.kd t0 = 12) (hJ : J_xX9_abort N t0 h x1 = some (hz, ez)) : Xc l yX9_abort cX9_abort 2 none 7 150 D cs h hz ez [.ref t0, .int x1] := by
  intro mc ms g1 g2
  refine je_anyX (by decide) (by simp [lg_sl, rf_cat, cat_i, cat_l, cat_r]) ?_
  intro p e s m args below meth c C htab w ls hl
  have hl : lv_has ls 2 [(0, .ref t0), (1, .int x1)] := hl
  exact sb_xX9_abort_0 C hl0 htab ⟨g1, g2⟩ N t0 h x1 hJ hk0 w hl
end G_xX9_abort
section G_xX9_rowKey
variable {p : Program} {l : Launch} {e : Env} {s : State} {m : MethodId} {args : Array Value} {below : List Frame} {meth : Method} {c : Code} {D : va_G} {cs : C4} {A : Nat → Prop} {h0 hz : Hp} {mc ms : Nat} {ez : String}
def B_xX9_rowKey_18 (N : Nat) (t0 : Nat) (h : Hp) : Option (Hp × String) := some (h, "java/util/NoSuchElementException")
theorem mb_xX9_rowKey_18 (N : Nat) (t0 : Nat) (h : Hp) (hJ : B_xX9_rowKey_18 N t0 h = some (hz, ez)) : Mo h hz := by
  unfold B_xX9_rowKey_18 at hJ
  obtain ⟨rfl, -⟩ := rs2 hJ
  exact ⟨fun _ _ => rfl, Nat.le_refl _, Nat.le_refl _, rfl, fun _ _ => rfl⟩
set_option maxRecDepth 100000 in
set_option maxHeartbeats 4000000 in
theorem sb_xX9_rowKey_18 (C : Cx p s m args meth c cX9_rowKey 2 (some .int) RX9 D cs A h0.se) (hl0 : l.stackTraces = false) (htab : ∀ x ∈ c.exceptionTable.toList, False) (hz3 : hz.nx + 1 ≤ h0.nx + mc ∧ hz.su + 6 ≤ h0.su + ms) (N : Nat) (t0 : Nat) (h : Hp) (hJ : B_xX9_rowKey_18 N t0 h = some (hz, ez)) (hk0 : h.kd t0 = 12) {H : Heap} {locs : List Loc} {cells slots : Nat} (w : Wo D cs A s h0 h H locs cells slots) {ls : Array Slot} (hl : lv_has ls 2 [(0, .ref t0)]) : W p l e { frames := 6, cells := mc, slots := ms, locals := 90 } s m args below meth c H locs cells slots (vx_MQ below xF (XE D cs A hz ez) args s mc ms A) (F0 m 18 ls []) := by
  obtain ⟨hx, hb, hml, hown, hts, -⟩ := id C
  have hz2 : hz.nx ≤ h0.nx + mc ∧ hz.su ≤ h0.su + ms := ⟨by omega, by omega⟩
  unfold B_xX9_rowKey_18 at hJ
  obtain ⟨rfl, rfl⟩ := rs2 hJ
  exact jx_N C hl0 htab w hz3 tw_6_35 tw_1_32 (xw_of C).2.2.2.2.2.2.2.2.2.2.2.2.1 hl.1 dX9_rowKey_18 dX9_rowKey_21 dX9_rowKey_22 dX9_rowKey_24 dX9_rowKey_27 (by decide) (by first | exact Nat.le_of_ble_eq_true rfl | simp [rf_cat, cat_i, cat_l, cat_r])
def B_xX9_rowKey_15 (N : Nat) (t0 : Nat) (h : Hp) (x1 : Int32) (y0 : Int32) : Option (Hp × String) := if y0 = 0 then (B_xX9_rowKey_18 N t0 h) else (dr h 3 (h.fr 1211 t0) (fun a2 => dr h 20 (h.fr 308 a2) (fun a3 => ck (¬ (x1 < 0 ∨ h.al a3 ≤ x1.toNatClampNeg)) (none))))
theorem mb_xX9_rowKey_15 (N : Nat) (t0 : Nat) (h : Hp) (x1 : Int32) (y0 : Int32) (hJ : B_xX9_rowKey_15 N t0 h x1 y0 = some (hz, ez)) : Mo h hz := by
  unfold B_xX9_rowKey_15 at hJ
  by_cases c1 : y0 = 0
  · have hJ := it_pos c1 hJ
    exact mb_xX9_rowKey_18 N t0 _ hJ
  · have hJ := it_neg c1 hJ
    obtain ⟨a2, ea2, -, hJ⟩ := dr_some hJ
    obtain ⟨a3, ea3, -, hJ⟩ := dr_some hJ
    obtain ⟨-, hJ⟩ := ck_some hJ
    cases hJ
set_option maxRecDepth 100000 in
set_option maxHeartbeats 4000000 in
theorem sb_xX9_rowKey_15 (C : Cx p s m args meth c cX9_rowKey 2 (some .int) RX9 D cs A h0.se) (hl0 : l.stackTraces = false) (htab : ∀ x ∈ c.exceptionTable.toList, False) (hz3 : hz.nx + 1 ≤ h0.nx + mc ∧ hz.su + 6 ≤ h0.su + ms) (N : Nat) (t0 : Nat) (h : Hp) (x1 : Int32) (y0 : Int32) (hJ : B_xX9_rowKey_15 N t0 h x1 y0 = some (hz, ez)) (hk0 : h.kd t0 = 12) {H : Heap} {locs : List Loc} {cells slots : Nat} (w : Wo D cs A s h0 h H locs cells slots) {ls : Array Slot} (hl : lv_has ls 2 [(0, .ref t0), (1, .int x1)]) : W p l e { frames := 6, cells := mc, slots := ms, locals := 90 } s m args below meth c H locs cells slots (vx_MQ below xF (XE D cs A hz ez) args s mc ms A) (F0 m 15 ls [.int y0]) := by
  obtain ⟨hx, hb, hml, hown, hts, -⟩ := id C
  have hz2 : hz.nx ≤ h0.nx + mc ∧ hz.su ≤ h0.su + ms := ⟨by omega, by omega⟩
  unfold B_xX9_rowKey_15 at hJ
  refine lv_if_ne (tgt := 28) hx hb dX9_rowKey_15 (by decide) (fun c1 => ?_) (fun c1 => ?_)
  · have hJ := it_neg c1 hJ
    refine lv_aload_n hx hb dX9_rowKey_28 rfl (lv_at hl 0 rfl) ?_
    refine fg_1211 C w hk0 tw_1_143 dX9_rowKey_29 ?_
    obtain ⟨a2, ea2, hka2, hJ⟩ := dr_some hJ
    rw [ea2]
    refine fg_308 C w hka2 tw_1_106 dX9_rowKey_32 ?_
    refine lv_iload_n hx hb dX9_rowKey_35 rfl (lv_at hl 1 rfl) ?_
    obtain ⟨a3, ea3, hka3, hJ⟩ := dr_some hJ
    rw [ea3]
    obtain ⟨hi4, hJ⟩ := ck_some hJ
    refine jr_iald C w hka3 hi4 dX9_rowKey_36 ?_
    cases hJ
  · have hJ := it_pos c1 hJ
    exact sb_xX9_rowKey_18 C hl0 htab hz3 N t0 _ hJ hk0 w (lv_sub (l' := [(0, .ref t0)]) hl [0] rfl)
def B_xX9_rowKey_0 (N : Nat) (t0 : Nat) (h : Hp) (x1 : Int32) : Option (Hp × String) := nl (h.fr 1211 t0) (B_xX9_rowKey_18 N t0 h) (fun a5 => dr h 3 (h.fr 1211 t0) (fun a6 => (J_X0_hasRow N a6 h x1).bind (fun z => B_xX9_rowKey_15 N t0 z.1 x1 z.2)))
theorem mb_xX9_rowKey_0 (N : Nat) (t0 : Nat) (h : Hp) (x1 : Int32) (hJ : B_xX9_rowKey_0 N t0 h x1 = some (hz, ez)) : Mo h hz := by
  unfold B_xX9_rowKey_0 at hJ
  cases ea5 : (h.fr 1211 t0) with
  | none =>
    have hJ := nl_none ea5 hJ
    exact mb_xX9_rowKey_18 N t0 _ hJ
  | some a5 =>
    have hJ := nl_some ea5 hJ
    obtain ⟨a6, ea6, -, hJ⟩ := dr_some hJ
    obtain ⟨⟨h7, r8⟩, e9, hJ⟩ := ob_some hJ
    exact (mo_X0_hasRow N a6 h x1 e9).tr (mb_xX9_rowKey_15 N t0 _ _ _ hJ)
set_option maxRecDepth 100000 in
set_option maxHeartbeats 4000000 in
theorem sb_xX9_rowKey_0 (C : Cx p s m args meth c cX9_rowKey 2 (some .int) RX9 D cs A h0.se) (hl0 : l.stackTraces = false) (htab : ∀ x ∈ c.exceptionTable.toList, False) (hz3 : hz.nx + 1 ≤ h0.nx + mc ∧ hz.su + 6 ≤ h0.su + ms) (N : Nat) (t0 : Nat) (h : Hp) (x1 : Int32) (hJ : B_xX9_rowKey_0 N t0 h x1 = some (hz, ez)) (hk0 : h.kd t0 = 12) {H : Heap} {locs : List Loc} {cells slots : Nat} (w : Wo D cs A s h0 h H locs cells slots) {ls : Array Slot} (hl : lv_has ls 2 [(0, .ref t0), (1, .int x1)]) : W p l e { frames := 6, cells := mc, slots := ms, locals := 90 } s m args below meth c H locs cells slots (vx_MQ below xF (XE D cs A hz ez) args s mc ms A) (F0 m 0 ls []) := by
  obtain ⟨hx, hb, hml, hown, hts, -⟩ := id C
  have hz2 : hz.nx ≤ h0.nx + mc ∧ hz.su ≤ h0.su + ms := ⟨by omega, by omega⟩
  unfold B_xX9_rowKey_0 at hJ
  refine lv_aload_n hx hb dX9_rowKey_0 rfl (lv_at hl 0 rfl) ?_
  refine fg_1211 C w hk0 tw_1_143 dX9_rowKey_1 ?_
  refine jv_ifnull (tgt := 18) hx hb dX9_rowKey_4 (by decide) (fun ea5 => ?_) (fun a5 ea5 => ?_)
  · have hJ := nl_none ea5 hJ
    exact sb_xX9_rowKey_18 C hl0 htab hz3 N t0 _ hJ hk0 w (lv_sub (l' := [(0, .ref t0)]) hl [0] rfl)
  · have hJ := nl_some ea5 hJ
    refine lv_aload_n hx hb dX9_rowKey_7 rfl (lv_at hl 0 rfl) ?_
    refine fg_1211 C w hk0 tw_1_143 dX9_rowKey_8 ?_
    refine lv_iload_n hx hb dX9_rowKey_11 rfl (lv_at hl 1 rfl) ?_
    obtain ⟨a6, ea6, hka6, hJ⟩ := dr_some hJ
    rw [ea6]
    obtain ⟨⟨h7, r8⟩, e9, hJ⟩ := ob_some hJ
    refine jc_Vi (As := [.int x1]) C w (cc_X0_hasRow N a6 h x1 hka6 e9) (mo_X0_hasRow N a6 h x1 e9) (mb_xX9_rowKey_15 N t0 _ _ _ hJ) hz2 hka6 (by decide) rfl (fs := fs3 h a6) rfl rfl ⟨tw_5_80, tw_6_34, tw_5_78, tw_5_79, tw_1_6⟩ cd_X0_hasRow ⟨by decide, by decide⟩ hl.1 (by first | exact Nat.le_of_ble_eq_true rfl | simp [rf_cat, cat_i, cat_l, cat_r]) rfl dX9_rowKey_12 (fun H locs w1 => ?_)
    have hk10 := kd_keep w (mo_X0_hasRow N a6 h x1 e9) hk0 (by decide)
    have w := w1
    exact sb_xX9_rowKey_15 C hl0 htab hz3 N t0 _ _ _ hJ hk10 w hl
def J_xX9_rowKey (N : Nat) (t0 : Nat) (h : Hp) (x1 : Int32) : Option (Hp × String) := B_xX9_rowKey_0 N t0 h x1
theorem mo_xX9_rowKey (N : Nat) (t0 : Nat) (h : Hp) (x1 : Int32) (hJ : J_xX9_rowKey N t0 h x1 = some (hz, ez)) : Mo h hz := mb_xX9_rowKey_0 N t0 h x1 hJ
theorem xc_X9_rowKey (hl0 : l.stackTraces = false) (N : Nat) (t0 : Nat) (h : Hp) (x1 : Int32) (hk0 : h.kd t0 = 12) (hJ : J_xX9_rowKey N t0 h x1 = some (hz, ez)) : Xc l yX9_rowKey cX9_rowKey 2 (some .int) 6 90 D cs h hz ez [.ref t0, .int x1] := by
  intro mc ms g1 g2
  refine je_anyX (by decide) (by simp [lg_sl, rf_cat, cat_i, cat_l, cat_r]) ?_
  intro p e s m args below meth c C htab w ls hl
  have hl : lv_has ls 2 [(0, .ref t0), (1, .int x1)] := hl
  exact sb_xX9_rowKey_0 C hl0 htab ⟨g1, g2⟩ N t0 h x1 hJ hk0 w hl
end G_xX9_rowKey
section G_xX9_rowValue
variable {p : Program} {l : Launch} {e : Env} {s : State} {m : MethodId} {args : Array Value} {below : List Frame} {meth : Method} {c : Code} {D : va_G} {cs : C4} {A : Nat → Prop} {h0 hz : Hp} {mc ms : Nat} {ez : String}
def B_xX9_rowValue_18 (N : Nat) (t0 : Nat) (h : Hp) : Option (Hp × String) := some (h, "java/util/NoSuchElementException")
theorem mb_xX9_rowValue_18 (N : Nat) (t0 : Nat) (h : Hp) (hJ : B_xX9_rowValue_18 N t0 h = some (hz, ez)) : Mo h hz := by
  unfold B_xX9_rowValue_18 at hJ
  obtain ⟨rfl, -⟩ := rs2 hJ
  exact ⟨fun _ _ => rfl, Nat.le_refl _, Nat.le_refl _, rfl, fun _ _ => rfl⟩
set_option maxRecDepth 100000 in
set_option maxHeartbeats 4000000 in
theorem sb_xX9_rowValue_18 (C : Cx p s m args meth c cX9_rowValue 2 (some .long) RX9 D cs A h0.se) (hl0 : l.stackTraces = false) (htab : ∀ x ∈ c.exceptionTable.toList, False) (hz3 : hz.nx + 1 ≤ h0.nx + mc ∧ hz.su + 6 ≤ h0.su + ms) (N : Nat) (t0 : Nat) (h : Hp) (hJ : B_xX9_rowValue_18 N t0 h = some (hz, ez)) (hk0 : h.kd t0 = 12) {H : Heap} {locs : List Loc} {cells slots : Nat} (w : Wo D cs A s h0 h H locs cells slots) {ls : Array Slot} (hl : lv_has ls 2 [(0, .ref t0)]) : W p l e { frames := 6, cells := mc, slots := ms, locals := 90 } s m args below meth c H locs cells slots (vx_MQ below xF (XE D cs A hz ez) args s mc ms A) (F0 m 18 ls []) := by
  obtain ⟨hx, hb, hml, hown, hts, -⟩ := id C
  have hz2 : hz.nx ≤ h0.nx + mc ∧ hz.su ≤ h0.su + ms := ⟨by omega, by omega⟩
  unfold B_xX9_rowValue_18 at hJ
  obtain ⟨rfl, rfl⟩ := rs2 hJ
  exact jx_N C hl0 htab w hz3 tw_6_35 tw_1_32 (xw_of C).2.2.2.2.2.2.2.2.2.2.2.2.1 hl.1 dX9_rowValue_18 dX9_rowValue_21 dX9_rowValue_22 dX9_rowValue_24 dX9_rowValue_27 (by decide) (by first | exact Nat.le_of_ble_eq_true rfl | simp [rf_cat, cat_i, cat_l, cat_r])
def B_xX9_rowValue_15 (N : Nat) (t0 : Nat) (h : Hp) (x1 : Int32) (y0 : Int32) : Option (Hp × String) := if y0 = 0 then (B_xX9_rowValue_18 N t0 h) else (dr h 3 (h.fr 1211 t0) (fun a2 => dr h 21 (h.fr 309 a2) (fun a3 => ck (¬ (x1 < 0 ∨ h.al a3 ≤ x1.toNatClampNeg)) (none))))
theorem mb_xX9_rowValue_15 (N : Nat) (t0 : Nat) (h : Hp) (x1 : Int32) (y0 : Int32) (hJ : B_xX9_rowValue_15 N t0 h x1 y0 = some (hz, ez)) : Mo h hz := by
  unfold B_xX9_rowValue_15 at hJ
  by_cases c1 : y0 = 0
  · have hJ := it_pos c1 hJ
    exact mb_xX9_rowValue_18 N t0 _ hJ
  · have hJ := it_neg c1 hJ
    obtain ⟨a2, ea2, -, hJ⟩ := dr_some hJ
    obtain ⟨a3, ea3, -, hJ⟩ := dr_some hJ
    obtain ⟨-, hJ⟩ := ck_some hJ
    cases hJ
set_option maxRecDepth 100000 in
set_option maxHeartbeats 4000000 in
theorem sb_xX9_rowValue_15 (C : Cx p s m args meth c cX9_rowValue 2 (some .long) RX9 D cs A h0.se) (hl0 : l.stackTraces = false) (htab : ∀ x ∈ c.exceptionTable.toList, False) (hz3 : hz.nx + 1 ≤ h0.nx + mc ∧ hz.su + 6 ≤ h0.su + ms) (N : Nat) (t0 : Nat) (h : Hp) (x1 : Int32) (y0 : Int32) (hJ : B_xX9_rowValue_15 N t0 h x1 y0 = some (hz, ez)) (hk0 : h.kd t0 = 12) {H : Heap} {locs : List Loc} {cells slots : Nat} (w : Wo D cs A s h0 h H locs cells slots) {ls : Array Slot} (hl : lv_has ls 2 [(0, .ref t0), (1, .int x1)]) : W p l e { frames := 6, cells := mc, slots := ms, locals := 90 } s m args below meth c H locs cells slots (vx_MQ below xF (XE D cs A hz ez) args s mc ms A) (F0 m 15 ls [.int y0]) := by
  obtain ⟨hx, hb, hml, hown, hts, -⟩ := id C
  have hz2 : hz.nx ≤ h0.nx + mc ∧ hz.su ≤ h0.su + ms := ⟨by omega, by omega⟩
  unfold B_xX9_rowValue_15 at hJ
  refine lv_if_ne (tgt := 28) hx hb dX9_rowValue_15 (by decide) (fun c1 => ?_) (fun c1 => ?_)
  · have hJ := it_neg c1 hJ
    refine lv_aload_n hx hb dX9_rowValue_28 rfl (lv_at hl 0 rfl) ?_
    refine fg_1211 C w hk0 tw_1_143 dX9_rowValue_29 ?_
    obtain ⟨a2, ea2, hka2, hJ⟩ := dr_some hJ
    rw [ea2]
    refine fg_309 C w hka2 tw_1_108 dX9_rowValue_32 ?_
    refine lv_iload_n hx hb dX9_rowValue_35 rfl (lv_at hl 1 rfl) ?_
    obtain ⟨a3, ea3, hka3, hJ⟩ := dr_some hJ
    rw [ea3]
    obtain ⟨hi4, hJ⟩ := ck_some hJ
    refine jr_lald C w hka3 hi4 dX9_rowValue_36 ?_
    cases hJ
  · have hJ := it_pos c1 hJ
    exact sb_xX9_rowValue_18 C hl0 htab hz3 N t0 _ hJ hk0 w (lv_sub (l' := [(0, .ref t0)]) hl [0] rfl)
def B_xX9_rowValue_0 (N : Nat) (t0 : Nat) (h : Hp) (x1 : Int32) : Option (Hp × String) := nl (h.fr 1211 t0) (B_xX9_rowValue_18 N t0 h) (fun a5 => dr h 3 (h.fr 1211 t0) (fun a6 => (J_X0_hasRow N a6 h x1).bind (fun z => B_xX9_rowValue_15 N t0 z.1 x1 z.2)))
theorem mb_xX9_rowValue_0 (N : Nat) (t0 : Nat) (h : Hp) (x1 : Int32) (hJ : B_xX9_rowValue_0 N t0 h x1 = some (hz, ez)) : Mo h hz := by
  unfold B_xX9_rowValue_0 at hJ
  cases ea5 : (h.fr 1211 t0) with
  | none =>
    have hJ := nl_none ea5 hJ
    exact mb_xX9_rowValue_18 N t0 _ hJ
  | some a5 =>
    have hJ := nl_some ea5 hJ
    obtain ⟨a6, ea6, -, hJ⟩ := dr_some hJ
    obtain ⟨⟨h7, r8⟩, e9, hJ⟩ := ob_some hJ
    exact (mo_X0_hasRow N a6 h x1 e9).tr (mb_xX9_rowValue_15 N t0 _ _ _ hJ)
set_option maxRecDepth 100000 in
set_option maxHeartbeats 4000000 in
theorem sb_xX9_rowValue_0 (C : Cx p s m args meth c cX9_rowValue 2 (some .long) RX9 D cs A h0.se) (hl0 : l.stackTraces = false) (htab : ∀ x ∈ c.exceptionTable.toList, False) (hz3 : hz.nx + 1 ≤ h0.nx + mc ∧ hz.su + 6 ≤ h0.su + ms) (N : Nat) (t0 : Nat) (h : Hp) (x1 : Int32) (hJ : B_xX9_rowValue_0 N t0 h x1 = some (hz, ez)) (hk0 : h.kd t0 = 12) {H : Heap} {locs : List Loc} {cells slots : Nat} (w : Wo D cs A s h0 h H locs cells slots) {ls : Array Slot} (hl : lv_has ls 2 [(0, .ref t0), (1, .int x1)]) : W p l e { frames := 6, cells := mc, slots := ms, locals := 90 } s m args below meth c H locs cells slots (vx_MQ below xF (XE D cs A hz ez) args s mc ms A) (F0 m 0 ls []) := by
  obtain ⟨hx, hb, hml, hown, hts, -⟩ := id C
  have hz2 : hz.nx ≤ h0.nx + mc ∧ hz.su ≤ h0.su + ms := ⟨by omega, by omega⟩
  unfold B_xX9_rowValue_0 at hJ
  refine lv_aload_n hx hb dX9_rowValue_0 rfl (lv_at hl 0 rfl) ?_
  refine fg_1211 C w hk0 tw_1_143 dX9_rowValue_1 ?_
  refine jv_ifnull (tgt := 18) hx hb dX9_rowValue_4 (by decide) (fun ea5 => ?_) (fun a5 ea5 => ?_)
  · have hJ := nl_none ea5 hJ
    exact sb_xX9_rowValue_18 C hl0 htab hz3 N t0 _ hJ hk0 w (lv_sub (l' := [(0, .ref t0)]) hl [0] rfl)
  · have hJ := nl_some ea5 hJ
    refine lv_aload_n hx hb dX9_rowValue_7 rfl (lv_at hl 0 rfl) ?_
    refine fg_1211 C w hk0 tw_1_143 dX9_rowValue_8 ?_
    refine lv_iload_n hx hb dX9_rowValue_11 rfl (lv_at hl 1 rfl) ?_
    obtain ⟨a6, ea6, hka6, hJ⟩ := dr_some hJ
    rw [ea6]
    obtain ⟨⟨h7, r8⟩, e9, hJ⟩ := ob_some hJ
    refine jc_Vi (As := [.int x1]) C w (cc_X0_hasRow N a6 h x1 hka6 e9) (mo_X0_hasRow N a6 h x1 e9) (mb_xX9_rowValue_15 N t0 _ _ _ hJ) hz2 hka6 (by decide) rfl (fs := fs3 h a6) rfl rfl ⟨tw_5_80, tw_6_34, tw_5_78, tw_5_79, tw_1_6⟩ cd_X0_hasRow ⟨by decide, by decide⟩ hl.1 (by first | exact Nat.le_of_ble_eq_true rfl | simp [rf_cat, cat_i, cat_l, cat_r]) rfl dX9_rowValue_12 (fun H locs w1 => ?_)
    have hk10 := kd_keep w (mo_X0_hasRow N a6 h x1 e9) hk0 (by decide)
    have w := w1
    exact sb_xX9_rowValue_15 C hl0 htab hz3 N t0 _ _ _ hJ hk10 w hl
def J_xX9_rowValue (N : Nat) (t0 : Nat) (h : Hp) (x1 : Int32) : Option (Hp × String) := B_xX9_rowValue_0 N t0 h x1
theorem mo_xX9_rowValue (N : Nat) (t0 : Nat) (h : Hp) (x1 : Int32) (hJ : J_xX9_rowValue N t0 h x1 = some (hz, ez)) : Mo h hz := mb_xX9_rowValue_0 N t0 h x1 hJ
theorem xc_X9_rowValue (hl0 : l.stackTraces = false) (N : Nat) (t0 : Nat) (h : Hp) (x1 : Int32) (hk0 : h.kd t0 = 12) (hJ : J_xX9_rowValue N t0 h x1 = some (hz, ez)) : Xc l yX9_rowValue cX9_rowValue 2 (some .long) 6 90 D cs h hz ez [.ref t0, .int x1] := by
  intro mc ms g1 g2
  refine je_anyX (by decide) (by simp [lg_sl, rf_cat, cat_i, cat_l, cat_r]) ?_
  intro p e s m args below meth c C htab w ls hl
  have hl : lv_has ls 2 [(0, .ref t0), (1, .int x1)] := hl
  exact sb_xX9_rowValue_0 C hl0 htab ⟨g1, g2⟩ N t0 h x1 hJ hk0 w hl
end G_xX9_rowValue
