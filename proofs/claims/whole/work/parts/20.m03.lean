section G_X10_value
variable {p : Program} {l : Launch} {e : Env} {s : State} {m : MethodId} {args : Array Value} {below : List Frame} {meth : Method} {c : Code} {D : va_G} {cs : C4} {A : Nat → Prop} {h0 hz : Hp} {mc ms : Nat} {rz : Int64}
def B_X10_value_0 (N : Nat) (t0 : Nat) (h : Hp) : Option (Hp × Int64) := some (h.sgi 1300 t0 (0 : Int32), (h.sgi 1300 t0 (0 : Int32)).gl 1343 t0)
theorem mb_X10_value_0 (N : Nat) (t0 : Nat) (h : Hp) (hJ : B_X10_value_0 N t0 h = some (hz, rz)) : Mo h hz := by
  unfold B_X10_value_0 at hJ
  obtain ⟨rfl, -⟩ := rs2 hJ
  exact ⟨fun _ _ => rfl, Nat.le_refl _, Nat.le_refl _, rfl, fun _ _ => rfl⟩
set_option maxRecDepth 100000 in
set_option maxHeartbeats 4000000 in
theorem sb_X10_value_0 (C : Cx p s m args meth c cX10_value 1 (some .long) RX10 D cs A h0.se) (hz2 : hz.nx ≤ h0.nx + mc ∧ hz.su ≤ h0.su + ms) (N : Nat) (t0 : Nat) (h : Hp) (hJ : B_X10_value_0 N t0 h = some (hz, rz)) (hk0 : h.kd t0 = 13) {H : Heap} {locs : List Loc} {cells slots : Nat} (w : Wo D cs A s h0 h H locs cells slots) {ls : Array Slot} (hl : lv_has ls 1 [(0, .ref t0)]) : W p l e { frames := 0, cells := mc, slots := ms, locals := 0 } s m args below meth c H locs cells slots (MQ below (Zl D cs A hz rz) args s mc ms A) (F0 m 0 ls []) := by
  obtain ⟨hx, hb, hml, hown, hts, -⟩ := id C
  unfold B_X10_value_0 at hJ
  refine lv_aload_n hx hb dX10_value_0 rfl (lv_at hl 0 rfl) ?_
  refine lv_iconst (v := (0 : Int32)) hx hb dX10_value_1 (by decide) ?_
  refine fp_1300 (x := (0 : Int32)) C w hk0 tw_6_163 dX10_value_2 (fun H locs w => ?_)
  refine lv_aload_n hx hb dX10_value_5 rfl (lv_at hl 0 rfl) ?_
  refine fg_1343 C w hk0 tw_6_206 dX10_value_6 ?_
  obtain ⟨rfl, rfl⟩ := rs2 hJ
  exact jr_lret C w hz2 dX10_value_9
def J_X10_value (N : Nat) (t0 : Nat) (h : Hp) : Option (Hp × Int64) := B_X10_value_0 N t0 h
theorem mo_X10_value (N : Nat) (t0 : Nat) (h : Hp) (hJ : J_X10_value N t0 h = some (hz, rz)) : Mo h hz := mb_X10_value_0 N t0 h hJ
theorem cd_X10_value : Cd yX10_value 0 := ⟨by decide +kernel, by decide +kernel, by decide +kernel⟩
theorem cc_X10_value (N : Nat) (t0 : Nat) (h : Hp) (hk0 : h.kd t0 = 13) (hJ : J_X10_value N t0 h = some (hz, rz)) : Cl l yX10_value cX10_value 1 (some .long) 0 0 D cs h hz [.ref t0] rz := by
  intro mc ms g1 g2
  refine je_any (by decide) (by simp [lg_sl, rf_cat, cat_i, cat_l, cat_r]) ?_
  intro p e s m args below meth c C hin2 w ls hl
  have hl : lv_has ls 1 [(0, .ref t0)] := hl
  exact sb_X10_value_0 C ⟨g1, g2⟩ N t0 h hJ hk0 w hl
end G_X10_value
section G_X10_key
variable {p : Program} {l : Launch} {e : Env} {s : State} {m : MethodId} {args : Array Value} {below : List Frame} {meth : Method} {c : Code} {D : va_G} {cs : C4} {A : Nat → Prop} {h0 hz : Hp} {mc ms : Nat} {rz : Int32}
def B_X10_key_0 (N : Nat) (t0 : Nat) (h : Hp) : Option (Hp × Int32) := some (h.sgi 1300 t0 (0 : Int32), (h.sgi 1300 t0 (0 : Int32)).gi 1344 t0)
theorem mb_X10_key_0 (N : Nat) (t0 : Nat) (h : Hp) (hJ : B_X10_key_0 N t0 h = some (hz, rz)) : Mo h hz := by
  unfold B_X10_key_0 at hJ
  obtain ⟨rfl, -⟩ := rs2 hJ
  exact ⟨fun _ _ => rfl, Nat.le_refl _, Nat.le_refl _, rfl, fun _ _ => rfl⟩
set_option maxRecDepth 100000 in
set_option maxHeartbeats 4000000 in
theorem sb_X10_key_0 (C : Cx p s m args meth c cX10_key 1 (some .int) RX10 D cs A h0.se) (hz2 : hz.nx ≤ h0.nx + mc ∧ hz.su ≤ h0.su + ms) (N : Nat) (t0 : Nat) (h : Hp) (hJ : B_X10_key_0 N t0 h = some (hz, rz)) (hk0 : h.kd t0 = 13) {H : Heap} {locs : List Loc} {cells slots : Nat} (w : Wo D cs A s h0 h H locs cells slots) {ls : Array Slot} (hl : lv_has ls 1 [(0, .ref t0)]) : W p l e { frames := 0, cells := mc, slots := ms, locals := 0 } s m args below meth c H locs cells slots (MQ below (Zi D cs A hz rz) args s mc ms A) (F0 m 0 ls []) := by
  obtain ⟨hx, hb, hml, hown, hts, -⟩ := id C
  unfold B_X10_key_0 at hJ
  refine lv_aload_n hx hb dX10_key_0 rfl (lv_at hl 0 rfl) ?_
  refine lv_iconst (v := (0 : Int32)) hx hb dX10_key_1 (by decide) ?_
  refine fp_1300 (x := (0 : Int32)) C w hk0 tw_6_163 dX10_key_2 (fun H locs w => ?_)
  refine lv_aload_n hx hb dX10_key_5 rfl (lv_at hl 0 rfl) ?_
  refine fg_1344 C w hk0 tw_6_207 dX10_key_6 ?_
  obtain ⟨rfl, rfl⟩ := rs2 hJ
  exact jr_iret C w hz2 dX10_key_9
def J_X10_key (N : Nat) (t0 : Nat) (h : Hp) : Option (Hp × Int32) := B_X10_key_0 N t0 h
theorem mo_X10_key (N : Nat) (t0 : Nat) (h : Hp) (hJ : J_X10_key N t0 h = some (hz, rz)) : Mo h hz := mb_X10_key_0 N t0 h hJ
theorem cd_X10_key : Cd yX10_key 0 := ⟨by decide +kernel, by decide +kernel, by decide +kernel⟩
theorem cc_X10_key (N : Nat) (t0 : Nat) (h : Hp) (hk0 : h.kd t0 = 13) (hJ : J_X10_key N t0 h = some (hz, rz)) : Ci l yX10_key cX10_key 1 (some .int) 0 0 D cs h hz [.ref t0] rz := by
  intro mc ms g1 g2
  refine je_any (by decide) (by simp [lg_sl, rf_cat, cat_i, cat_l, cat_r]) ?_
  intro p e s m args below meth c C hin2 w ls hl
  have hl : lv_has ls 1 [(0, .ref t0)] := hl
  exact sb_X10_key_0 C ⟨g1, g2⟩ N t0 h hJ hk0 w hl
end G_X10_key
section G_X10_scan
variable {p : Program} {l : Launch} {e : Env} {s : State} {m : MethodId} {args : Array Value} {below : List Frame} {meth : Method} {c : Code} {D : va_G} {cs : C4} {A : Nat → Prop} {h0 hz : Hp} {mc ms : Nat} {rz : Int32}
def B_X10_scan_38 (N : Nat) (t0 : Nat) (h : Hp) : Option (Hp × Int32) := some (h.sgi 1300 t0 (2 : Int32), (0 : Int32))
theorem mb_X10_scan_38 (N : Nat) (t0 : Nat) (h : Hp) (hJ : B_X10_scan_38 N t0 h = some (hz, rz)) : Mo h hz := by
  unfold B_X10_scan_38 at hJ
  obtain ⟨rfl, -⟩ := rs2 hJ
  exact ⟨fun _ _ => rfl, Nat.le_refl _, Nat.le_refl _, rfl, fun _ _ => rfl⟩
set_option maxRecDepth 100000 in
set_option maxHeartbeats 4000000 in
theorem sb_X10_scan_38 (C : Cx p s m args meth c cX10_scan 8 (some .int) RX10 D cs A h0.se) (hz2 : hz.nx ≤ h0.nx + mc ∧ hz.su ≤ h0.su + ms) (N : Nat) (t0 : Nat) (h : Hp) (hJ : B_X10_scan_38 N t0 h = some (hz, rz)) (hk0 : h.kd t0 = 13) {H : Heap} {locs : List Loc} {cells slots : Nat} (w : Wo D cs A s h0 h H locs cells slots) {ls : Array Slot} (hl : lv_has ls 8 [(0, .ref t0)]) : W p l e { frames := 7, cells := mc, slots := ms, locals := 210 } s m args below meth c H locs cells slots (MQ below (Zi D cs A hz rz) args s mc ms A) (F0 m 38 ls []) := by
  obtain ⟨hx, hb, hml, hown, hts, -⟩ := id C
  unfold B_X10_scan_38 at hJ
  refine lv_aload_n hx hb dX10_scan_38 rfl (lv_at hl 0 rfl) ?_
  refine lv_iconst (v := (2 : Int32)) hx hb dX10_scan_39 (by decide) ?_
  refine fp_1300 (x := (2 : Int32)) C w hk0 tw_6_163 dX10_scan_40 (fun H locs w => ?_)
  refine lv_iconst (v := (0 : Int32)) hx hb dX10_scan_43 (by decide) ?_
  obtain ⟨rfl, rfl⟩ := rs2 hJ
  exact jr_iret C w hz2 dX10_scan_44
def B_X10_scan_172 (N : Nat) (k58 : Hp → Int32 → Int32 → Int32 → Int32 → Int32 → Int32 → Int32 → Option (Hp × Int32)) (t0 : Nat) (h : Hp) (x1 : Int32) (x2 : Int32) (x3 : Int32) (x4 : Int32) (x5 : Int32) (x6 : Int32) (x7 : Int32) : Option (Hp × Int32) := k58 h x1 x2 x3 x4 x5 x6 (x7 + (1 : Int32))
theorem mb_X10_scan_172 (N : Nat) (k58 : Hp → Int32 → Int32 → Int32 → Int32 → Int32 → Int32 → Int32 → Option (Hp × Int32)) (t0 : Nat) (h : Hp) (x1 : Int32) (x2 : Int32) (x3 : Int32) (x4 : Int32) (x5 : Int32) (x6 : Int32) (x7 : Int32) (m58 : ∀ (h : Hp) (x1 : Int32) (x2 : Int32) (x3 : Int32) (x4 : Int32) (x5 : Int32) (x6 : Int32) (x7 : Int32), k58 h x1 x2 x3 x4 x5 x6 x7 = some (hz, rz) → Mo h hz) (hJ : B_X10_scan_172 N k58 t0 h x1 x2 x3 x4 x5 x6 x7 = some (hz, rz)) : Mo h hz := by
  unfold B_X10_scan_172 at hJ
  exact m58 _ _ _ _ _ _ _ _ hJ
set_option maxRecDepth 100000 in
set_option maxHeartbeats 4000000 in
theorem sb_X10_scan_172 (C : Cx p s m args meth c cX10_scan 8 (some .int) RX10 D cs A h0.se) (hz2 : hz.nx ≤ h0.nx + mc ∧ hz.su ≤ h0.su + ms) (N : Nat) (k58 : Hp → Int32 → Int32 → Int32 → Int32 → Int32 → Int32 → Int32 → Option (Hp × Int32)) (t0 : Nat) (m58 : ∀ (h : Hp) (x1 : Int32) (x2 : Int32) (x3 : Int32) (x4 : Int32) (x5 : Int32) (x6 : Int32) (x7 : Int32), k58 h x1 x2 x3 x4 x5 x6 x7 = some (hz, rz) → Mo h hz) (i58 : ∀ (h : Hp) (x1 : Int32) (x2 : Int32) (x3 : Int32) (x4 : Int32) (x5 : Int32) (x6 : Int32) (x7 : Int32) (H : Heap) (locs : List Loc) (cells slots : Nat) (ls : Array Slot), k58 h x1 x2 x3 x4 x5 x6 x7 = some (hz, rz) → h.kd t0 = 13 → Wo D cs A s h0 h H locs cells slots → lv_has ls 8 [(0, .ref t0), (1, .int x1), (2, .int x2), (3, .int x3), (4, .int x4), (5, .int x5), (6, .int x6), (7, .int x7)] → W p l e { frames := 7, cells := mc, slots := ms, locals := 210 } s m args below meth c H locs cells slots (MQ below (Zi D cs A hz rz) args s mc ms A) (F0 m 58 ls [])) (h : Hp) (x1 : Int32) (x2 : Int32) (x3 : Int32) (x4 : Int32) (x5 : Int32) (x6 : Int32) (x7 : Int32) (hJ : B_X10_scan_172 N k58 t0 h x1 x2 x3 x4 x5 x6 x7 = some (hz, rz)) (hk0 : h.kd t0 = 13) {H : Heap} {locs : List Loc} {cells slots : Nat} (w : Wo D cs A s h0 h H locs cells slots) {ls : Array Slot} (hl : lv_has ls 8 [(0, .ref t0), (1, .int x1), (2, .int x2), (3, .int x3), (4, .int x4), (5, .int x5), (6, .int x6), (7, .int x7)]) : W p l e { frames := 7, cells := mc, slots := ms, locals := 210 } s m args below meth c H locs cells slots (MQ below (Zi D cs A hz rz) args s mc ms A) (F0 m 172 ls []) := by
  obtain ⟨hx, hb, hml, hown, hts, -⟩ := id C
  unfold B_X10_scan_172 at hJ
  refine lv_iinc (v := x7 + (1 : Int32)) (lv' := [(7, .int (x7 + (1 : Int32))), (0, .ref t0), (1, .int x1), (2, .int x2), (3, .int x3), (4, .int x4), (5, .int x5), (6, .int x6)]) hx hb dX10_scan_172 hl (k := 7) rfl rfl (by decide) rfl (fun ls hl => ?_)
  refine lv_goto (tgt := 58) hx hb dX10_scan_175 (by decide) ?_
  exact i58 _ _ _ _ _ _ _ _ _ _ _ _ _ hJ hk0 w (lv_sub (l' := [(0, .ref t0), (1, .int x1), (2, .int x2), (3, .int x3), (4, .int x4), (5, .int x5), (6, .int x6), (7, .int (x7 + (1 : Int32)))]) hl [1, 2, 3, 4, 5, 6, 7, 0] rfl)
def B_X10_scan_170 (N : Nat) (k58 : Hp → Int32 → Int32 → Int32 → Int32 → Int32 → Int32 → Int32 → Option (Hp × Int32)) (t0 : Nat) (h : Hp) (x1 : Int32) (x2 : Int32) (x3 : Int32) (x4 : Int32) (x5 : Int32) (x7 : Int32) (y0 : Int32) : Option (Hp × Int32) := B_X10_scan_172 N k58 t0 h x1 x2 x3 x4 x5 y0 x7
theorem mb_X10_scan_170 (N : Nat) (k58 : Hp → Int32 → Int32 → Int32 → Int32 → Int32 → Int32 → Int32 → Option (Hp × Int32)) (t0 : Nat) (h : Hp) (x1 : Int32) (x2 : Int32) (x3 : Int32) (x4 : Int32) (x5 : Int32) (x7 : Int32) (y0 : Int32) (m58 : ∀ (h : Hp) (x1 : Int32) (x2 : Int32) (x3 : Int32) (x4 : Int32) (x5 : Int32) (x6 : Int32) (x7 : Int32), k58 h x1 x2 x3 x4 x5 x6 x7 = some (hz, rz) → Mo h hz) (hJ : B_X10_scan_170 N k58 t0 h x1 x2 x3 x4 x5 x7 y0 = some (hz, rz)) : Mo h hz := by
  unfold B_X10_scan_170 at hJ
  exact mb_X10_scan_172 N k58 t0 _ _ _ _ _ _ _ _ m58 hJ
set_option maxRecDepth 100000 in
set_option maxHeartbeats 4000000 in
theorem sb_X10_scan_170 (C : Cx p s m args meth c cX10_scan 8 (some .int) RX10 D cs A h0.se) (hz2 : hz.nx ≤ h0.nx + mc ∧ hz.su ≤ h0.su + ms) (N : Nat) (k58 : Hp → Int32 → Int32 → Int32 → Int32 → Int32 → Int32 → Int32 → Option (Hp × Int32)) (t0 : Nat) (m58 : ∀ (h : Hp) (x1 : Int32) (x2 : Int32) (x3 : Int32) (x4 : Int32) (x5 : Int32) (x6 : Int32) (x7 : Int32), k58 h x1 x2 x3 x4 x5 x6 x7 = some (hz, rz) → Mo h hz) (i58 : ∀ (h : Hp) (x1 : Int32) (x2 : Int32) (x3 : Int32) (x4 : Int32) (x5 : Int32) (x6 : Int32) (x7 : Int32) (H : Heap) (locs : List Loc) (cells slots : Nat) (ls : Array Slot), k58 h x1 x2 x3 x4 x5 x6 x7 = some (hz, rz) → h.kd t0 = 13 → Wo D cs A s h0 h H locs cells slots → lv_has ls 8 [(0, .ref t0), (1, .int x1), (2, .int x2), (3, .int x3), (4, .int x4), (5, .int x5), (6, .int x6), (7, .int x7)] → W p l e { frames := 7, cells := mc, slots := ms, locals := 210 } s m args below meth c H locs cells slots (MQ below (Zi D cs A hz rz) args s mc ms A) (F0 m 58 ls [])) (h : Hp) (x1 : Int32) (x2 : Int32) (x3 : Int32) (x4 : Int32) (x5 : Int32) (x7 : Int32) (y0 : Int32) (hJ : B_X10_scan_170 N k58 t0 h x1 x2 x3 x4 x5 x7 y0 = some (hz, rz)) (hk0 : h.kd t0 = 13) {H : Heap} {locs : List Loc} {cells slots : Nat} (w : Wo D cs A s h0 h H locs cells slots) {ls : Array Slot} (hl : lv_has ls 8 [(0, .ref t0), (1, .int x1), (2, .int x2), (3, .int x3), (4, .int x4), (5, .int x5), (7, .int x7)]) : W p l e { frames := 7, cells := mc, slots := ms, locals := 210 } s m args below meth c H locs cells slots (MQ below (Zi D cs A hz rz) args s mc ms A) (F0 m 170 ls [.int y0]) := by
  obtain ⟨hx, hb, hml, hown, hts, -⟩ := id C
  unfold B_X10_scan_170 at hJ
  refine lv_istore (i := 6) (lv' := [(6, .int y0), (0, .ref t0), (1, .int x1), (2, .int x2), (3, .int x3), (4, .int x4), (5, .int x5), (7, .int x7)]) hx hb dX10_scan_170 hl (by decide) rfl (fun ls hl => ?_)
  exact sb_X10_scan_172 C hz2 N k58 t0 m58 i58 _ _ _ _ _ _ _ _ hJ hk0 w (lv_sub (l' := [(0, .ref t0), (1, .int x1), (2, .int x2), (3, .int x3), (4, .int x4), (5, .int x5), (6, .int y0), (7, .int x7)]) hl [1, 2, 3, 4, 5, 6, 0, 7] rfl)
def B_X10_scan_108 (N : Nat) (k58 : Hp → Int32 → Int32 → Int32 → Int32 → Int32 → Int32 → Int32 → Option (Hp × Int32)) (t0 : Nat) (h : Hp) (x1 : Int32) (x2 : Int32) (x3 : Int32) (x4 : Int32) (x5 : Int32) (x6 : Int32) (x7 : Int32) (y0 : Int32) : Option (Hp × Int32) := if y0 = 0 then (B_X10_scan_172 N k58 t0 h x1 x2 x3 x4 x5 x6 x7) else (dr h 30 (h.gr 1352 t0) (fun a2 => ck (¬ (x7 < 0 ∨ h.al a2 ≤ x7.toNatClampNeg)) (dr h 30 (h.gr 1340 t0) (fun a4 => ck (¬ ((h.gi 1342 t0) + x5 < 0 ∨ h.al a4 ≤ ((h.gi 1342 t0) + x5).toNatClampNeg)) (dr (h.sbi a4 ((h.gi 1342 t0) + x5).toNatClampNeg (h.bi a2 x7.toNatClampNeg)) 31 ((h.sbi a4 ((h.gi 1342 t0) + x5).toNatClampNeg (h.bi a2 x7.toNatClampNeg)).gr 1341 t0) (fun a6 => ck (¬ (((h.sbi a4 ((h.gi 1342 t0) + x5).toNatClampNeg (h.bi a2 x7.toNatClampNeg)).gi 1342 t0) + x5 < 0 ∨ (h.sbi a4 ((h.gi 1342 t0) + x5).toNatClampNeg (h.bi a2 x7.toNatClampNeg)).al a6 ≤ (((h.sbi a4 ((h.gi 1342 t0) + x5).toNatClampNeg (h.bi a2 x7.toNatClampNeg)).gi 1342 t0) + x5).toNatClampNeg)) (if (x5 + (1 : Int32)) = x4 then (dr ((h.sbi a4 ((h.gi 1342 t0) + x5).toNatClampNeg (h.bi a2 x7.toNatClampNeg)).sbw a6 (((h.sbi a4 ((h.gi 1342 t0) + x5).toNatClampNeg (h.bi a2 x7.toNatClampNeg)).gi 1342 t0) + x5).toNatClampNeg ((h.sbi a4 ((h.gi 1342 t0) + x5).toNatClampNeg (h.bi a2 x7.toNatClampNeg)).gl 1351 t0)) 30 (((h.sbi a4 ((h.gi 1342 t0) + x5).toNatClampNeg (h.bi a2 x7.toNatClampNeg)).sbw a6 (((h.sbi a4 ((h.gi 1342 t0) + x5).toNatClampNeg (h.bi a2 x7.toNatClampNeg)).gi 1342 t0) + x5).toNatClampNeg ((h.sbi a4 ((h.gi 1342 t0) + x5).toNatClampNeg (h.bi a2 x7.toNatClampNeg)).gl 1351 t0)).gr 1352 t0) (fun a9 => ck (¬ (x7 < 0 ∨ ((h.sbi a4 ((h.gi 1342 t0) + x5).toNatClampNeg (h.bi a2 x7.toNatClampNeg)).sbw a6 (((h.sbi a4 ((h.gi 1342 t0) + x5).toNatClampNeg (h.bi a2 x7.toNatClampNeg)).gi 1342 t0) + x5).toNatClampNeg ((h.sbi a4 ((h.gi 1342 t0) + x5).toNatClampNeg (h.bi a2 x7.toNatClampNeg)).gl 1351 t0)).al a9 ≤ x7.toNatClampNeg)) (B_X10_scan_170 N k58 t0 ((h.sbi a4 ((h.gi 1342 t0) + x5).toNatClampNeg (h.bi a2 x7.toNatClampNeg)).sbw a6 (((h.sbi a4 ((h.gi 1342 t0) + x5).toNatClampNeg (h.bi a2 x7.toNatClampNeg)).gi 1342 t0) + x5).toNatClampNeg ((h.sbi a4 ((h.gi 1342 t0) + x5).toNatClampNeg (h.bi a2 x7.toNatClampNeg)).gl 1351 t0)) x1 x2 x3 x4 (x5 + (1 : Int32)) x7 (((h.sbi a4 ((h.gi 1342 t0) + x5).toNatClampNeg (h.bi a2 x7.toNatClampNeg)).sbw a6 (((h.sbi a4 ((h.gi 1342 t0) + x5).toNatClampNeg (h.bi a2 x7.toNatClampNeg)).gi 1342 t0) + x5).toNatClampNeg ((h.sbi a4 ((h.gi 1342 t0) + x5).toNatClampNeg (h.bi a2 x7.toNatClampNeg)).gl 1351 t0)).bi a9 x7.toNatClampNeg)))) else (B_X10_scan_170 N k58 t0 ((h.sbi a4 ((h.gi 1342 t0) + x5).toNatClampNeg (h.bi a2 x7.toNatClampNeg)).sbw a6 (((h.sbi a4 ((h.gi 1342 t0) + x5).toNatClampNeg (h.bi a2 x7.toNatClampNeg)).gi 1342 t0) + x5).toNatClampNeg ((h.sbi a4 ((h.gi 1342 t0) + x5).toNatClampNeg (h.bi a2 x7.toNatClampNeg)).gl 1351 t0)) x1 x2 x3 x4 (x5 + (1 : Int32)) x7 x3))))))))
theorem mb_X10_scan_108 (N : Nat) (k58 : Hp → Int32 → Int32 → Int32 → Int32 → Int32 → Int32 → Int32 → Option (Hp × Int32)) (t0 : Nat) (h : Hp) (x1 : Int32) (x2 : Int32) (x3 : Int32) (x4 : Int32) (x5 : Int32) (x6 : Int32) (x7 : Int32) (y0 : Int32) (m58 : ∀ (h : Hp) (x1 : Int32) (x2 : Int32) (x3 : Int32) (x4 : Int32) (x5 : Int32) (x6 : Int32) (x7 : Int32), k58 h x1 x2 x3 x4 x5 x6 x7 = some (hz, rz) → Mo h hz) (hJ : B_X10_scan_108 N k58 t0 h x1 x2 x3 x4 x5 x6 x7 y0 = some (hz, rz)) : Mo h hz := by
  unfold B_X10_scan_108 at hJ
  by_cases c1 : y0 = 0
  · have hJ := it_pos c1 hJ
    exact mb_X10_scan_172 N k58 t0 _ _ _ _ _ _ _ _ m58 hJ
  · have hJ := it_neg c1 hJ
    obtain ⟨a2, ea2, -, hJ⟩ := dr_some hJ
    obtain ⟨-, hJ⟩ := ck_some hJ
    obtain ⟨a4, ea4, -, hJ⟩ := dr_some hJ
    obtain ⟨-, hJ⟩ := ck_some hJ
    obtain ⟨a6, ea6, -, hJ⟩ := dr_some hJ
    obtain ⟨-, hJ⟩ := ck_some hJ
    by_cases c8 : (x5 + (1 : Int32)) = x4
    · have hJ := it_pos c8 hJ
      obtain ⟨a9, ea9, -, hJ⟩ := dr_some hJ
      obtain ⟨-, hJ⟩ := ck_some hJ
      exact (Mo.tr (show Mo h ((h.sbi a4 ((h.gi 1342 t0) + x5).toNatClampNeg (h.bi a2 x7.toNatClampNeg)).sbw a6 (((h.sbi a4 ((h.gi 1342 t0) + x5).toNatClampNeg (h.bi a2 x7.toNatClampNeg)).gi 1342 t0) + x5).toNatClampNeg ((h.sbi a4 ((h.gi 1342 t0) + x5).toNatClampNeg (h.bi a2 x7.toNatClampNeg)).gl 1351 t0)) from ⟨fun _ _ => rfl, Nat.le_refl _, Nat.le_refl _, rfl, fun _ _ => rfl⟩) (mb_X10_scan_170 N k58 t0 _ _ _ _ _ _ _ _ m58 hJ))
    · have hJ := it_neg c8 hJ
      exact (Mo.tr (show Mo h ((h.sbi a4 ((h.gi 1342 t0) + x5).toNatClampNeg (h.bi a2 x7.toNatClampNeg)).sbw a6 (((h.sbi a4 ((h.gi 1342 t0) + x5).toNatClampNeg (h.bi a2 x7.toNatClampNeg)).gi 1342 t0) + x5).toNatClampNeg ((h.sbi a4 ((h.gi 1342 t0) + x5).toNatClampNeg (h.bi a2 x7.toNatClampNeg)).gl 1351 t0)) from ⟨fun _ _ => rfl, Nat.le_refl _, Nat.le_refl _, rfl, fun _ _ => rfl⟩) (mb_X10_scan_170 N k58 t0 _ _ _ _ _ _ _ _ m58 hJ))
set_option maxRecDepth 100000 in
set_option maxHeartbeats 4000000 in
theorem sb_X10_scan_108 (C : Cx p s m args meth c cX10_scan 8 (some .int) RX10 D cs A h0.se) (hz2 : hz.nx ≤ h0.nx + mc ∧ hz.su ≤ h0.su + ms) (N : Nat) (k58 : Hp → Int32 → Int32 → Int32 → Int32 → Int32 → Int32 → Int32 → Option (Hp × Int32)) (t0 : Nat) (m58 : ∀ (h : Hp) (x1 : Int32) (x2 : Int32) (x3 : Int32) (x4 : Int32) (x5 : Int32) (x6 : Int32) (x7 : Int32), k58 h x1 x2 x3 x4 x5 x6 x7 = some (hz, rz) → Mo h hz) (i58 : ∀ (h : Hp) (x1 : Int32) (x2 : Int32) (x3 : Int32) (x4 : Int32) (x5 : Int32) (x6 : Int32) (x7 : Int32) (H : Heap) (locs : List Loc) (cells slots : Nat) (ls : Array Slot), k58 h x1 x2 x3 x4 x5 x6 x7 = some (hz, rz) → h.kd t0 = 13 → Wo D cs A s h0 h H locs cells slots → lv_has ls 8 [(0, .ref t0), (1, .int x1), (2, .int x2), (3, .int x3), (4, .int x4), (5, .int x5), (6, .int x6), (7, .int x7)] → W p l e { frames := 7, cells := mc, slots := ms, locals := 210 } s m args below meth c H locs cells slots (MQ below (Zi D cs A hz rz) args s mc ms A) (F0 m 58 ls [])) (h : Hp) (x1 : Int32) (x2 : Int32) (x3 : Int32) (x4 : Int32) (x5 : Int32) (x6 : Int32) (x7 : Int32) (y0 : Int32) (hJ : B_X10_scan_108 N k58 t0 h x1 x2 x3 x4 x5 x6 x7 y0 = some (hz, rz)) (hk0 : h.kd t0 = 13) {H : Heap} {locs : List Loc} {cells slots : Nat} (w : Wo D cs A s h0 h H locs cells slots) {ls : Array Slot} (hl : lv_has ls 8 [(0, .ref t0), (1, .int x1), (2, .int x2), (3, .int x3), (4, .int x4), (5, .int x5), (6, .int x6), (7, .int x7)]) : W p l e { frames := 7, cells := mc, slots := ms, locals := 210 } s m args below meth c H locs cells slots (MQ below (Zi D cs A hz rz) args s mc ms A) (F0 m 108 ls [.int y0]) := by
  obtain ⟨hx, hb, hml, hown, hts, -⟩ := id C
  unfold B_X10_scan_108 at hJ
  refine lv_if_ne (tgt := 114) hx hb dX10_scan_108 (by decide) (fun c1 => ?_) (fun c1 => ?_)
  · have hJ := it_neg c1 hJ
    refine lv_aload_n hx hb dX10_scan_114 rfl (lv_at hl 0 rfl) ?_
    refine fg_1340 C w hk0 tw_6_203 dX10_scan_115 ?_
    refine lv_aload_n hx hb dX10_scan_118 rfl (lv_at hl 0 rfl) ?_
    refine fg_1342 C w hk0 tw_6_205 dX10_scan_119 ?_
    refine lv_iload hx hb dX10_scan_122 (lv_at hl 5 rfl) ?_
    refine lv_iadd hx hb dX10_scan_124 ?_
    refine lv_aload_n hx hb dX10_scan_125 rfl (lv_at hl 0 rfl) ?_
    refine fg_1352 C w hk0 tw_6_215 dX10_scan_126 ?_
    refine lv_iload hx hb dX10_scan_129 (lv_at hl 7 rfl) ?_
    obtain ⟨a2, ea2, hka2, hJ⟩ := dr_some hJ
    rw [ea2]
    obtain ⟨hi3, hJ⟩ := ck_some hJ
    refine jr_ialdM C w hka2 hi3 dX10_scan_131 ?_
    obtain ⟨a4, ea4, hka4, hJ⟩ := dr_some hJ
    rw [ea4]
    obtain ⟨hi5, hJ⟩ := ck_some hJ
    refine jr_iastM C w hka4 hi5 dX10_scan_132 (fun H locs w => ?_)
    refine lv_aload_n hx hb dX10_scan_133 rfl (lv_at hl 0 rfl) ?_
    refine fg_1341 C w hk0 tw_6_204 dX10_scan_134 ?_
    refine lv_aload_n hx hb dX10_scan_137 rfl (lv_at hl 0 rfl) ?_
    refine fg_1342 C w hk0 tw_6_205 dX10_scan_138 ?_
    refine lv_iload hx hb dX10_scan_141 (lv_at hl 5 rfl) ?_
    refine lv_iadd hx hb dX10_scan_143 ?_
    refine lv_aload_n hx hb dX10_scan_144 rfl (lv_at hl 0 rfl) ?_
    refine fg_1351 C w hk0 tw_6_214 dX10_scan_145 ?_
    obtain ⟨a6, ea6, hka6, hJ⟩ := dr_some hJ
    rw [ea6]
    obtain ⟨hi7, hJ⟩ := ck_some hJ
    refine jr_lastM C w hka6 hi7 dX10_scan_148 (fun H locs w => ?_)
    refine lv_iinc (v := x5 + (1 : Int32)) (lv' := [(5, .int (x5 + (1 : Int32))), (0, .ref t0), (1, .int x1), (2, .int x2), (3, .int x3), (4, .int x4), (6, .int x6), (7, .int x7)]) hx hb dX10_scan_149 hl (k := 5) rfl rfl (by decide) rfl (fun ls hl => ?_)
    refine lv_iload hx hb dX10_scan_152 (lv_at hl 0 rfl) ?_
    refine lv_iload hx hb dX10_scan_154 (lv_at hl 5 rfl) ?_
    refine lv_icmp_ne (tgt := 169) hx hb dX10_scan_156 (by decide) (fun c8 => ?_) (fun c8 => ?_)
    · have hJ := it_neg c8 hJ
      refine lv_iload_n hx hb dX10_scan_169 rfl (lv_at hl 4 rfl) ?_
      exact sb_X10_scan_170 C hz2 N k58 t0 m58 i58 _ _ _ _ _ _ _ _ hJ hk0 w (lv_sub (l' := [(0, .ref t0), (1, .int x1), (2, .int x2), (3, .int x3), (4, .int x4), (5, .int (x5 + (1 : Int32))), (7, .int x7)]) hl [1, 2, 3, 4, 5, 0, 7] rfl)
    · have hJ := it_pos c8 hJ
      refine lv_aload_n hx hb dX10_scan_159 rfl (lv_at hl 1 rfl) ?_
      refine fg_1352 C w hk0 tw_6_215 dX10_scan_160 ?_
      refine lv_iload hx hb dX10_scan_163 (lv_at hl 7 rfl) ?_
      obtain ⟨a9, ea9, hka9, hJ⟩ := dr_some hJ
      rw [ea9]
      obtain ⟨hi10, hJ⟩ := ck_some hJ
      refine jr_ialdM C w hka9 hi10 dX10_scan_165 ?_
      refine lv_goto (tgt := 170) hx hb dX10_scan_166 (by decide) ?_
      exact sb_X10_scan_170 C hz2 N k58 t0 m58 i58 _ _ _ _ _ _ _ _ hJ hk0 w (lv_sub (l' := [(0, .ref t0), (1, .int x1), (2, .int x2), (3, .int x3), (4, .int x4), (5, .int (x5 + (1 : Int32))), (7, .int x7)]) hl [1, 2, 3, 4, 5, 0, 7] rfl)
  · have hJ := it_pos c1 hJ
    refine lv_goto (tgt := 172) hx hb dX10_scan_111 (by decide) ?_
    exact sb_X10_scan_172 C hz2 N k58 t0 m58 i58 _ _ _ _ _ _ _ _ hJ hk0 w hl
def B_X10_scan_237 (N : Nat) (t0 : Nat) (h : Hp) (x5 : Int32) : Option (Hp × Int32) := some (((h.sgi 1345 t0 (h.gi 1342 t0)).sgi 1346 t0 x5).sgi 1342 t0 ((((h.sgi 1345 t0 (h.gi 1342 t0)).sgi 1346 t0 x5).gi 1342 t0) + x5), x5)
theorem mb_X10_scan_237 (N : Nat) (t0 : Nat) (h : Hp) (x5 : Int32) (hJ : B_X10_scan_237 N t0 h x5 = some (hz, rz)) : Mo h hz := by
  unfold B_X10_scan_237 at hJ
  obtain ⟨rfl, -⟩ := rs2 hJ
  exact ⟨fun _ _ => rfl, Nat.le_refl _, Nat.le_refl _, rfl, fun _ _ => rfl⟩
set_option maxRecDepth 100000 in
set_option maxHeartbeats 4000000 in
theorem sb_X10_scan_237 (C : Cx p s m args meth c cX10_scan 8 (some .int) RX10 D cs A h0.se) (hz2 : hz.nx ≤ h0.nx + mc ∧ hz.su ≤ h0.su + ms) (N : Nat) (t0 : Nat) (h : Hp) (x5 : Int32) (hJ : B_X10_scan_237 N t0 h x5 = some (hz, rz)) (hk0 : h.kd t0 = 13) {H : Heap} {locs : List Loc} {cells slots : Nat} (w : Wo D cs A s h0 h H locs cells slots) {ls : Array Slot} (hl : lv_has ls 8 [(0, .ref t0), (5, .int x5)]) : W p l e { frames := 7, cells := mc, slots := ms, locals := 210 } s m args below meth c H locs cells slots (MQ below (Zi D cs A hz rz) args s mc ms A) (F0 m 237 ls []) := by
  obtain ⟨hx, hb, hml, hown, hts, -⟩ := id C
  unfold B_X10_scan_237 at hJ
  refine lv_aload_n hx hb dX10_scan_237 rfl (lv_at hl 0 rfl) ?_
  refine lv_aload_n hx hb dX10_scan_238 rfl (lv_at hl 0 rfl) ?_
  refine fg_1342 C w hk0 tw_6_205 dX10_scan_239 ?_
  refine fp_1345 (x := h.gi 1342 t0) C w hk0 tw_6_208 dX10_scan_242 (fun H locs w => ?_)
  refine lv_aload_n hx hb dX10_scan_245 rfl (lv_at hl 0 rfl) ?_
  refine lv_iload hx hb dX10_scan_246 (lv_at hl 1 rfl) ?_
  refine fp_1346 (x := x5) C w hk0 tw_6_209 dX10_scan_248 (fun H locs w => ?_)
  refine lv_aload_n hx hb dX10_scan_251 rfl (lv_at hl 0 rfl) ?_
  refine lv_dup hx hb dX10_scan_252 rfl ?_
  refine fg_1342 C w hk0 tw_6_205 dX10_scan_253 ?_
  refine lv_iload hx hb dX10_scan_256 (lv_at hl 1 rfl) ?_
  refine lv_iadd hx hb dX10_scan_258 ?_
  refine fp_1342 (x := (((h.sgi 1345 t0 (h.gi 1342 t0)).sgi 1346 t0 x5).gi 1342 t0) + x5) C w hk0 tw_6_205 dX10_scan_259 (fun H locs w => ?_)
  refine lv_iload hx hb dX10_scan_262 (lv_at hl 1 rfl) ?_
  obtain ⟨rfl, rfl⟩ := rs2 hJ
  exact jr_iret C w hz2 dX10_scan_264
def B_X10_scan_198 (N : Nat) (t0 : Nat) (h : Hp) (x3 : Int32) (x4 : Int32) (x5 : Int32) (y0 : Int32) : Option (Hp × Int32) := dr h 30 (h.gr 1332 t0) (fun a11 => ck (¬ (y0 < 0 ∨ h.al a11 ≤ y0.toNatClampNeg)) (dr (h.sbi a11 y0.toNatClampNeg x3) 30 ((h.sbi a11 y0.toNatClampNeg x3).gr 1333 t0) (fun a13 => ck (¬ (y0 < 0 ∨ (h.sbi a11 y0.toNatClampNeg x3).al a13 ≤ y0.toNatClampNeg)) (dr ((h.sbi a11 y0.toNatClampNeg x3).sbi a13 y0.toNatClampNeg x4) 30 (((h.sbi a11 y0.toNatClampNeg x3).sbi a13 y0.toNatClampNeg x4).gr 1335 t0) (fun a15 => ck (¬ (y0 < 0 ∨ ((h.sbi a11 y0.toNatClampNeg x3).sbi a13 y0.toNatClampNeg x4).al a15 ≤ y0.toNatClampNeg)) (dr (((h.sbi a11 y0.toNatClampNeg x3).sbi a13 y0.toNatClampNeg x4).sbi a15 y0.toNatClampNeg x5) 30 ((((h.sbi a11 y0.toNatClampNeg x3).sbi a13 y0.toNatClampNeg x4).sbi a15 y0.toNatClampNeg x5).gr 1338 t0) (fun a17 => ck (¬ (y0 < 0 ∨ (((h.sbi a11 y0.toNatClampNeg x3).sbi a13 y0.toNatClampNeg x4).sbi a15 y0.toNatClampNeg x5).al a17 ≤ y0.toNatClampNeg)) (B_X10_scan_237 N t0 ((((h.sbi a11 y0.toNatClampNeg x3).sbi a13 y0.toNatClampNeg x4).sbi a15 y0.toNatClampNeg x5).sbi a17 y0.toNatClampNeg ((((h.sbi a11 y0.toNatClampNeg x3).sbi a13 y0.toNatClampNeg x4).sbi a15 y0.toNatClampNeg x5).gi 1342 t0)) x5))))))))
theorem mb_X10_scan_198 (N : Nat) (t0 : Nat) (h : Hp) (x3 : Int32) (x4 : Int32) (x5 : Int32) (y0 : Int32) (hJ : B_X10_scan_198 N t0 h x3 x4 x5 y0 = some (hz, rz)) : Mo h hz := by
  unfold B_X10_scan_198 at hJ
  obtain ⟨a11, ea11, -, hJ⟩ := dr_some hJ
  obtain ⟨-, hJ⟩ := ck_some hJ
  obtain ⟨a13, ea13, -, hJ⟩ := dr_some hJ
  obtain ⟨-, hJ⟩ := ck_some hJ
  obtain ⟨a15, ea15, -, hJ⟩ := dr_some hJ
  obtain ⟨-, hJ⟩ := ck_some hJ
  obtain ⟨a17, ea17, -, hJ⟩ := dr_some hJ
  obtain ⟨-, hJ⟩ := ck_some hJ
  exact (Mo.tr (show Mo h ((((h.sbi a11 y0.toNatClampNeg x3).sbi a13 y0.toNatClampNeg x4).sbi a15 y0.toNatClampNeg x5).sbi a17 y0.toNatClampNeg ((((h.sbi a11 y0.toNatClampNeg x3).sbi a13 y0.toNatClampNeg x4).sbi a15 y0.toNatClampNeg x5).gi 1342 t0)) from ⟨fun _ _ => rfl, Nat.le_refl _, Nat.le_refl _, rfl, fun _ _ => rfl⟩) (mb_X10_scan_237 N t0 _ _ hJ))
set_option maxRecDepth 100000 in
set_option maxHeartbeats 4000000 in
theorem sb_X10_scan_198 (C : Cx p s m args meth c cX10_scan 8 (some .int) RX10 D cs A h0.se) (hz2 : hz.nx ≤ h0.nx + mc ∧ hz.su ≤ h0.su + ms) (N : Nat) (t0 : Nat) (h : Hp) (x3 : Int32) (x4 : Int32) (x5 : Int32) (y0 : Int32) (hJ : B_X10_scan_198 N t0 h x3 x4 x5 y0 = some (hz, rz)) (hk0 : h.kd t0 = 13) {H : Heap} {locs : List Loc} {cells slots : Nat} (w : Wo D cs A s h0 h H locs cells slots) {ls : Array Slot} (hl : lv_has ls 8 [(0, .ref t0), (3, .int x3), (4, .int x4), (5, .int x5)]) : W p l e { frames := 7, cells := mc, slots := ms, locals := 210 } s m args below meth c H locs cells slots (MQ below (Zi D cs A hz rz) args s mc ms A) (F0 m 198 ls [.int y0]) := by
  obtain ⟨hx, hb, hml, hown, hts, -⟩ := id C
  unfold B_X10_scan_198 at hJ
  refine lv_istore (i := 7) (lv' := [(7, .int y0), (0, .ref t0), (3, .int x3), (4, .int x4), (5, .int x5)]) hx hb dX10_scan_198 hl (by decide) rfl (fun ls hl => ?_)
  refine lv_aload_n hx hb dX10_scan_200 rfl (lv_at hl 1 rfl) ?_
  refine fg_1332 C w hk0 tw_6_195 dX10_scan_201 ?_
  refine lv_iload hx hb dX10_scan_204 (lv_at hl 0 rfl) ?_
  refine lv_iload_n hx hb dX10_scan_206 rfl (lv_at hl 2 rfl) ?_
  obtain ⟨a11, ea11, hka11, hJ⟩ := dr_some hJ
  rw [ea11]
  obtain ⟨hi12, hJ⟩ := ck_some hJ
  refine jr_iastM C w hka11 hi12 dX10_scan_207 (fun H locs w => ?_)
  refine lv_aload_n hx hb dX10_scan_208 rfl (lv_at hl 1 rfl) ?_
  refine fg_1333 C w hk0 tw_6_196 dX10_scan_209 ?_
  refine lv_iload hx hb dX10_scan_212 (lv_at hl 0 rfl) ?_
  refine lv_iload hx hb dX10_scan_214 (lv_at hl 3 rfl) ?_
  obtain ⟨a13, ea13, hka13, hJ⟩ := dr_some hJ
  rw [ea13]
  obtain ⟨hi14, hJ⟩ := ck_some hJ
  refine jr_iastM C w hka13 hi14 dX10_scan_216 (fun H locs w => ?_)
  refine lv_aload_n hx hb dX10_scan_217 rfl (lv_at hl 1 rfl) ?_
  refine fg_1335 C w hk0 tw_6_198 dX10_scan_218 ?_
  refine lv_iload hx hb dX10_scan_221 (lv_at hl 0 rfl) ?_
  refine lv_iload hx hb dX10_scan_223 (lv_at hl 4 rfl) ?_
  obtain ⟨a15, ea15, hka15, hJ⟩ := dr_some hJ
  rw [ea15]
  obtain ⟨hi16, hJ⟩ := ck_some hJ
  refine jr_iastM C w hka15 hi16 dX10_scan_225 (fun H locs w => ?_)
  refine lv_aload_n hx hb dX10_scan_226 rfl (lv_at hl 1 rfl) ?_
  refine fg_1338 C w hk0 tw_6_201 dX10_scan_227 ?_
  refine lv_iload hx hb dX10_scan_230 (lv_at hl 0 rfl) ?_
  refine lv_aload_n hx hb dX10_scan_232 rfl (lv_at hl 1 rfl) ?_
  refine fg_1342 C w hk0 tw_6_205 dX10_scan_233 ?_
  obtain ⟨a17, ea17, hka17, hJ⟩ := dr_some hJ
  rw [ea17]
  obtain ⟨hi18, hJ⟩ := ck_some hJ
  refine jr_iastM C w hka17 hi18 dX10_scan_236 (fun H locs w => ?_)
  exact sb_X10_scan_237 C hz2 N t0 _ _ hJ hk0 w (lv_sub (l' := [(0, .ref t0), (5, .int x5)]) hl [1, 4] rfl)
def B_X10_scan_186 (N : Nat) (t0 : Nat) (h : Hp) (x1 : Int32) (x2 : Int32) (x3 : Int32) (x4 : Int32) (x5 : Int32) (y0 : Int32) : Option (Hp × Int32) := if y0 = 0 then (some (h, (-1 : Int32))) else ((J_X10_log N t0 h (4 : Int32) x1 x2).bind (fun z => B_X10_scan_198 N t0 z.1 x3 x4 x5 z.2))
theorem mb_X10_scan_186 (N : Nat) (t0 : Nat) (h : Hp) (x1 : Int32) (x2 : Int32) (x3 : Int32) (x4 : Int32) (x5 : Int32) (y0 : Int32) (hJ : B_X10_scan_186 N t0 h x1 x2 x3 x4 x5 y0 = some (hz, rz)) : Mo h hz := by
  unfold B_X10_scan_186 at hJ
  by_cases c19 : y0 = 0
  · have hJ := it_pos c19 hJ
    obtain ⟨rfl, -⟩ := rs2 hJ
    exact ⟨fun _ _ => rfl, Nat.le_refl _, Nat.le_refl _, rfl, fun _ _ => rfl⟩
  · have hJ := it_neg c19 hJ
    obtain ⟨⟨h20, r21⟩, e22, hJ⟩ := ob_some hJ
    exact (mo_X10_log N t0 h (4 : Int32) x1 x2 e22).tr (mb_X10_scan_198 N t0 _ _ _ _ _ hJ)
set_option maxRecDepth 100000 in
set_option maxHeartbeats 4000000 in
theorem sb_X10_scan_186 (C : Cx p s m args meth c cX10_scan 8 (some .int) RX10 D cs A h0.se) (hz2 : hz.nx ≤ h0.nx + mc ∧ hz.su ≤ h0.su + ms) (N : Nat) (t0 : Nat) (h : Hp) (x1 : Int32) (x2 : Int32) (x3 : Int32) (x4 : Int32) (x5 : Int32) (y0 : Int32) (hJ : B_X10_scan_186 N t0 h x1 x2 x3 x4 x5 y0 = some (hz, rz)) (hk0 : h.kd t0 = 13) {H : Heap} {locs : List Loc} {cells slots : Nat} (w : Wo D cs A s h0 h H locs cells slots) {ls : Array Slot} (hl : lv_has ls 8 [(0, .ref t0), (1, .int x1), (2, .int x2), (3, .int x3), (4, .int x4), (5, .int x5)]) : W p l e { frames := 7, cells := mc, slots := ms, locals := 210 } s m args below meth c H locs cells slots (MQ below (Zi D cs A hz rz) args s mc ms A) (F0 m 186 ls [.int y0]) := by
  obtain ⟨hx, hb, hml, hown, hts, -⟩ := id C
  unfold B_X10_scan_186 at hJ
  refine lv_if_ne (tgt := 191) hx hb dX10_scan_186 (by decide) (fun c19 => ?_) (fun c19 => ?_)
  · have hJ := it_neg c19 hJ
    refine lv_aload_n hx hb dX10_scan_191 rfl (lv_at hl 0 rfl) ?_
    refine lv_iconst (v := (4 : Int32)) hx hb dX10_scan_192 (by decide) ?_
    refine lv_iload_n hx hb dX10_scan_193 rfl (lv_at hl 1 rfl) ?_
    refine lv_iload_n hx hb dX10_scan_194 rfl (lv_at hl 2 rfl) ?_
    obtain ⟨⟨h20, r21⟩, e22, hJ⟩ := ob_some hJ
    refine jc_Vi (As := [.int (4 : Int32), .int x1, .int x2]) C w (cc_X10_log N t0 h (4 : Int32) x1 x2 hk0 e22) (mo_X10_log N t0 h (4 : Int32) x1 x2 e22) (mb_X10_scan_198 N t0 _ _ _ _ _ hJ) hz2 hk0 (by decide) rfl (fs := fs13 h t0) rfl rfl ⟨tw_7_222, tw_7_219, tw_7_221, ts_49, tw_1_7⟩ cd_X10_log ⟨by decide, by decide⟩ hl.1 (by first | exact Nat.le_of_ble_eq_true rfl | simp [rf_cat, cat_i, cat_l, cat_r]) rfl dX10_scan_195 (fun H locs w1 => ?_)
    have hk23 := kd_keep w (mo_X10_log N t0 h (4 : Int32) x1 x2 e22) hk0 (by decide)
    have w := w1
    exact sb_X10_scan_198 C hz2 N t0 _ _ _ _ _ hJ hk23 w (lv_sub (l' := [(0, .ref t0), (3, .int x3), (4, .int x4), (5, .int x5)]) hl [0, 3, 4, 5] rfl)
  · have hJ := it_pos c19 hJ
    refine lv_iconst (v := (-1 : Int32)) hx hb dX10_scan_189 (by decide) ?_
    obtain ⟨rfl, rfl⟩ := rs2 hJ
    exact jr_iret C w hz2 dX10_scan_190
def B_X10_scan_178 (N : Nat) (t0 : Nat) (h : Hp) (x1 : Int32) (x2 : Int32) (x3 : Int32) (x4 : Int32) (x5 : Int32) (x6 : Int32) : Option (Hp × Int32) := (J_X10_looks N t0 h x1 x2 x6).bind (fun z => B_X10_scan_186 N t0 z.1 x1 x2 x3 x4 x5 z.2)
theorem mb_X10_scan_178 (N : Nat) (t0 : Nat) (h : Hp) (x1 : Int32) (x2 : Int32) (x3 : Int32) (x4 : Int32) (x5 : Int32) (x6 : Int32) (hJ : B_X10_scan_178 N t0 h x1 x2 x3 x4 x5 x6 = some (hz, rz)) : Mo h hz := by
  unfold B_X10_scan_178 at hJ
  obtain ⟨⟨h24, r25⟩, e26, hJ⟩ := ob_some hJ
  exact (mo_X10_looks N t0 h x1 x2 x6 e26).tr (mb_X10_scan_186 N t0 _ _ _ _ _ _ _ hJ)
set_option maxRecDepth 100000 in
set_option maxHeartbeats 4000000 in
theorem sb_X10_scan_178 (C : Cx p s m args meth c cX10_scan 8 (some .int) RX10 D cs A h0.se) (hz2 : hz.nx ≤ h0.nx + mc ∧ hz.su ≤ h0.su + ms) (N : Nat) (t0 : Nat) (h : Hp) (x1 : Int32) (x2 : Int32) (x3 : Int32) (x4 : Int32) (x5 : Int32) (x6 : Int32) (hJ : B_X10_scan_178 N t0 h x1 x2 x3 x4 x5 x6 = some (hz, rz)) (hk0 : h.kd t0 = 13) {H : Heap} {locs : List Loc} {cells slots : Nat} (w : Wo D cs A s h0 h H locs cells slots) {ls : Array Slot} (hl : lv_has ls 8 [(0, .ref t0), (1, .int x1), (2, .int x2), (3, .int x3), (4, .int x4), (5, .int x5), (6, .int x6)]) : W p l e { frames := 7, cells := mc, slots := ms, locals := 210 } s m args below meth c H locs cells slots (MQ below (Zi D cs A hz rz) args s mc ms A) (F0 m 178 ls []) := by
  obtain ⟨hx, hb, hml, hown, hts, -⟩ := id C
  unfold B_X10_scan_178 at hJ
  refine lv_aload_n hx hb dX10_scan_178 rfl (lv_at hl 0 rfl) ?_
  refine lv_iload_n hx hb dX10_scan_179 rfl (lv_at hl 1 rfl) ?_
  refine lv_iload_n hx hb dX10_scan_180 rfl (lv_at hl 2 rfl) ?_
  refine lv_iload hx hb dX10_scan_181 (lv_at hl 6 rfl) ?_
  obtain ⟨⟨h24, r25⟩, e26, hJ⟩ := ob_some hJ
  refine jc_Vi (As := [.int x1, .int x2, .int x6]) C w (cc_X10_looks N t0 h x1 x2 x6 hk0 e26) (mo_X10_looks N t0 h x1 x2 x6 e26) (mb_X10_scan_186 N t0 _ _ _ _ _ _ _ hJ) hz2 hk0 (by decide) rfl (fs := fs13 h t0) rfl rfl ⟨tw_7_218, tw_7_215, tw_7_217, ts_48, tw_1_7⟩ cd_X10_looks ⟨by decide, by decide⟩ hl.1 (by first | exact Nat.le_of_ble_eq_true rfl | simp [rf_cat, cat_i, cat_l, cat_r]) rfl dX10_scan_183 (fun H locs w1 => ?_)
  have hk27 := kd_keep w (mo_X10_looks N t0 h x1 x2 x6 e26) hk0 (by decide)
  have w := w1
  exact sb_X10_scan_186 C hz2 N t0 _ _ _ _ _ _ _ hJ hk27 w (lv_sub (l' := [(0, .ref t0), (1, .int x1), (2, .int x2), (3, .int x3), (4, .int x4), (5, .int x5)]) hl [0, 1, 2, 3, 4, 5] rfl)
def B_X10_scan_58 (N : Nat) (k58 : Hp → Int32 → Int32 → Int32 → Int32 → Int32 → Int32 → Int32 → Option (Hp × Int32)) (t0 : Nat) (h : Hp) (x1 : Int32) (x2 : Int32) (x3 : Int32) (x4 : Int32) (x5 : Int32) (x6 : Int32) (x7 : Int32) : Option (Hp × Int32) := if (h.gi 1353 t0) ≤ x7 then (B_X10_scan_178 N t0 h x1 x2 x3 x4 x5 x6) else (if x4 ≤ x5 then (B_X10_scan_178 N t0 h x1 x2 x3 x4 x5 x6) else (dr h 30 (h.gr 1352 t0) (fun a30 => ck (¬ (x7 < 0 ∨ h.al a30 ≤ x7.toNatClampNeg)) (if (h.bi a30 x7.toNatClampNeg) < x2 then (B_X10_scan_172 N k58 t0 h x1 x2 x3 x4 x5 x6 x7) else (dr h 30 (h.gr 1352 t0) (fun a33 => ck (¬ (x7 < 0 ∨ h.al a33 ≤ x7.toNatClampNeg)) (if x3 < (h.bi a33 x7.toNatClampNeg) then (B_X10_scan_172 N k58 t0 h x1 x2 x3 x4 x5 x6 x7) else (dr h 30 (h.gr 1352 t0) (fun a36 => ck (¬ (x7 < 0 ∨ h.al a36 ≤ x7.toNatClampNeg)) ((J_X10_sees N t0 h x1 (h.bi a36 x7.toNatClampNeg)).bind (fun z => B_X10_scan_108 N k58 t0 z.1 x1 x2 x3 x4 x5 x6 x7 z.2)))))))))))
theorem mb_X10_scan_58 (N : Nat) (k58 : Hp → Int32 → Int32 → Int32 → Int32 → Int32 → Int32 → Int32 → Option (Hp × Int32)) (t0 : Nat) (h : Hp) (x1 : Int32) (x2 : Int32) (x3 : Int32) (x4 : Int32) (x5 : Int32) (x6 : Int32) (x7 : Int32) (m58 : ∀ (h : Hp) (x1 : Int32) (x2 : Int32) (x3 : Int32) (x4 : Int32) (x5 : Int32) (x6 : Int32) (x7 : Int32), k58 h x1 x2 x3 x4 x5 x6 x7 = some (hz, rz) → Mo h hz) (hJ : B_X10_scan_58 N k58 t0 h x1 x2 x3 x4 x5 x6 x7 = some (hz, rz)) : Mo h hz := by
  unfold B_X10_scan_58 at hJ
  by_cases c28 : (h.gi 1353 t0) ≤ x7
  · have hJ := it_pos c28 hJ
    exact mb_X10_scan_178 N t0 _ _ _ _ _ _ _ hJ
  · have hJ := it_neg c28 hJ
    by_cases c29 : x4 ≤ x5
    · have hJ := it_pos c29 hJ
      exact mb_X10_scan_178 N t0 _ _ _ _ _ _ _ hJ
    · have hJ := it_neg c29 hJ
      obtain ⟨a30, ea30, -, hJ⟩ := dr_some hJ
      obtain ⟨-, hJ⟩ := ck_some hJ
      by_cases c32 : (h.bi a30 x7.toNatClampNeg) < x2
      · have hJ := it_pos c32 hJ
        exact mb_X10_scan_172 N k58 t0 _ _ _ _ _ _ _ _ m58 hJ
      · have hJ := it_neg c32 hJ
        obtain ⟨a33, ea33, -, hJ⟩ := dr_some hJ
        obtain ⟨-, hJ⟩ := ck_some hJ
        by_cases c35 : x3 < (h.bi a33 x7.toNatClampNeg)
        · have hJ := it_pos c35 hJ
          exact mb_X10_scan_172 N k58 t0 _ _ _ _ _ _ _ _ m58 hJ
        · have hJ := it_neg c35 hJ
          obtain ⟨a36, ea36, -, hJ⟩ := dr_some hJ
          obtain ⟨-, hJ⟩ := ck_some hJ
          obtain ⟨⟨h38, r39⟩, e40, hJ⟩ := ob_some hJ
          exact (mo_X10_sees N t0 h x1 (h.bi a36 x7.toNatClampNeg) e40).tr (mb_X10_scan_108 N k58 t0 _ _ _ _ _ _ _ _ _ m58 hJ)
set_option maxRecDepth 100000 in
set_option maxHeartbeats 4000000 in
theorem sb_X10_scan_58 (C : Cx p s m args meth c cX10_scan 8 (some .int) RX10 D cs A h0.se) (hz2 : hz.nx ≤ h0.nx + mc ∧ hz.su ≤ h0.su + ms) (N : Nat) (k58 : Hp → Int32 → Int32 → Int32 → Int32 → Int32 → Int32 → Int32 → Option (Hp × Int32)) (t0 : Nat) (m58 : ∀ (h : Hp) (x1 : Int32) (x2 : Int32) (x3 : Int32) (x4 : Int32) (x5 : Int32) (x6 : Int32) (x7 : Int32), k58 h x1 x2 x3 x4 x5 x6 x7 = some (hz, rz) → Mo h hz) (i58 : ∀ (h : Hp) (x1 : Int32) (x2 : Int32) (x3 : Int32) (x4 : Int32) (x5 : Int32) (x6 : Int32) (x7 : Int32) (H : Heap) (locs : List Loc) (cells slots : Nat) (ls : Array Slot), k58 h x1 x2 x3 x4 x5 x6 x7 = some (hz, rz) → h.kd t0 = 13 → Wo D cs A s h0 h H locs cells slots → lv_has ls 8 [(0, .ref t0), (1, .int x1), (2, .int x2), (3, .int x3), (4, .int x4), (5, .int x5), (6, .int x6), (7, .int x7)] → W p l e { frames := 7, cells := mc, slots := ms, locals := 210 } s m args below meth c H locs cells slots (MQ below (Zi D cs A hz rz) args s mc ms A) (F0 m 58 ls [])) (h : Hp) (x1 : Int32) (x2 : Int32) (x3 : Int32) (x4 : Int32) (x5 : Int32) (x6 : Int32) (x7 : Int32) (hJ : B_X10_scan_58 N k58 t0 h x1 x2 x3 x4 x5 x6 x7 = some (hz, rz)) (hk0 : h.kd t0 = 13) {H : Heap} {locs : List Loc} {cells slots : Nat} (w : Wo D cs A s h0 h H locs cells slots) {ls : Array Slot} (hl : lv_has ls 8 [(0, .ref t0), (1, .int x1), (2, .int x2), (3, .int x3), (4, .int x4), (5, .int x5), (6, .int x6), (7, .int x7)]) : W p l e { frames := 7, cells := mc, slots := ms, locals := 210 } s m args below meth c H locs cells slots (MQ below (Zi D cs A hz rz) args s mc ms A) (F0 m 58 ls []) := by
  obtain ⟨hx, hb, hml, hown, hts, -⟩ := id C
  unfold B_X10_scan_58 at hJ
  refine lv_iload hx hb dX10_scan_58 (lv_at hl 7 rfl) ?_
  refine lv_aload_n hx hb dX10_scan_60 rfl (lv_at hl 0 rfl) ?_
  refine fg_1353 C w hk0 tw_6_216 dX10_scan_61 ?_
  refine lv_icmp_ge (tgt := 178) hx hb dX10_scan_64 (by decide) (fun c28 => ?_) (fun c28 => ?_)
  · have hJ := it_pos c28 hJ
    exact sb_X10_scan_178 C hz2 N t0 _ _ _ _ _ _ _ hJ hk0 w (lv_sub (l' := [(0, .ref t0), (1, .int x1), (2, .int x2), (3, .int x3), (4, .int x4), (5, .int x5), (6, .int x6)]) hl [0, 1, 2, 3, 4, 5, 6] rfl)
  · have hJ := it_neg c28 hJ
    refine lv_iload hx hb dX10_scan_67 (lv_at hl 5 rfl) ?_
    refine lv_iload hx hb dX10_scan_69 (lv_at hl 4 rfl) ?_
    refine lv_icmp_ge (tgt := 178) hx hb dX10_scan_71 (by decide) (fun c29 => ?_) (fun c29 => ?_)
    · have hJ := it_pos c29 hJ
      exact sb_X10_scan_178 C hz2 N t0 _ _ _ _ _ _ _ hJ hk0 w (lv_sub (l' := [(0, .ref t0), (1, .int x1), (2, .int x2), (3, .int x3), (4, .int x4), (5, .int x5), (6, .int x6)]) hl [0, 1, 2, 3, 4, 5, 6] rfl)
    · have hJ := it_neg c29 hJ
      refine lv_aload_n hx hb dX10_scan_74 rfl (lv_at hl 0 rfl) ?_
      refine fg_1352 C w hk0 tw_6_215 dX10_scan_75 ?_
      refine lv_iload hx hb dX10_scan_78 (lv_at hl 7 rfl) ?_
      obtain ⟨a30, ea30, hka30, hJ⟩ := dr_some hJ
      rw [ea30]
      obtain ⟨hi31, hJ⟩ := ck_some hJ
      refine jr_ialdM C w hka30 hi31 dX10_scan_80 ?_
      refine lv_iload_n hx hb dX10_scan_81 rfl (lv_at hl 2 rfl) ?_
      refine lv_icmp_lt (tgt := 172) hx hb dX10_scan_82 (by decide) (fun c32 => ?_) (fun c32 => ?_)
      · have hJ := it_pos c32 hJ
        exact sb_X10_scan_172 C hz2 N k58 t0 m58 i58 _ _ _ _ _ _ _ _ hJ hk0 w hl
      · have hJ := it_neg c32 hJ
        refine lv_aload_n hx hb dX10_scan_85 rfl (lv_at hl 0 rfl) ?_
        refine fg_1352 C w hk0 tw_6_215 dX10_scan_86 ?_
        refine lv_iload hx hb dX10_scan_89 (lv_at hl 7 rfl) ?_
        obtain ⟨a33, ea33, hka33, hJ⟩ := dr_some hJ
        rw [ea33]
        obtain ⟨hi34, hJ⟩ := ck_some hJ
        refine jr_ialdM C w hka33 hi34 dX10_scan_91 ?_
        refine lv_iload_n hx hb dX10_scan_92 rfl (lv_at hl 3 rfl) ?_
        refine lv_icmp_gt (tgt := 172) hx hb dX10_scan_93 (by decide) (fun c35 => ?_) (fun c35 => ?_)
        · have hJ := it_pos c35 hJ
          exact sb_X10_scan_172 C hz2 N k58 t0 m58 i58 _ _ _ _ _ _ _ _ hJ hk0 w hl
        · have hJ := it_neg c35 hJ
          refine lv_aload_n hx hb dX10_scan_96 rfl (lv_at hl 0 rfl) ?_
          refine lv_iload_n hx hb dX10_scan_97 rfl (lv_at hl 1 rfl) ?_
          refine lv_aload_n hx hb dX10_scan_98 rfl (lv_at hl 0 rfl) ?_
          refine fg_1352 C w hk0 tw_6_215 dX10_scan_99 ?_
          refine lv_iload hx hb dX10_scan_102 (lv_at hl 7 rfl) ?_
          obtain ⟨a36, ea36, hka36, hJ⟩ := dr_some hJ
          rw [ea36]
          obtain ⟨hi37, hJ⟩ := ck_some hJ
          refine jr_ialdM C w hka36 hi37 dX10_scan_104 ?_
          obtain ⟨⟨h38, r39⟩, e40, hJ⟩ := ob_some hJ
          refine jc_Vi (As := [.int x1, .int (h.bi a36 x7.toNatClampNeg)]) C w (cc_X10_sees N t0 h x1 (h.bi a36 x7.toNatClampNeg) hk0 e40) (mo_X10_sees N t0 h x1 (h.bi a36 x7.toNatClampNeg) e40) (mb_X10_scan_108 N k58 t0 _ _ _ _ _ _ _ _ _ m58 hJ) hz2 hk0 (by decide) rfl (fs := fs13 h t0) rfl rfl ⟨tw_7_226, tw_7_223, tw_7_225, ts_50, tw_1_7⟩ cd_X10_sees ⟨by decide, by decide⟩ hl.1 (by first | exact Nat.le_of_ble_eq_true rfl | simp [rf_cat, cat_i, cat_l, cat_r]) rfl dX10_scan_105 (fun H locs w1 => ?_)
          have hk41 := kd_keep w (mo_X10_sees N t0 h x1 (h.bi a36 x7.toNatClampNeg) e40) hk0 (by decide)
          have w := w1
          exact sb_X10_scan_108 C hz2 N k58 t0 m58 i58 _ _ _ _ _ _ _ _ _ hJ hk41 w hl
def L_X10_scan_58 (N : Nat) (t0 : Nat) : Nat → Hp → Int32 → Int32 → Int32 → Int32 → Int32 → Int32 → Int32 → Option (Hp × Int32)
  | 0 => fun _ _ _ _ _ _ _ _ => none
  | n + 1 => fun h x1 x2 x3 x4 x5 x6 x7 => B_X10_scan_58 N (L_X10_scan_58 N t0 n) t0 h x1 x2 x3 x4 x5 x6 x7
theorem ml_X10_scan_58 (N : Nat) (t0 : Nat) : ∀ (n : Nat) (h : Hp) (x1 : Int32) (x2 : Int32) (x3 : Int32) (x4 : Int32) (x5 : Int32) (x6 : Int32) (x7 : Int32), L_X10_scan_58 N t0 n h x1 x2 x3 x4 x5 x6 x7 = some (hz, rz) → Mo h hz := by
  intro n
  induction n with
  | zero => intro h x1 x2 x3 x4 x5 x6 x7 hJ; cases hJ
  | succ n ih => intro h x1 x2 x3 x4 x5 x6 x7 hJ; exact mb_X10_scan_58 N (L_X10_scan_58 N t0 n) t0 h x1 x2 x3 x4 x5 x6 x7 ih hJ
theorem sl_X10_scan_58 (C : Cx p s m args meth c cX10_scan 8 (some .int) RX10 D cs A h0.se) (hz2 : hz.nx ≤ h0.nx + mc ∧ hz.su ≤ h0.su + ms) (N : Nat) (t0 : Nat) : ∀ n : Nat, ∀ (h : Hp) (x1 : Int32) (x2 : Int32) (x3 : Int32) (x4 : Int32) (x5 : Int32) (x6 : Int32) (x7 : Int32) (H : Heap) (locs : List Loc) (cells slots : Nat) (ls : Array Slot), L_X10_scan_58 N t0 n h x1 x2 x3 x4 x5 x6 x7 = some (hz, rz) → h.kd t0 = 13 → Wo D cs A s h0 h H locs cells slots → lv_has ls 8 [(0, .ref t0), (1, .int x1), (2, .int x2), (3, .int x3), (4, .int x4), (5, .int x5), (6, .int x6), (7, .int x7)] → W p l e { frames := 7, cells := mc, slots := ms, locals := 210 } s m args below meth c H locs cells slots (MQ below (Zi D cs A hz rz) args s mc ms A) (F0 m 58 ls []) := by
  intro n
  induction n with
  | zero => intro h x1 x2 x3 x4 x5 x6 x7 H locs cells slots ls hJ; cases hJ
  | succ n ih =>
    intro h x1 x2 x3 x4 x5 x6 x7 H locs cells slots ls hJ hk0 w hl
    exact sb_X10_scan_58 C hz2 N (L_X10_scan_58 N t0 n) t0 (ml_X10_scan_58 N t0 n) ih h x1 x2 x3 x4 x5 x6 x7 hJ hk0 w hl
def B_X10_scan_49 (N : Nat) (t0 : Nat) (h : Hp) (x1 : Int32) (x2 : Int32) (x3 : Int32) (x4 : Int32) : Option (Hp × Int32) := L_X10_scan_58 N t0 N h x1 x2 x3 x4 (0 : Int32) x3 (0 : Int32)
theorem mb_X10_scan_49 (N : Nat) (t0 : Nat) (h : Hp) (x1 : Int32) (x2 : Int32) (x3 : Int32) (x4 : Int32) (hJ : B_X10_scan_49 N t0 h x1 x2 x3 x4 = some (hz, rz)) : Mo h hz := by
  unfold B_X10_scan_49 at hJ
  exact ml_X10_scan_58 N t0 N _ _ _ _ _ _ _ _ hJ
set_option maxRecDepth 100000 in
set_option maxHeartbeats 4000000 in
theorem sb_X10_scan_49 (C : Cx p s m args meth c cX10_scan 8 (some .int) RX10 D cs A h0.se) (hz2 : hz.nx ≤ h0.nx + mc ∧ hz.su ≤ h0.su + ms) (N : Nat) (t0 : Nat) (h : Hp) (x1 : Int32) (x2 : Int32) (x3 : Int32) (x4 : Int32) (hJ : B_X10_scan_49 N t0 h x1 x2 x3 x4 = some (hz, rz)) (hk0 : h.kd t0 = 13) {H : Heap} {locs : List Loc} {cells slots : Nat} (w : Wo D cs A s h0 h H locs cells slots) {ls : Array Slot} (hl : lv_has ls 8 [(0, .ref t0), (1, .int x1), (2, .int x2), (3, .int x3), (4, .int x4)]) : W p l e { frames := 7, cells := mc, slots := ms, locals := 210 } s m args below meth c H locs cells slots (MQ below (Zi D cs A hz rz) args s mc ms A) (F0 m 49 ls []) := by
  obtain ⟨hx, hb, hml, hown, hts, -⟩ := id C
  unfold B_X10_scan_49 at hJ
  refine lv_iconst (v := (0 : Int32)) hx hb dX10_scan_49 (by decide) ?_
  refine lv_istore (i := 5) (lv' := [(5, .int (0 : Int32)), (0, .ref t0), (1, .int x1), (2, .int x2), (3, .int x3), (4, .int x4)]) hx hb dX10_scan_50 hl (by decide) rfl (fun ls hl => ?_)
  refine lv_iload_n hx hb dX10_scan_52 rfl (lv_at hl 4 rfl) ?_
  refine lv_istore (i := 6) (lv' := [(6, .int x3), (5, .int (0 : Int32)), (0, .ref t0), (1, .int x1), (2, .int x2), (3, .int x3), (4, .int x4)]) hx hb dX10_scan_53 hl (by decide) rfl (fun ls hl => ?_)
  refine lv_iconst (v := (0 : Int32)) hx hb dX10_scan_55 (by decide) ?_
  refine lv_istore (i := 7) (lv' := [(7, .int (0 : Int32)), (6, .int x3), (5, .int (0 : Int32)), (0, .ref t0), (1, .int x1), (2, .int x2), (3, .int x3), (4, .int x4)]) hx hb dX10_scan_56 hl (by decide) rfl (fun ls hl => ?_)
  exact sl_X10_scan_58 C hz2 N t0 N _ _ _ _ _ _ _ _ _ _ _ _ _ hJ hk0 w (lv_sub (l' := [(0, .ref t0), (1, .int x1), (2, .int x2), (3, .int x3), (4, .int x4), (5, .int (0 : Int32)), (6, .int x3), (7, .int (0 : Int32))]) hl [3, 4, 5, 6, 7, 2, 1, 0] rfl)
def B_X10_scan_15 (N : Nat) (t0 : Nat) (h : Hp) (x1 : Int32) (x2 : Int32) (x3 : Int32) (x4 : Int32) (y0 : Int32) : Option (Hp × Int32) := if y0 = 0 then (if x3 < x2 then (B_X10_scan_38 N t0 h) else (if x4 < (1 : Int32) then (B_X10_scan_38 N t0 h) else (if x4 ≤ (100 : Int32) then ((J_X10_gatherKeys N t0 h).bind (fun z => B_X10_scan_49 N t0 z.1 x1 x2 x3 x4)) else (B_X10_scan_38 N t0 h)))) else (some (h, (0 : Int32)))
theorem mb_X10_scan_15 (N : Nat) (t0 : Nat) (h : Hp) (x1 : Int32) (x2 : Int32) (x3 : Int32) (x4 : Int32) (y0 : Int32) (hJ : B_X10_scan_15 N t0 h x1 x2 x3 x4 y0 = some (hz, rz)) : Mo h hz := by
  unfold B_X10_scan_15 at hJ
  by_cases c42 : y0 = 0
  · have hJ := it_pos c42 hJ
    by_cases c43 : x3 < x2
    · have hJ := it_pos c43 hJ
      exact mb_X10_scan_38 N t0 _ hJ
    · have hJ := it_neg c43 hJ
      by_cases c44 : x4 < (1 : Int32)
      · have hJ := it_pos c44 hJ
        exact mb_X10_scan_38 N t0 _ hJ
      · have hJ := it_neg c44 hJ
        by_cases c45 : x4 ≤ (100 : Int32)
        · have hJ := it_pos c45 hJ
          obtain ⟨⟨h46, r47⟩, e48, hJ⟩ := ob_some hJ
          exact (mo_X10_gatherKeys N t0 h e48).tr (mb_X10_scan_49 N t0 _ _ _ _ _ hJ)
        · have hJ := it_neg c45 hJ
          exact mb_X10_scan_38 N t0 _ hJ
  · have hJ := it_neg c42 hJ
    obtain ⟨rfl, -⟩ := rs2 hJ
    exact ⟨fun _ _ => rfl, Nat.le_refl _, Nat.le_refl _, rfl, fun _ _ => rfl⟩
set_option maxRecDepth 100000 in
set_option maxHeartbeats 4000000 in
theorem sb_X10_scan_15 (C : Cx p s m args meth c cX10_scan 8 (some .int) RX10 D cs A h0.se) (hz2 : hz.nx ≤ h0.nx + mc ∧ hz.su ≤ h0.su + ms) (N : Nat) (t0 : Nat) (h : Hp) (x1 : Int32) (x2 : Int32) (x3 : Int32) (x4 : Int32) (y0 : Int32) (hJ : B_X10_scan_15 N t0 h x1 x2 x3 x4 y0 = some (hz, rz)) (hk0 : h.kd t0 = 13) {H : Heap} {locs : List Loc} {cells slots : Nat} (w : Wo D cs A s h0 h H locs cells slots) {ls : Array Slot} (hl : lv_has ls 8 [(0, .ref t0), (1, .int x1), (2, .int x2), (3, .int x3), (4, .int x4)]) : W p l e { frames := 7, cells := mc, slots := ms, locals := 210 } s m args below meth c H locs cells slots (MQ below (Zi D cs A hz rz) args s mc ms A) (F0 m 15 ls [.int y0]) := by
  obtain ⟨hx, hb, hml, hown, hts, -⟩ := id C
  unfold B_X10_scan_15 at hJ
  refine lv_if_eq (tgt := 20) hx hb dX10_scan_15 (by decide) (fun c42 => ?_) (fun c42 => ?_)
  · have hJ := it_pos c42 hJ
    refine lv_iload_n hx hb dX10_scan_20 rfl (lv_at hl 2 rfl) ?_
    refine lv_iload_n hx hb dX10_scan_21 rfl (lv_at hl 3 rfl) ?_
    refine lv_icmp_gt (tgt := 38) hx hb dX10_scan_22 (by decide) (fun c43 => ?_) (fun c43 => ?_)
    · have hJ := it_pos c43 hJ
      exact sb_X10_scan_38 C hz2 N t0 _ hJ hk0 w (lv_sub (l' := [(0, .ref t0)]) hl [0] rfl)
    · have hJ := it_neg c43 hJ
      refine lv_iload hx hb dX10_scan_25 (lv_at hl 4 rfl) ?_
      refine lv_iconst (v := (1 : Int32)) hx hb dX10_scan_27 (by decide) ?_
      refine lv_icmp_lt (tgt := 38) hx hb dX10_scan_28 (by decide) (fun c44 => ?_) (fun c44 => ?_)
      · have hJ := it_pos c44 hJ
        exact sb_X10_scan_38 C hz2 N t0 _ hJ hk0 w (lv_sub (l' := [(0, .ref t0)]) hl [0] rfl)
      · have hJ := it_neg c44 hJ
        refine lv_iload hx hb dX10_scan_31 (lv_at hl 4 rfl) ?_
        refine lv_bipush (v := (100 : Int32)) hx hb dX10_scan_33 (by decide) ?_
        refine lv_icmp_le (tgt := 45) hx hb dX10_scan_35 (by decide) (fun c45 => ?_) (fun c45 => ?_)
        · have hJ := it_pos c45 hJ
          refine lv_aload_n hx hb dX10_scan_45 rfl (lv_at hl 0 rfl) ?_
          obtain ⟨⟨h46, r47⟩, e48, hJ⟩ := ob_some hJ
          refine jc_Vv (As := []) C w (cc_X10_gatherKeys N t0 h hk0 e48) (mo_X10_gatherKeys N t0 h e48) (mb_X10_scan_49 N t0 _ _ _ _ _ hJ) hz2 hk0 (by decide) rfl (fs := fs13 h t0) rfl rfl ⟨tw_7_194, tw_7_191, tw_7_193, ts_44, tw_1_7⟩ cd_X10_gatherKeys ⟨by decide, by decide⟩ hl.1 (by first | exact Nat.le_of_ble_eq_true rfl | simp [rf_cat, cat_i, cat_l, cat_r]) rfl dX10_scan_46 (fun H locs w1 => ?_)
          have hk49 := kd_keep w (mo_X10_gatherKeys N t0 h e48) hk0 (by decide)
          have w := w1
          exact sb_X10_scan_49 C hz2 N t0 _ _ _ _ _ hJ hk49 w hl
        · have hJ := it_neg c45 hJ
          exact sb_X10_scan_38 C hz2 N t0 _ hJ hk0 w (lv_sub (l' := [(0, .ref t0)]) hl [0] rfl)
  · have hJ := it_neg c42 hJ
    refine lv_iconst (v := (0 : Int32)) hx hb dX10_scan_18 (by decide) ?_
    obtain ⟨rfl, rfl⟩ := rs2 hJ
    exact jr_iret C w hz2 dX10_scan_19
def B_X10_scan_0 (N : Nat) (t0 : Nat) (h : Hp) (x1 : Int32) (x2 : Int32) (x3 : Int32) (x4 : Int32) : Option (Hp × Int32) := (J_X10_isIdle N t0 (h.sgi 1313 t0 ((h.gi 1313 t0) + (1 : Int32))) x1).bind (fun z => B_X10_scan_15 N t0 z.1 x1 x2 x3 x4 z.2)
theorem mb_X10_scan_0 (N : Nat) (t0 : Nat) (h : Hp) (x1 : Int32) (x2 : Int32) (x3 : Int32) (x4 : Int32) (hJ : B_X10_scan_0 N t0 h x1 x2 x3 x4 = some (hz, rz)) : Mo h hz := by
  unfold B_X10_scan_0 at hJ
  obtain ⟨⟨h50, r51⟩, e52, hJ⟩ := ob_some hJ
  exact (Mo.tr (show Mo h (h.sgi 1313 t0 ((h.gi 1313 t0) + (1 : Int32))) from ⟨fun _ _ => rfl, Nat.le_refl _, Nat.le_refl _, rfl, fun _ _ => rfl⟩) ((mo_X10_isIdle N t0 (h.sgi 1313 t0 ((h.gi 1313 t0) + (1 : Int32))) x1 e52).tr (mb_X10_scan_15 N t0 _ _ _ _ _ _ hJ)))
set_option maxRecDepth 100000 in
set_option maxHeartbeats 4000000 in
theorem sb_X10_scan_0 (C : Cx p s m args meth c cX10_scan 8 (some .int) RX10 D cs A h0.se) (hz2 : hz.nx ≤ h0.nx + mc ∧ hz.su ≤ h0.su + ms) (N : Nat) (t0 : Nat) (h : Hp) (x1 : Int32) (x2 : Int32) (x3 : Int32) (x4 : Int32) (hJ : B_X10_scan_0 N t0 h x1 x2 x3 x4 = some (hz, rz)) (hk0 : h.kd t0 = 13) {H : Heap} {locs : List Loc} {cells slots : Nat} (w : Wo D cs A s h0 h H locs cells slots) {ls : Array Slot} (hl : lv_has ls 8 [(0, .ref t0), (1, .int x1), (2, .int x2), (3, .int x3), (4, .int x4)]) : W p l e { frames := 7, cells := mc, slots := ms, locals := 210 } s m args below meth c H locs cells slots (MQ below (Zi D cs A hz rz) args s mc ms A) (F0 m 0 ls []) := by
  obtain ⟨hx, hb, hml, hown, hts, -⟩ := id C
  unfold B_X10_scan_0 at hJ
  refine lv_aload_n hx hb dX10_scan_0 rfl (lv_at hl 0 rfl) ?_
  refine lv_dup hx hb dX10_scan_1 rfl ?_
  refine fg_1313 C w hk0 tw_6_176 dX10_scan_2 ?_
  refine lv_iconst (v := (1 : Int32)) hx hb dX10_scan_5 (by decide) ?_
  refine lv_iadd hx hb dX10_scan_6 ?_
  refine fp_1313 (x := (h.gi 1313 t0) + (1 : Int32)) C w hk0 tw_6_176 dX10_scan_7 (fun H locs w => ?_)
  refine lv_aload_n hx hb dX10_scan_10 rfl (lv_at hl 0 rfl) ?_
  refine lv_iload_n hx hb dX10_scan_11 rfl (lv_at hl 1 rfl) ?_
  obtain ⟨⟨h50, r51⟩, e52, hJ⟩ := ob_some hJ
  refine jc_Vi (As := [.int x1]) C w (cc_X10_isIdle N t0 (h.sgi 1313 t0 ((h.gi 1313 t0) + (1 : Int32))) x1 hk0 e52) (mo_X10_isIdle N t0 (h.sgi 1313 t0 ((h.gi 1313 t0) + (1 : Int32))) x1 e52) (mb_X10_scan_15 N t0 _ _ _ _ _ _ hJ) hz2 hk0 (by decide) rfl (fs := fs13 (h.sgi 1313 t0 ((h.gi 1313 t0) + (1 : Int32))) t0) rfl rfl ⟨tw_7_174, tw_7_171, tw_7_173, ts_39, tw_1_7⟩ cd_X10_isIdle ⟨by decide, by decide⟩ hl.1 (by first | exact Nat.le_of_ble_eq_true rfl | simp [rf_cat, cat_i, cat_l, cat_r]) rfl dX10_scan_12 (fun H locs w1 => ?_)
  have hk53 := kd_keep w (mo_X10_isIdle N t0 (h.sgi 1313 t0 ((h.gi 1313 t0) + (1 : Int32))) x1 e52) hk0 (by decide)
  have w := w1
  exact sb_X10_scan_15 C hz2 N t0 _ _ _ _ _ _ hJ hk53 w hl
def J_X10_scan (N : Nat) (t0 : Nat) (h : Hp) (x1 : Int32) (x2 : Int32) (x3 : Int32) (x4 : Int32) : Option (Hp × Int32) := B_X10_scan_0 N t0 h x1 x2 x3 x4
theorem mo_X10_scan (N : Nat) (t0 : Nat) (h : Hp) (x1 : Int32) (x2 : Int32) (x3 : Int32) (x4 : Int32) (hJ : J_X10_scan N t0 h x1 x2 x3 x4 = some (hz, rz)) : Mo h hz := mb_X10_scan_0 N t0 h x1 x2 x3 x4 hJ
theorem cd_X10_scan : Cd yX10_scan 4 := ⟨by decide +kernel, by decide +kernel, by decide +kernel⟩
theorem cc_X10_scan (N : Nat) (t0 : Nat) (h : Hp) (x1 : Int32) (x2 : Int32) (x3 : Int32) (x4 : Int32) (hk0 : h.kd t0 = 13) (hJ : J_X10_scan N t0 h x1 x2 x3 x4 = some (hz, rz)) : Ci l yX10_scan cX10_scan 8 (some .int) 7 210 D cs h hz [.ref t0, .int x1, .int x2, .int x3, .int x4] rz := by
  intro mc ms g1 g2
  refine je_any (by decide) (by simp [lg_sl, rf_cat, cat_i, cat_l, cat_r]) ?_
  intro p e s m args below meth c C hin2 w ls hl
  have hl : lv_has ls 8 [(0, .ref t0), (1, .int x1), (2, .int x2), (3, .int x3), (4, .int x4)] := hl
  exact sb_X10_scan_0 C ⟨g1, g2⟩ N t0 h x1 x2 x3 x4 hJ hk0 w hl
end G_X10_scan
section G_X10_isRow
variable {p : Program} {l : Launch} {e : Env} {s : State} {m : MethodId} {args : Array Value} {below : List Frame} {meth : Method} {c : Code} {D : va_G} {cs : C4} {A : Nat → Prop} {h0 hz : Hp} {mc ms : Nat} {rz : Int32}
def B_X10_isRow_33 (N : Nat) (t0 : Nat) (h : Hp) (y0 : Int32) : Option (Hp × Int32) := ck (y0 = 0 ∨ y0 = 1) (some (h, y0))
theorem mb_X10_isRow_33 (N : Nat) (t0 : Nat) (h : Hp) (y0 : Int32) (hJ : B_X10_isRow_33 N t0 h y0 = some (hz, rz)) : Mo h hz := by
  unfold B_X10_isRow_33 at hJ
  obtain ⟨-, hJ⟩ := ck_some hJ
  obtain ⟨rfl, -⟩ := rs2 hJ
  exact ⟨fun _ _ => rfl, Nat.le_refl _, Nat.le_refl _, rfl, fun _ _ => rfl⟩
set_option maxRecDepth 100000 in
set_option maxHeartbeats 4000000 in
theorem sb_X10_isRow_33 (C : Cx p s m args meth c cX10_isRow 2 (some .boolean) RX10 D cs A h0.se) (hz2 : hz.nx ≤ h0.nx + mc ∧ hz.su ≤ h0.su + ms) (N : Nat) (t0 : Nat) (h : Hp) (y0 : Int32) (hJ : B_X10_isRow_33 N t0 h y0 = some (hz, rz)) (hk0 : h.kd t0 = 13) {H : Heap} {locs : List Loc} {cells slots : Nat} (w : Wo D cs A s h0 h H locs cells slots) {ls : Array Slot} (hl : lv_has ls 2 [(0, .ref t0)]) : W p l e { frames := 0, cells := mc, slots := ms, locals := 0 } s m args below meth c H locs cells slots (MQ below (Zi D cs A hz rz) args s mc ms A) (F0 m 33 ls [.int y0]) := by
  obtain ⟨hx, hb, hml, hown, hts, -⟩ := id C
  unfold B_X10_isRow_33 at hJ
  obtain ⟨hzo1, hJ⟩ := ck_some hJ
  obtain ⟨rfl, rfl⟩ := rs2 hJ
  exact jr_zret C w hzo1 hz2 dX10_isRow_33
def B_X10_isRow_18 (N : Nat) (t0 : Nat) (h : Hp) (y0 : Option Nat) (y1 : Int32) : Option (Hp × Int32) := dr h 13 y0 (fun a2 => if ((h.sgi 1300 a2 y1).gi 1300 t0) = 0 then (B_X10_isRow_33 N t0 (h.sgi 1300 a2 y1) (1 : Int32)) else (B_X10_isRow_33 N t0 (h.sgi 1300 a2 y1) (0 : Int32)))
theorem mb_X10_isRow_18 (N : Nat) (t0 : Nat) (h : Hp) (y0 : Option Nat) (y1 : Int32) (hJ : B_X10_isRow_18 N t0 h y0 y1 = some (hz, rz)) : Mo h hz := by
  unfold B_X10_isRow_18 at hJ
  obtain ⟨a2, ea2, -, hJ⟩ := dr_some hJ
  by_cases c3 : ((h.sgi 1300 a2 y1).gi 1300 t0) = 0
  · have hJ := it_pos c3 hJ
    exact (Mo.tr (show Mo h (h.sgi 1300 a2 y1) from ⟨fun _ _ => rfl, Nat.le_refl _, Nat.le_refl _, rfl, fun _ _ => rfl⟩) (mb_X10_isRow_33 N t0 _ _ hJ))
  · have hJ := it_neg c3 hJ
    exact (Mo.tr (show Mo h (h.sgi 1300 a2 y1) from ⟨fun _ _ => rfl, Nat.le_refl _, Nat.le_refl _, rfl, fun _ _ => rfl⟩) (mb_X10_isRow_33 N t0 _ _ hJ))
set_option maxRecDepth 100000 in
set_option maxHeartbeats 4000000 in
theorem sb_X10_isRow_18 (C : Cx p s m args meth c cX10_isRow 2 (some .boolean) RX10 D cs A h0.se) (hz2 : hz.nx ≤ h0.nx + mc ∧ hz.su ≤ h0.su + ms) (N : Nat) (t0 : Nat) (h : Hp) (y0 : Option Nat) (y1 : Int32) (hJ : B_X10_isRow_18 N t0 h y0 y1 = some (hz, rz)) (hk0 : h.kd t0 = 13) {H : Heap} {locs : List Loc} {cells slots : Nat} (w : Wo D cs A s h0 h H locs cells slots) {ls : Array Slot} (hl : lv_has ls 2 [(0, .ref t0)]) : W p l e { frames := 0, cells := mc, slots := ms, locals := 0 } s m args below meth c H locs cells slots (MQ below (Zi D cs A hz rz) args s mc ms A) (F0 m 18 ls [.int y1, va_rf y0]) := by
  obtain ⟨hx, hb, hml, hown, hts, -⟩ := id C
  unfold B_X10_isRow_18 at hJ
  obtain ⟨a2, ea2, hka2, hJ⟩ := dr_some hJ
  rw [ea2]
  refine fp_1300 (x := y1) C w hka2 tw_6_163 dX10_isRow_18 (fun H locs w => ?_)
  refine lv_aload_n hx hb dX10_isRow_21 rfl (lv_at hl 0 rfl) ?_
  refine fg_1300 C w hk0 tw_6_163 dX10_isRow_22 ?_
  refine lv_if_ne (tgt := 32) hx hb dX10_isRow_25 (by decide) (fun c3 => ?_) (fun c3 => ?_)
  · have hJ := it_neg c3 hJ
    refine lv_iconst (v := (0 : Int32)) hx hb dX10_isRow_32 (by decide) ?_
    exact sb_X10_isRow_33 C hz2 N t0 _ _ hJ hk0 w hl
  · have hJ := it_pos c3 hJ
    refine lv_iconst (v := (1 : Int32)) hx hb dX10_isRow_28 (by decide) ?_
    refine lv_goto (tgt := 33) hx hb dX10_isRow_29 (by decide) ?_
    exact sb_X10_isRow_33 C hz2 N t0 _ _ hJ hk0 w hl
def B_X10_isRow_13 (N : Nat) (t0 : Nat) (h : Hp) (y0 : Option Nat) : Option (Hp × Int32) := B_X10_isRow_18 N t0 h y0 (1 : Int32)
theorem mb_X10_isRow_13 (N : Nat) (t0 : Nat) (h : Hp) (y0 : Option Nat) (hJ : B_X10_isRow_13 N t0 h y0 = some (hz, rz)) : Mo h hz := by
  unfold B_X10_isRow_13 at hJ
  exact mb_X10_isRow_18 N t0 _ _ _ hJ
set_option maxRecDepth 100000 in
set_option maxHeartbeats 4000000 in
theorem sb_X10_isRow_13 (C : Cx p s m args meth c cX10_isRow 2 (some .boolean) RX10 D cs A h0.se) (hz2 : hz.nx ≤ h0.nx + mc ∧ hz.su ≤ h0.su + ms) (N : Nat) (t0 : Nat) (h : Hp) (y0 : Option Nat) (hJ : B_X10_isRow_13 N t0 h y0 = some (hz, rz)) (hk0 : h.kd t0 = 13) {H : Heap} {locs : List Loc} {cells slots : Nat} (w : Wo D cs A s h0 h H locs cells slots) {ls : Array Slot} (hl : lv_has ls 2 [(0, .ref t0)]) : W p l e { frames := 0, cells := mc, slots := ms, locals := 0 } s m args below meth c H locs cells slots (MQ below (Zi D cs A hz rz) args s mc ms A) (F0 m 13 ls [va_rf y0]) := by
  obtain ⟨hx, hb, hml, hown, hts, -⟩ := id C
  unfold B_X10_isRow_13 at hJ
  refine lv_iconst (v := (1 : Int32)) hx hb dX10_isRow_13 (by decide) ?_
  refine lv_goto (tgt := 18) hx hb dX10_isRow_14 (by decide) ?_
  exact sb_X10_isRow_18 C hz2 N t0 _ _ _ hJ hk0 w hl
def B_X10_isRow_0 (N : Nat) (t0 : Nat) (h : Hp) (x1 : Int32) : Option (Hp × Int32) := if x1 < 0 then (B_X10_isRow_13 N t0 h (some t0)) else (if x1 < (h.gi 1346 t0) then (B_X10_isRow_18 N t0 h (some t0) (0 : Int32)) else (B_X10_isRow_13 N t0 h (some t0)))
theorem mb_X10_isRow_0 (N : Nat) (t0 : Nat) (h : Hp) (x1 : Int32) (hJ : B_X10_isRow_0 N t0 h x1 = some (hz, rz)) : Mo h hz := by
  unfold B_X10_isRow_0 at hJ
  by_cases c4 : x1 < 0
  · have hJ := it_pos c4 hJ
    exact mb_X10_isRow_13 N t0 _ _ hJ
  · have hJ := it_neg c4 hJ
    by_cases c5 : x1 < (h.gi 1346 t0)
    · have hJ := it_pos c5 hJ
      exact mb_X10_isRow_18 N t0 _ _ _ hJ
    · have hJ := it_neg c5 hJ
      exact mb_X10_isRow_13 N t0 _ _ hJ
set_option maxRecDepth 100000 in
set_option maxHeartbeats 4000000 in
theorem sb_X10_isRow_0 (C : Cx p s m args meth c cX10_isRow 2 (some .boolean) RX10 D cs A h0.se) (hz2 : hz.nx ≤ h0.nx + mc ∧ hz.su ≤ h0.su + ms) (N : Nat) (t0 : Nat) (h : Hp) (x1 : Int32) (hJ : B_X10_isRow_0 N t0 h x1 = some (hz, rz)) (hk0 : h.kd t0 = 13) {H : Heap} {locs : List Loc} {cells slots : Nat} (w : Wo D cs A s h0 h H locs cells slots) {ls : Array Slot} (hl : lv_has ls 2 [(0, .ref t0), (1, .int x1)]) : W p l e { frames := 0, cells := mc, slots := ms, locals := 0 } s m args below meth c H locs cells slots (MQ below (Zi D cs A hz rz) args s mc ms A) (F0 m 0 ls []) := by
  obtain ⟨hx, hb, hml, hown, hts, -⟩ := id C
  unfold B_X10_isRow_0 at hJ
  refine lv_aload_n hx hb dX10_isRow_0 rfl (lv_at hl 0 rfl) ?_
  refine lv_iload_n hx hb dX10_isRow_1 rfl (lv_at hl 1 rfl) ?_
  refine lv_if_lt (tgt := 13) hx hb dX10_isRow_2 (by decide) (fun c4 => ?_) (fun c4 => ?_)
  · have hJ := it_pos c4 hJ
    exact sb_X10_isRow_13 C hz2 N t0 _ _ hJ hk0 w (lv_sub (l' := [(0, .ref t0)]) hl [0] rfl)
  · have hJ := it_neg c4 hJ
    refine lv_iload_n hx hb dX10_isRow_5 rfl (lv_at hl 1 rfl) ?_
    refine lv_aload_n hx hb dX10_isRow_6 rfl (lv_at hl 0 rfl) ?_
    refine fg_1346 C w hk0 tw_6_209 dX10_isRow_7 ?_
    refine lv_icmp_lt (tgt := 17) hx hb dX10_isRow_10 (by decide) (fun c5 => ?_) (fun c5 => ?_)
    · have hJ := it_pos c5 hJ
      refine lv_iconst (v := (0 : Int32)) hx hb dX10_isRow_17 (by decide) ?_
      exact sb_X10_isRow_18 C hz2 N t0 _ _ _ hJ hk0 w (lv_sub (l' := [(0, .ref t0)]) hl [0] rfl)
    · have hJ := it_neg c5 hJ
      exact sb_X10_isRow_13 C hz2 N t0 _ _ hJ hk0 w (lv_sub (l' := [(0, .ref t0)]) hl [0] rfl)
def J_X10_isRow (N : Nat) (t0 : Nat) (h : Hp) (x1 : Int32) : Option (Hp × Int32) := B_X10_isRow_0 N t0 h x1
theorem mo_X10_isRow (N : Nat) (t0 : Nat) (h : Hp) (x1 : Int32) (hJ : J_X10_isRow N t0 h x1 = some (hz, rz)) : Mo h hz := mb_X10_isRow_0 N t0 h x1 hJ
theorem cd_X10_isRow : Cd yX10_isRow 1 := ⟨by decide +kernel, by decide +kernel, by decide +kernel⟩
theorem cc_X10_isRow (N : Nat) (t0 : Nat) (h : Hp) (x1 : Int32) (hk0 : h.kd t0 = 13) (hJ : J_X10_isRow N t0 h x1 = some (hz, rz)) : Ci l yX10_isRow cX10_isRow 2 (some .boolean) 0 0 D cs h hz [.ref t0, .int x1] rz := by
  intro mc ms g1 g2
  refine je_any (by decide) (by simp [lg_sl, rf_cat, cat_i, cat_l, cat_r]) ?_
  intro p e s m args below meth c C hin2 w ls hl
  have hl : lv_has ls 2 [(0, .ref t0), (1, .int x1)] := hl
  exact sb_X10_isRow_0 C ⟨g1, g2⟩ N t0 h x1 hJ hk0 w hl
end G_X10_isRow
section G_X10_rowKey
variable {p : Program} {l : Launch} {e : Env} {s : State} {m : MethodId} {args : Array Value} {below : List Frame} {meth : Method} {c : Code} {D : va_G} {cs : C4} {A : Nat → Prop} {h0 hz : Hp} {mc ms : Nat} {rz : Int32}
def B_X10_rowKey_23 (N : Nat) (t0 : Nat) (h : Hp) (y0 : Int32) : Option (Hp × Int32) := some (h, y0)
theorem mb_X10_rowKey_23 (N : Nat) (t0 : Nat) (h : Hp) (y0 : Int32) (hJ : B_X10_rowKey_23 N t0 h y0 = some (hz, rz)) : Mo h hz := by
  unfold B_X10_rowKey_23 at hJ
  obtain ⟨rfl, -⟩ := rs2 hJ
  exact ⟨fun _ _ => rfl, Nat.le_refl _, Nat.le_refl _, rfl, fun _ _ => rfl⟩
set_option maxRecDepth 100000 in
set_option maxHeartbeats 4000000 in
theorem sb_X10_rowKey_23 (C : Cx p s m args meth c cX10_rowKey 2 (some .int) RX10 D cs A h0.se) (hz2 : hz.nx ≤ h0.nx + mc ∧ hz.su ≤ h0.su + ms) (N : Nat) (t0 : Nat) (h : Hp) (y0 : Int32) (hJ : B_X10_rowKey_23 N t0 h y0 = some (hz, rz)) (hk0 : h.kd t0 = 13) {H : Heap} {locs : List Loc} {cells slots : Nat} (w : Wo D cs A s h0 h H locs cells slots) {ls : Array Slot} (hl : lv_has ls 2 [(0, .ref t0)]) : W p l e { frames := 1, cells := mc, slots := ms, locals := 30 } s m args below meth c H locs cells slots (MQ below (Zi D cs A hz rz) args s mc ms A) (F0 m 23 ls [.int y0]) := by
  obtain ⟨hx, hb, hml, hown, hts, -⟩ := id C
  unfold B_X10_rowKey_23 at hJ
  obtain ⟨rfl, rfl⟩ := rs2 hJ
  exact jr_iret C w hz2 dX10_rowKey_23
def B_X10_rowKey_5 (N : Nat) (t0 : Nat) (h : Hp) (x1 : Int32) (y0 : Int32) : Option (Hp × Int32) := if y0 = 0 then (B_X10_rowKey_23 N t0 h (0 : Int32)) else (dr h 30 (h.gr 1340 t0) (fun a2 => ck (¬ ((h.gi 1345 t0) + x1 < 0 ∨ h.al a2 ≤ ((h.gi 1345 t0) + x1).toNatClampNeg)) (B_X10_rowKey_23 N t0 h (h.bi a2 ((h.gi 1345 t0) + x1).toNatClampNeg))))
theorem mb_X10_rowKey_5 (N : Nat) (t0 : Nat) (h : Hp) (x1 : Int32) (y0 : Int32) (hJ : B_X10_rowKey_5 N t0 h x1 y0 = some (hz, rz)) : Mo h hz := by
  unfold B_X10_rowKey_5 at hJ
  by_cases c1 : y0 = 0
  · have hJ := it_pos c1 hJ
    exact mb_X10_rowKey_23 N t0 _ _ hJ
  · have hJ := it_neg c1 hJ
    obtain ⟨a2, ea2, -, hJ⟩ := dr_some hJ
    obtain ⟨-, hJ⟩ := ck_some hJ
    exact mb_X10_rowKey_23 N t0 _ _ hJ
set_option maxRecDepth 100000 in
set_option maxHeartbeats 4000000 in
theorem sb_X10_rowKey_5 (C : Cx p s m args meth c cX10_rowKey 2 (some .int) RX10 D cs A h0.se) (hz2 : hz.nx ≤ h0.nx + mc ∧ hz.su ≤ h0.su + ms) (N : Nat) (t0 : Nat) (h : Hp) (x1 : Int32) (y0 : Int32) (hJ : B_X10_rowKey_5 N t0 h x1 y0 = some (hz, rz)) (hk0 : h.kd t0 = 13) {H : Heap} {locs : List Loc} {cells slots : Nat} (w : Wo D cs A s h0 h H locs cells slots) {ls : Array Slot} (hl : lv_has ls 2 [(0, .ref t0), (1, .int x1)]) : W p l e { frames := 1, cells := mc, slots := ms, locals := 30 } s m args below meth c H locs cells slots (MQ below (Zi D cs A hz rz) args s mc ms A) (F0 m 5 ls [.int y0]) := by
  obtain ⟨hx, hb, hml, hown, hts, -⟩ := id C
  unfold B_X10_rowKey_5 at hJ
  refine lv_if_eq (tgt := 22) hx hb dX10_rowKey_5 (by decide) (fun c1 => ?_) (fun c1 => ?_)
  · have hJ := it_pos c1 hJ
    refine lv_iconst (v := (0 : Int32)) hx hb dX10_rowKey_22 (by decide) ?_
    exact sb_X10_rowKey_23 C hz2 N t0 _ _ hJ hk0 w (lv_sub (l' := [(0, .ref t0)]) hl [0] rfl)
  · have hJ := it_neg c1 hJ
    refine lv_aload_n hx hb dX10_rowKey_8 rfl (lv_at hl 0 rfl) ?_
    refine fg_1340 C w hk0 tw_6_203 dX10_rowKey_9 ?_
    refine lv_aload_n hx hb dX10_rowKey_12 rfl (lv_at hl 0 rfl) ?_
    refine fg_1345 C w hk0 tw_6_208 dX10_rowKey_13 ?_
    refine lv_iload_n hx hb dX10_rowKey_16 rfl (lv_at hl 1 rfl) ?_
    refine lv_iadd hx hb dX10_rowKey_17 ?_
    obtain ⟨a2, ea2, hka2, hJ⟩ := dr_some hJ
    rw [ea2]
    obtain ⟨hi3, hJ⟩ := ck_some hJ
    refine jr_ialdM C w hka2 hi3 dX10_rowKey_18 ?_
    refine lv_goto (tgt := 23) hx hb dX10_rowKey_19 (by decide) ?_
    exact sb_X10_rowKey_23 C hz2 N t0 _ _ hJ hk0 w (lv_sub (l' := [(0, .ref t0)]) hl [0] rfl)
def B_X10_rowKey_0 (N : Nat) (t0 : Nat) (h : Hp) (x1 : Int32) : Option (Hp × Int32) := (J_X10_isRow N t0 h x1).bind (fun z => B_X10_rowKey_5 N t0 z.1 x1 z.2)
theorem mb_X10_rowKey_0 (N : Nat) (t0 : Nat) (h : Hp) (x1 : Int32) (hJ : B_X10_rowKey_0 N t0 h x1 = some (hz, rz)) : Mo h hz := by
  unfold B_X10_rowKey_0 at hJ
  obtain ⟨⟨h4, r5⟩, e6, hJ⟩ := ob_some hJ
  exact (mo_X10_isRow N t0 h x1 e6).tr (mb_X10_rowKey_5 N t0 _ _ _ hJ)
set_option maxRecDepth 100000 in
set_option maxHeartbeats 4000000 in
theorem sb_X10_rowKey_0 (C : Cx p s m args meth c cX10_rowKey 2 (some .int) RX10 D cs A h0.se) (hz2 : hz.nx ≤ h0.nx + mc ∧ hz.su ≤ h0.su + ms) (N : Nat) (t0 : Nat) (h : Hp) (x1 : Int32) (hJ : B_X10_rowKey_0 N t0 h x1 = some (hz, rz)) (hk0 : h.kd t0 = 13) {H : Heap} {locs : List Loc} {cells slots : Nat} (w : Wo D cs A s h0 h H locs cells slots) {ls : Array Slot} (hl : lv_has ls 2 [(0, .ref t0), (1, .int x1)]) : W p l e { frames := 1, cells := mc, slots := ms, locals := 30 } s m args below meth c H locs cells slots (MQ below (Zi D cs A hz rz) args s mc ms A) (F0 m 0 ls []) := by
  obtain ⟨hx, hb, hml, hown, hts, -⟩ := id C
  unfold B_X10_rowKey_0 at hJ
  refine lv_aload_n hx hb dX10_rowKey_0 rfl (lv_at hl 0 rfl) ?_
  refine lv_iload_n hx hb dX10_rowKey_1 rfl (lv_at hl 1 rfl) ?_
  obtain ⟨⟨h4, r5⟩, e6, hJ⟩ := ob_some hJ
  refine jc_Vi (As := [.int x1]) C w (cc_X10_isRow N t0 h x1 hk0 e6) (mo_X10_isRow N t0 h x1 e6) (mb_X10_rowKey_5 N t0 _ _ _ hJ) hz2 hk0 (by decide) rfl (fs := fs13 h t0) rfl rfl ⟨tw_8_23, tw_8_20, tw_8_22, ts_54, tw_1_7⟩ cd_X10_isRow ⟨by decide, by decide⟩ hl.1 (by first | exact Nat.le_of_ble_eq_true rfl | simp [rf_cat, cat_i, cat_l, cat_r]) rfl dX10_rowKey_2 (fun H locs w1 => ?_)
  have hk7 := kd_keep w (mo_X10_isRow N t0 h x1 e6) hk0 (by decide)
  have w := w1
  exact sb_X10_rowKey_5 C hz2 N t0 _ _ _ hJ hk7 w hl
def J_X10_rowKey (N : Nat) (t0 : Nat) (h : Hp) (x1 : Int32) : Option (Hp × Int32) := B_X10_rowKey_0 N t0 h x1
theorem mo_X10_rowKey (N : Nat) (t0 : Nat) (h : Hp) (x1 : Int32) (hJ : J_X10_rowKey N t0 h x1 = some (hz, rz)) : Mo h hz := mb_X10_rowKey_0 N t0 h x1 hJ
theorem cd_X10_rowKey : Cd yX10_rowKey 1 := ⟨by decide +kernel, by decide +kernel, by decide +kernel⟩
theorem cc_X10_rowKey (N : Nat) (t0 : Nat) (h : Hp) (x1 : Int32) (hk0 : h.kd t0 = 13) (hJ : J_X10_rowKey N t0 h x1 = some (hz, rz)) : Ci l yX10_rowKey cX10_rowKey 2 (some .int) 1 30 D cs h hz [.ref t0, .int x1] rz := by
  intro mc ms g1 g2
  refine je_any (by decide) (by simp [lg_sl, rf_cat, cat_i, cat_l, cat_r]) ?_
  intro p e s m args below meth c C hin2 w ls hl
  have hl : lv_has ls 2 [(0, .ref t0), (1, .int x1)] := hl
  exact sb_X10_rowKey_0 C ⟨g1, g2⟩ N t0 h x1 hJ hk0 w hl
end G_X10_rowKey
section G_X10_rowValue
variable {p : Program} {l : Launch} {e : Env} {s : State} {m : MethodId} {args : Array Value} {below : List Frame} {meth : Method} {c : Code} {D : va_G} {cs : C4} {A : Nat → Prop} {h0 hz : Hp} {mc ms : Nat} {rz : Int64}
def B_X10_rowValue_23 (N : Nat) (t0 : Nat) (h : Hp) (y0 : Int64) : Option (Hp × Int64) := some (h, y0)
theorem mb_X10_rowValue_23 (N : Nat) (t0 : Nat) (h : Hp) (y0 : Int64) (hJ : B_X10_rowValue_23 N t0 h y0 = some (hz, rz)) : Mo h hz := by
  unfold B_X10_rowValue_23 at hJ
  obtain ⟨rfl, -⟩ := rs2 hJ
  exact ⟨fun _ _ => rfl, Nat.le_refl _, Nat.le_refl _, rfl, fun _ _ => rfl⟩
set_option maxRecDepth 100000 in
set_option maxHeartbeats 4000000 in
theorem sb_X10_rowValue_23 (C : Cx p s m args meth c cX10_rowValue 2 (some .long) RX10 D cs A h0.se) (hz2 : hz.nx ≤ h0.nx + mc ∧ hz.su ≤ h0.su + ms) (N : Nat) (t0 : Nat) (h : Hp) (y0 : Int64) (hJ : B_X10_rowValue_23 N t0 h y0 = some (hz, rz)) (hk0 : h.kd t0 = 13) {H : Heap} {locs : List Loc} {cells slots : Nat} (w : Wo D cs A s h0 h H locs cells slots) {ls : Array Slot} (hl : lv_has ls 2 [(0, .ref t0)]) : W p l e { frames := 1, cells := mc, slots := ms, locals := 30 } s m args below meth c H locs cells slots (MQ below (Zl D cs A hz rz) args s mc ms A) (F0 m 23 ls [.long y0]) := by
  obtain ⟨hx, hb, hml, hown, hts, -⟩ := id C
  unfold B_X10_rowValue_23 at hJ
  obtain ⟨rfl, rfl⟩ := rs2 hJ
  exact jr_lret C w hz2 dX10_rowValue_23
def B_X10_rowValue_5 (N : Nat) (t0 : Nat) (h : Hp) (x1 : Int32) (y0 : Int32) : Option (Hp × Int64) := if y0 = 0 then (B_X10_rowValue_23 N t0 h (0 : Int64)) else (dr h 31 (h.gr 1341 t0) (fun a2 => ck (¬ ((h.gi 1345 t0) + x1 < 0 ∨ h.al a2 ≤ ((h.gi 1345 t0) + x1).toNatClampNeg)) (B_X10_rowValue_23 N t0 h (h.bw a2 ((h.gi 1345 t0) + x1).toNatClampNeg))))
theorem mb_X10_rowValue_5 (N : Nat) (t0 : Nat) (h : Hp) (x1 : Int32) (y0 : Int32) (hJ : B_X10_rowValue_5 N t0 h x1 y0 = some (hz, rz)) : Mo h hz := by
  unfold B_X10_rowValue_5 at hJ
  by_cases c1 : y0 = 0
  · have hJ := it_pos c1 hJ
    exact mb_X10_rowValue_23 N t0 _ _ hJ
  · have hJ := it_neg c1 hJ
    obtain ⟨a2, ea2, -, hJ⟩ := dr_some hJ
    obtain ⟨-, hJ⟩ := ck_some hJ
    exact mb_X10_rowValue_23 N t0 _ _ hJ
set_option maxRecDepth 100000 in
set_option maxHeartbeats 4000000 in
theorem sb_X10_rowValue_5 (C : Cx p s m args meth c cX10_rowValue 2 (some .long) RX10 D cs A h0.se) (hz2 : hz.nx ≤ h0.nx + mc ∧ hz.su ≤ h0.su + ms) (N : Nat) (t0 : Nat) (h : Hp) (x1 : Int32) (y0 : Int32) (hJ : B_X10_rowValue_5 N t0 h x1 y0 = some (hz, rz)) (hk0 : h.kd t0 = 13) {H : Heap} {locs : List Loc} {cells slots : Nat} (w : Wo D cs A s h0 h H locs cells slots) {ls : Array Slot} (hl : lv_has ls 2 [(0, .ref t0), (1, .int x1)]) : W p l e { frames := 1, cells := mc, slots := ms, locals := 30 } s m args below meth c H locs cells slots (MQ below (Zl D cs A hz rz) args s mc ms A) (F0 m 5 ls [.int y0]) := by
  obtain ⟨hx, hb, hml, hown, hts, -⟩ := id C
  unfold B_X10_rowValue_5 at hJ
  refine lv_if_eq (tgt := 22) hx hb dX10_rowValue_5 (by decide) (fun c1 => ?_) (fun c1 => ?_)
  · have hJ := it_pos c1 hJ
    refine lv_lconst (v := (0 : Int64)) hx hb dX10_rowValue_22 (by decide) ?_
    exact sb_X10_rowValue_23 C hz2 N t0 _ _ hJ hk0 w (lv_sub (l' := [(0, .ref t0)]) hl [0] rfl)
  · have hJ := it_neg c1 hJ
    refine lv_aload_n hx hb dX10_rowValue_8 rfl (lv_at hl 0 rfl) ?_
    refine fg_1341 C w hk0 tw_6_204 dX10_rowValue_9 ?_
    refine lv_aload_n hx hb dX10_rowValue_12 rfl (lv_at hl 0 rfl) ?_
    refine fg_1345 C w hk0 tw_6_208 dX10_rowValue_13 ?_
    refine lv_iload_n hx hb dX10_rowValue_16 rfl (lv_at hl 1 rfl) ?_
    refine lv_iadd hx hb dX10_rowValue_17 ?_
    obtain ⟨a2, ea2, hka2, hJ⟩ := dr_some hJ
    rw [ea2]
    obtain ⟨hi3, hJ⟩ := ck_some hJ
    refine jr_laldM C w hka2 hi3 dX10_rowValue_18 ?_
    refine lv_goto (tgt := 23) hx hb dX10_rowValue_19 (by decide) ?_
    exact sb_X10_rowValue_23 C hz2 N t0 _ _ hJ hk0 w (lv_sub (l' := [(0, .ref t0)]) hl [0] rfl)
def B_X10_rowValue_0 (N : Nat) (t0 : Nat) (h : Hp) (x1 : Int32) : Option (Hp × Int64) := (J_X10_isRow N t0 h x1).bind (fun z => B_X10_rowValue_5 N t0 z.1 x1 z.2)
theorem mb_X10_rowValue_0 (N : Nat) (t0 : Nat) (h : Hp) (x1 : Int32) (hJ : B_X10_rowValue_0 N t0 h x1 = some (hz, rz)) : Mo h hz := by
  unfold B_X10_rowValue_0 at hJ
  obtain ⟨⟨h4, r5⟩, e6, hJ⟩ := ob_some hJ
  exact (mo_X10_isRow N t0 h x1 e6).tr (mb_X10_rowValue_5 N t0 _ _ _ hJ)
set_option maxRecDepth 100000 in
set_option maxHeartbeats 4000000 in
theorem sb_X10_rowValue_0 (C : Cx p s m args meth c cX10_rowValue 2 (some .long) RX10 D cs A h0.se) (hz2 : hz.nx ≤ h0.nx + mc ∧ hz.su ≤ h0.su + ms) (N : Nat) (t0 : Nat) (h : Hp) (x1 : Int32) (hJ : B_X10_rowValue_0 N t0 h x1 = some (hz, rz)) (hk0 : h.kd t0 = 13) {H : Heap} {locs : List Loc} {cells slots : Nat} (w : Wo D cs A s h0 h H locs cells slots) {ls : Array Slot} (hl : lv_has ls 2 [(0, .ref t0), (1, .int x1)]) : W p l e { frames := 1, cells := mc, slots := ms, locals := 30 } s m args below meth c H locs cells slots (MQ below (Zl D cs A hz rz) args s mc ms A) (F0 m 0 ls []) := by
  obtain ⟨hx, hb, hml, hown, hts, -⟩ := id C
  unfold B_X10_rowValue_0 at hJ
  refine lv_aload_n hx hb dX10_rowValue_0 rfl (lv_at hl 0 rfl) ?_
  refine lv_iload_n hx hb dX10_rowValue_1 rfl (lv_at hl 1 rfl) ?_
  obtain ⟨⟨h4, r5⟩, e6, hJ⟩ := ob_some hJ
  refine jc_Vi (As := [.int x1]) C w (cc_X10_isRow N t0 h x1 hk0 e6) (mo_X10_isRow N t0 h x1 e6) (mb_X10_rowValue_5 N t0 _ _ _ hJ) hz2 hk0 (by decide) rfl (fs := fs13 h t0) rfl rfl ⟨tw_8_23, tw_8_20, tw_8_22, ts_54, tw_1_7⟩ cd_X10_isRow ⟨by decide, by decide⟩ hl.1 (by first | exact Nat.le_of_ble_eq_true rfl | simp [rf_cat, cat_i, cat_l, cat_r]) rfl dX10_rowValue_2 (fun H locs w1 => ?_)
  have hk7 := kd_keep w (mo_X10_isRow N t0 h x1 e6) hk0 (by decide)
  have w := w1
  exact sb_X10_rowValue_5 C hz2 N t0 _ _ _ hJ hk7 w hl
def J_X10_rowValue (N : Nat) (t0 : Nat) (h : Hp) (x1 : Int32) : Option (Hp × Int64) := B_X10_rowValue_0 N t0 h x1
theorem mo_X10_rowValue (N : Nat) (t0 : Nat) (h : Hp) (x1 : Int32) (hJ : J_X10_rowValue N t0 h x1 = some (hz, rz)) : Mo h hz := mb_X10_rowValue_0 N t0 h x1 hJ
theorem cd_X10_rowValue : Cd yX10_rowValue 1 := ⟨by decide +kernel, by decide +kernel, by decide +kernel⟩
theorem cc_X10_rowValue (N : Nat) (t0 : Nat) (h : Hp) (x1 : Int32) (hk0 : h.kd t0 = 13) (hJ : J_X10_rowValue N t0 h x1 = some (hz, rz)) : Cl l yX10_rowValue cX10_rowValue 2 (some .long) 1 30 D cs h hz [.ref t0, .int x1] rz := by
  intro mc ms g1 g2
  refine je_any (by decide) (by simp [lg_sl, rf_cat, cat_i, cat_l, cat_r]) ?_
  intro p e s m args below meth c C hin2 w ls hl
  have hl : lv_has ls 2 [(0, .ref t0), (1, .int x1)] := hl
  exact sb_X10_rowValue_0 C ⟨g1, g2⟩ N t0 h x1 hJ hk0 w hl
end G_X10_rowValue
section G_X10_wroteMany
variable {p : Program} {l : Launch} {e : Env} {s : State} {m : MethodId} {args : Array Value} {below : List Frame} {meth : Method} {c : Code} {D : va_G} {cs : C4} {A : Nat → Prop} {h0 hz : Hp} {mc ms : Nat} {rz : Int32}
def B_X10_wroteMany_43 (N : Nat) (k4 : Hp → Int32 → Int32 → Int32 → Option (Hp × Int32)) (t0 : Nat) (h : Hp) (x1 : Int32) (x3 : Int32) (y0 : Int32) (y1 : Int32) : Option (Hp × Int32) := k4 h x1 (y0 + y1) (x3 + (1 : Int32))
theorem mb_X10_wroteMany_43 (N : Nat) (k4 : Hp → Int32 → Int32 → Int32 → Option (Hp × Int32)) (t0 : Nat) (h : Hp) (x1 : Int32) (x3 : Int32) (y0 : Int32) (y1 : Int32) (m4 : ∀ (h : Hp) (x1 : Int32) (x2 : Int32) (x3 : Int32), k4 h x1 x2 x3 = some (hz, rz) → Mo h hz) (hJ : B_X10_wroteMany_43 N k4 t0 h x1 x3 y0 y1 = some (hz, rz)) : Mo h hz := by
  unfold B_X10_wroteMany_43 at hJ
  exact m4 _ _ _ _ hJ
set_option maxRecDepth 100000 in
set_option maxHeartbeats 4000000 in
theorem sb_X10_wroteMany_43 (C : Cx p s m args meth c cX10_wroteMany 4 (some .int) RX10 D cs A h0.se) (hz2 : hz.nx ≤ h0.nx + mc ∧ hz.su ≤ h0.su + ms) (N : Nat) (k4 : Hp → Int32 → Int32 → Int32 → Option (Hp × Int32)) (t0 : Nat) (m4 : ∀ (h : Hp) (x1 : Int32) (x2 : Int32) (x3 : Int32), k4 h x1 x2 x3 = some (hz, rz) → Mo h hz) (i4 : ∀ (h : Hp) (x1 : Int32) (x2 : Int32) (x3 : Int32) (H : Heap) (locs : List Loc) (cells slots : Nat) (ls : Array Slot), k4 h x1 x2 x3 = some (hz, rz) → h.kd t0 = 13 → Wo D cs A s h0 h H locs cells slots → lv_has ls 4 [(0, .ref t0), (1, .int x1), (2, .int x2), (3, .int x3)] → W p l e { frames := 1, cells := mc, slots := ms, locals := 30 } s m args below meth c H locs cells slots (MQ below (Zi D cs A hz rz) args s mc ms A) (F0 m 4 ls [])) (h : Hp) (x1 : Int32) (x3 : Int32) (y0 : Int32) (y1 : Int32) (hJ : B_X10_wroteMany_43 N k4 t0 h x1 x3 y0 y1 = some (hz, rz)) (hk0 : h.kd t0 = 13) {H : Heap} {locs : List Loc} {cells slots : Nat} (w : Wo D cs A s h0 h H locs cells slots) {ls : Array Slot} (hl : lv_has ls 4 [(0, .ref t0), (1, .int x1), (3, .int x3)]) : W p l e { frames := 1, cells := mc, slots := ms, locals := 30 } s m args below meth c H locs cells slots (MQ below (Zi D cs A hz rz) args s mc ms A) (F0 m 43 ls [.int y1, .int y0]) := by
  obtain ⟨hx, hb, hml, hown, hts, -⟩ := id C
  unfold B_X10_wroteMany_43 at hJ
  refine lv_iadd hx hb dX10_wroteMany_43 ?_
  refine lv_istore_n (i := 2) (lv' := [(2, .int (y0 + y1)), (0, .ref t0), (1, .int x1), (3, .int x3)]) hx hb dX10_wroteMany_44 rfl hl (by decide) rfl (fun ls hl => ?_)
  refine lv_iinc (v := x3 + (1 : Int32)) (lv' := [(3, .int (x3 + (1 : Int32))), (2, .int (y0 + y1)), (0, .ref t0), (1, .int x1)]) hx hb dX10_wroteMany_45 hl (k := 3) rfl rfl (by decide) rfl (fun ls hl => ?_)
  refine lv_goto (tgt := 4) hx hb dX10_wroteMany_48 (by decide) ?_
  exact i4 _ _ _ _ _ _ _ _ _ hJ hk0 w (lv_sub (l' := [(0, .ref t0), (1, .int x1), (2, .int (y0 + y1)), (3, .int (x3 + (1 : Int32)))]) hl [2, 3, 1, 0] rfl)
def B_X10_wroteMany_42 (N : Nat) (k4 : Hp → Int32 → Int32 → Int32 → Option (Hp × Int32)) (t0 : Nat) (h : Hp) (x1 : Int32) (x3 : Int32) (y0 : Int32) : Option (Hp × Int32) := B_X10_wroteMany_43 N k4 t0 h x1 x3 y0 (0 : Int32)
theorem mb_X10_wroteMany_42 (N : Nat) (k4 : Hp → Int32 → Int32 → Int32 → Option (Hp × Int32)) (t0 : Nat) (h : Hp) (x1 : Int32) (x3 : Int32) (y0 : Int32) (m4 : ∀ (h : Hp) (x1 : Int32) (x2 : Int32) (x3 : Int32), k4 h x1 x2 x3 = some (hz, rz) → Mo h hz) (hJ : B_X10_wroteMany_42 N k4 t0 h x1 x3 y0 = some (hz, rz)) : Mo h hz := by
  unfold B_X10_wroteMany_42 at hJ
  exact mb_X10_wroteMany_43 N k4 t0 _ _ _ _ _ m4 hJ
set_option maxRecDepth 100000 in
set_option maxHeartbeats 4000000 in
theorem sb_X10_wroteMany_42 (C : Cx p s m args meth c cX10_wroteMany 4 (some .int) RX10 D cs A h0.se) (hz2 : hz.nx ≤ h0.nx + mc ∧ hz.su ≤ h0.su + ms) (N : Nat) (k4 : Hp → Int32 → Int32 → Int32 → Option (Hp × Int32)) (t0 : Nat) (m4 : ∀ (h : Hp) (x1 : Int32) (x2 : Int32) (x3 : Int32), k4 h x1 x2 x3 = some (hz, rz) → Mo h hz) (i4 : ∀ (h : Hp) (x1 : Int32) (x2 : Int32) (x3 : Int32) (H : Heap) (locs : List Loc) (cells slots : Nat) (ls : Array Slot), k4 h x1 x2 x3 = some (hz, rz) → h.kd t0 = 13 → Wo D cs A s h0 h H locs cells slots → lv_has ls 4 [(0, .ref t0), (1, .int x1), (2, .int x2), (3, .int x3)] → W p l e { frames := 1, cells := mc, slots := ms, locals := 30 } s m args below meth c H locs cells slots (MQ below (Zi D cs A hz rz) args s mc ms A) (F0 m 4 ls [])) (h : Hp) (x1 : Int32) (x3 : Int32) (y0 : Int32) (hJ : B_X10_wroteMany_42 N k4 t0 h x1 x3 y0 = some (hz, rz)) (hk0 : h.kd t0 = 13) {H : Heap} {locs : List Loc} {cells slots : Nat} (w : Wo D cs A s h0 h H locs cells slots) {ls : Array Slot} (hl : lv_has ls 4 [(0, .ref t0), (1, .int x1), (3, .int x3)]) : W p l e { frames := 1, cells := mc, slots := ms, locals := 30 } s m args below meth c H locs cells slots (MQ below (Zi D cs A hz rz) args s mc ms A) (F0 m 42 ls [.int y0]) := by
  obtain ⟨hx, hb, hml, hown, hts, -⟩ := id C
  unfold B_X10_wroteMany_42 at hJ
  refine lv_iconst (v := (0 : Int32)) hx hb dX10_wroteMany_42 (by decide) ?_
  exact sb_X10_wroteMany_43 C hz2 N k4 t0 m4 i4 _ _ _ _ _ hJ hk0 w hl
def B_X10_wroteMany_34 (N : Nat) (k4 : Hp → Int32 → Int32 → Int32 → Option (Hp × Int32)) (t0 : Nat) (h : Hp) (x1 : Int32) (x3 : Int32) (y0 : Int32) (y1 : Int32) : Option (Hp × Int32) := if y1 = x3 then (B_X10_wroteMany_43 N k4 t0 h x1 x3 y0 (1 : Int32)) else (B_X10_wroteMany_42 N k4 t0 h x1 x3 y0)
theorem mb_X10_wroteMany_34 (N : Nat) (k4 : Hp → Int32 → Int32 → Int32 → Option (Hp × Int32)) (t0 : Nat) (h : Hp) (x1 : Int32) (x3 : Int32) (y0 : Int32) (y1 : Int32) (m4 : ∀ (h : Hp) (x1 : Int32) (x2 : Int32) (x3 : Int32), k4 h x1 x2 x3 = some (hz, rz) → Mo h hz) (hJ : B_X10_wroteMany_34 N k4 t0 h x1 x3 y0 y1 = some (hz, rz)) : Mo h hz := by
  unfold B_X10_wroteMany_34 at hJ
  by_cases c1 : y1 = x3
  · have hJ := it_pos c1 hJ
    exact mb_X10_wroteMany_43 N k4 t0 _ _ _ _ _ m4 hJ
  · have hJ := it_neg c1 hJ
    exact mb_X10_wroteMany_42 N k4 t0 _ _ _ _ m4 hJ
set_option maxRecDepth 100000 in
set_option maxHeartbeats 4000000 in
theorem sb_X10_wroteMany_34 (C : Cx p s m args meth c cX10_wroteMany 4 (some .int) RX10 D cs A h0.se) (hz2 : hz.nx ≤ h0.nx + mc ∧ hz.su ≤ h0.su + ms) (N : Nat) (k4 : Hp → Int32 → Int32 → Int32 → Option (Hp × Int32)) (t0 : Nat) (m4 : ∀ (h : Hp) (x1 : Int32) (x2 : Int32) (x3 : Int32), k4 h x1 x2 x3 = some (hz, rz) → Mo h hz) (i4 : ∀ (h : Hp) (x1 : Int32) (x2 : Int32) (x3 : Int32) (H : Heap) (locs : List Loc) (cells slots : Nat) (ls : Array Slot), k4 h x1 x2 x3 = some (hz, rz) → h.kd t0 = 13 → Wo D cs A s h0 h H locs cells slots → lv_has ls 4 [(0, .ref t0), (1, .int x1), (2, .int x2), (3, .int x3)] → W p l e { frames := 1, cells := mc, slots := ms, locals := 30 } s m args below meth c H locs cells slots (MQ below (Zi D cs A hz rz) args s mc ms A) (F0 m 4 ls [])) (h : Hp) (x1 : Int32) (x3 : Int32) (y0 : Int32) (y1 : Int32) (hJ : B_X10_wroteMany_34 N k4 t0 h x1 x3 y0 y1 = some (hz, rz)) (hk0 : h.kd t0 = 13) {H : Heap} {locs : List Loc} {cells slots : Nat} (w : Wo D cs A s h0 h H locs cells slots) {ls : Array Slot} (hl : lv_has ls 4 [(0, .ref t0), (1, .int x1), (3, .int x3)]) : W p l e { frames := 1, cells := mc, slots := ms, locals := 30 } s m args below meth c H locs cells slots (MQ below (Zi D cs A hz rz) args s mc ms A) (F0 m 34 ls [.int y1, .int y0]) := by
  obtain ⟨hx, hb, hml, hown, hts, -⟩ := id C
  unfold B_X10_wroteMany_34 at hJ
  refine lv_iload_n hx hb dX10_wroteMany_34 rfl (lv_at hl 2 rfl) ?_
  refine lv_icmp_ne (tgt := 42) hx hb dX10_wroteMany_35 (by decide) (fun c1 => ?_) (fun c1 => ?_)
  · have hJ := it_neg c1 hJ
    exact sb_X10_wroteMany_42 C hz2 N k4 t0 m4 i4 _ _ _ _ hJ hk0 w hl
  · have hJ := it_pos c1 hJ
    refine lv_iconst (v := (1 : Int32)) hx hb dX10_wroteMany_38 (by decide) ?_
    refine lv_goto (tgt := 43) hx hb dX10_wroteMany_39 (by decide) ?_
    exact sb_X10_wroteMany_43 C hz2 N k4 t0 m4 i4 _ _ _ _ _ hJ hk0 w hl
def B_X10_wroteMany_4 (N : Nat) (k4 : Hp → Int32 → Int32 → Int32 → Option (Hp × Int32)) (t0 : Nat) (h : Hp) (x1 : Int32) (x2 : Int32) (x3 : Int32) : Option (Hp × Int32) := if (h.gi 1319 t0) ≤ x3 then (some (h, x2)) else (dr h 30 (h.gr 1314 t0) (fun a3 => ck (¬ (x3 < 0 ∨ h.al a3 ≤ x3.toNatClampNeg)) (if (h.bi a3 x3.toNatClampNeg) = x1 then (dr h 30 (h.gr 1315 t0) (fun a6 => ck (¬ (x3 < 0 ∨ h.al a6 ≤ x3.toNatClampNeg)) ((J_X10_ownOf N t0 h x1 (h.bi a6 x3.toNatClampNeg)).bind (fun z => B_X10_wroteMany_34 N k4 t0 z.1 x1 x3 x2 z.2)))) else (B_X10_wroteMany_42 N k4 t0 h x1 x3 x2))))
theorem mb_X10_wroteMany_4 (N : Nat) (k4 : Hp → Int32 → Int32 → Int32 → Option (Hp × Int32)) (t0 : Nat) (h : Hp) (x1 : Int32) (x2 : Int32) (x3 : Int32) (m4 : ∀ (h : Hp) (x1 : Int32) (x2 : Int32) (x3 : Int32), k4 h x1 x2 x3 = some (hz, rz) → Mo h hz) (hJ : B_X10_wroteMany_4 N k4 t0 h x1 x2 x3 = some (hz, rz)) : Mo h hz := by
  unfold B_X10_wroteMany_4 at hJ
  by_cases c2 : (h.gi 1319 t0) ≤ x3
  · have hJ := it_pos c2 hJ
    obtain ⟨rfl, -⟩ := rs2 hJ
    exact ⟨fun _ _ => rfl, Nat.le_refl _, Nat.le_refl _, rfl, fun _ _ => rfl⟩
  · have hJ := it_neg c2 hJ
    obtain ⟨a3, ea3, -, hJ⟩ := dr_some hJ
    obtain ⟨-, hJ⟩ := ck_some hJ
    by_cases c5 : (h.bi a3 x3.toNatClampNeg) = x1
    · have hJ := it_pos c5 hJ
      obtain ⟨a6, ea6, -, hJ⟩ := dr_some hJ
      obtain ⟨-, hJ⟩ := ck_some hJ
      obtain ⟨⟨h8, r9⟩, e10, hJ⟩ := ob_some hJ
      exact (mo_X10_ownOf N t0 h x1 (h.bi a6 x3.toNatClampNeg) e10).tr (mb_X10_wroteMany_34 N k4 t0 _ _ _ _ _ m4 hJ)
    · have hJ := it_neg c5 hJ
      exact mb_X10_wroteMany_42 N k4 t0 _ _ _ _ m4 hJ
set_option maxRecDepth 100000 in
set_option maxHeartbeats 4000000 in
theorem sb_X10_wroteMany_4 (C : Cx p s m args meth c cX10_wroteMany 4 (some .int) RX10 D cs A h0.se) (hz2 : hz.nx ≤ h0.nx + mc ∧ hz.su ≤ h0.su + ms) (N : Nat) (k4 : Hp → Int32 → Int32 → Int32 → Option (Hp × Int32)) (t0 : Nat) (m4 : ∀ (h : Hp) (x1 : Int32) (x2 : Int32) (x3 : Int32), k4 h x1 x2 x3 = some (hz, rz) → Mo h hz) (i4 : ∀ (h : Hp) (x1 : Int32) (x2 : Int32) (x3 : Int32) (H : Heap) (locs : List Loc) (cells slots : Nat) (ls : Array Slot), k4 h x1 x2 x3 = some (hz, rz) → h.kd t0 = 13 → Wo D cs A s h0 h H locs cells slots → lv_has ls 4 [(0, .ref t0), (1, .int x1), (2, .int x2), (3, .int x3)] → W p l e { frames := 1, cells := mc, slots := ms, locals := 30 } s m args below meth c H locs cells slots (MQ below (Zi D cs A hz rz) args s mc ms A) (F0 m 4 ls [])) (h : Hp) (x1 : Int32) (x2 : Int32) (x3 : Int32) (hJ : B_X10_wroteMany_4 N k4 t0 h x1 x2 x3 = some (hz, rz)) (hk0 : h.kd t0 = 13) {H : Heap} {locs : List Loc} {cells slots : Nat} (w : Wo D cs A s h0 h H locs cells slots) {ls : Array Slot} (hl : lv_has ls 4 [(0, .ref t0), (1, .int x1), (2, .int x2), (3, .int x3)]) : W p l e { frames := 1, cells := mc, slots := ms, locals := 30 } s m args below meth c H locs cells slots (MQ below (Zi D cs A hz rz) args s mc ms A) (F0 m 4 ls []) := by
  obtain ⟨hx, hb, hml, hown, hts, -⟩ := id C
  unfold B_X10_wroteMany_4 at hJ
  refine lv_iload_n hx hb dX10_wroteMany_4 rfl (lv_at hl 3 rfl) ?_
  refine lv_aload_n hx hb dX10_wroteMany_5 rfl (lv_at hl 0 rfl) ?_
  refine fg_1319 C w hk0 tw_6_182 dX10_wroteMany_6 ?_
  refine lv_icmp_ge (tgt := 51) hx hb dX10_wroteMany_9 (by decide) (fun c2 => ?_) (fun c2 => ?_)
  · have hJ := it_pos c2 hJ
    refine lv_iload_n hx hb dX10_wroteMany_51 rfl (lv_at hl 2 rfl) ?_
    obtain ⟨rfl, rfl⟩ := rs2 hJ
    exact jr_iret C w hz2 dX10_wroteMany_52
  · have hJ := it_neg c2 hJ
    refine lv_iload_n hx hb dX10_wroteMany_12 rfl (lv_at hl 2 rfl) ?_
    refine lv_aload_n hx hb dX10_wroteMany_13 rfl (lv_at hl 0 rfl) ?_
    refine fg_1314 C w hk0 tw_6_177 dX10_wroteMany_14 ?_
    refine lv_iload_n hx hb dX10_wroteMany_17 rfl (lv_at hl 3 rfl) ?_
    obtain ⟨a3, ea3, hka3, hJ⟩ := dr_some hJ
    rw [ea3]
    obtain ⟨hi4, hJ⟩ := ck_some hJ
    refine jr_ialdM C w hka3 hi4 dX10_wroteMany_18 ?_
    refine lv_iload_n hx hb dX10_wroteMany_19 rfl (lv_at hl 1 rfl) ?_
    refine lv_icmp_ne (tgt := 42) hx hb dX10_wroteMany_20 (by decide) (fun c5 => ?_) (fun c5 => ?_)
    · have hJ := it_neg c5 hJ
      exact sb_X10_wroteMany_42 C hz2 N k4 t0 m4 i4 _ _ _ _ hJ hk0 w (lv_sub (l' := [(0, .ref t0), (1, .int x1), (3, .int x3)]) hl [0, 1, 3] rfl)
    · have hJ := it_pos c5 hJ
      refine lv_aload_n hx hb dX10_wroteMany_23 rfl (lv_at hl 0 rfl) ?_
      refine lv_iload_n hx hb dX10_wroteMany_24 rfl (lv_at hl 1 rfl) ?_
      refine lv_aload_n hx hb dX10_wroteMany_25 rfl (lv_at hl 0 rfl) ?_
      refine fg_1315 C w hk0 tw_6_178 dX10_wroteMany_26 ?_
      refine lv_iload_n hx hb dX10_wroteMany_29 rfl (lv_at hl 3 rfl) ?_
      obtain ⟨a6, ea6, hka6, hJ⟩ := dr_some hJ
      rw [ea6]
      obtain ⟨hi7, hJ⟩ := ck_some hJ
      refine jr_ialdM C w hka6 hi7 dX10_wroteMany_30 ?_
      obtain ⟨⟨h8, r9⟩, e10, hJ⟩ := ob_some hJ
      refine jc_Vi (As := [.int x1, .int (h.bi a6 x3.toNatClampNeg)]) C w (cc_X10_ownOf N t0 h x1 (h.bi a6 x3.toNatClampNeg) hk0 e10) (mo_X10_ownOf N t0 h x1 (h.bi a6 x3.toNatClampNeg) e10) (mb_X10_wroteMany_34 N k4 t0 _ _ _ _ _ m4 hJ) hz2 hk0 (by decide) rfl (fs := fs13 h t0) rfl rfl ⟨tw_7_186, tw_7_183, tw_7_185, ts_42, tw_1_7⟩ cd_X10_ownOf ⟨by decide, by decide⟩ hl.1 (by first | exact Nat.le_of_ble_eq_true rfl | simp [rf_cat, cat_i, cat_l, cat_r]) rfl dX10_wroteMany_31 (fun H locs w1 => ?_)
      have hk11 := kd_keep w (mo_X10_ownOf N t0 h x1 (h.bi a6 x3.toNatClampNeg) e10) hk0 (by decide)
      have w := w1
      exact sb_X10_wroteMany_34 C hz2 N k4 t0 m4 i4 _ _ _ _ _ hJ hk11 w (lv_sub (l' := [(0, .ref t0), (1, .int x1), (3, .int x3)]) hl [0, 1, 3] rfl)
def L_X10_wroteMany_4 (N : Nat) (t0 : Nat) : Nat → Hp → Int32 → Int32 → Int32 → Option (Hp × Int32)
  | 0 => fun _ _ _ _ => none
  | n + 1 => fun h x1 x2 x3 => B_X10_wroteMany_4 N (L_X10_wroteMany_4 N t0 n) t0 h x1 x2 x3
theorem ml_X10_wroteMany_4 (N : Nat) (t0 : Nat) : ∀ (n : Nat) (h : Hp) (x1 : Int32) (x2 : Int32) (x3 : Int32), L_X10_wroteMany_4 N t0 n h x1 x2 x3 = some (hz, rz) → Mo h hz := by
  intro n
  induction n with
  | zero => intro h x1 x2 x3 hJ; cases hJ
  | succ n ih => intro h x1 x2 x3 hJ; exact mb_X10_wroteMany_4 N (L_X10_wroteMany_4 N t0 n) t0 h x1 x2 x3 ih hJ
theorem sl_X10_wroteMany_4 (C : Cx p s m args meth c cX10_wroteMany 4 (some .int) RX10 D cs A h0.se) (hz2 : hz.nx ≤ h0.nx + mc ∧ hz.su ≤ h0.su + ms) (N : Nat) (t0 : Nat) : ∀ n : Nat, ∀ (h : Hp) (x1 : Int32) (x2 : Int32) (x3 : Int32) (H : Heap) (locs : List Loc) (cells slots : Nat) (ls : Array Slot), L_X10_wroteMany_4 N t0 n h x1 x2 x3 = some (hz, rz) → h.kd t0 = 13 → Wo D cs A s h0 h H locs cells slots → lv_has ls 4 [(0, .ref t0), (1, .int x1), (2, .int x2), (3, .int x3)] → W p l e { frames := 1, cells := mc, slots := ms, locals := 30 } s m args below meth c H locs cells slots (MQ below (Zi D cs A hz rz) args s mc ms A) (F0 m 4 ls []) := by
  intro n
  induction n with
  | zero => intro h x1 x2 x3 H locs cells slots ls hJ; cases hJ
  | succ n ih =>
    intro h x1 x2 x3 H locs cells slots ls hJ hk0 w hl
    exact sb_X10_wroteMany_4 C hz2 N (L_X10_wroteMany_4 N t0 n) t0 (ml_X10_wroteMany_4 N t0 n) ih h x1 x2 x3 hJ hk0 w hl
def B_X10_wroteMany_0 (N : Nat) (t0 : Nat) (h : Hp) (x1 : Int32) : Option (Hp × Int32) := L_X10_wroteMany_4 N t0 N h x1 (0 : Int32) (0 : Int32)
theorem mb_X10_wroteMany_0 (N : Nat) (t0 : Nat) (h : Hp) (x1 : Int32) (hJ : B_X10_wroteMany_0 N t0 h x1 = some (hz, rz)) : Mo h hz := by
  unfold B_X10_wroteMany_0 at hJ
  exact ml_X10_wroteMany_4 N t0 N _ _ _ _ hJ
set_option maxRecDepth 100000 in
set_option maxHeartbeats 4000000 in
theorem sb_X10_wroteMany_0 (C : Cx p s m args meth c cX10_wroteMany 4 (some .int) RX10 D cs A h0.se) (hz2 : hz.nx ≤ h0.nx + mc ∧ hz.su ≤ h0.su + ms) (N : Nat) (t0 : Nat) (h : Hp) (x1 : Int32) (hJ : B_X10_wroteMany_0 N t0 h x1 = some (hz, rz)) (hk0 : h.kd t0 = 13) {H : Heap} {locs : List Loc} {cells slots : Nat} (w : Wo D cs A s h0 h H locs cells slots) {ls : Array Slot} (hl : lv_has ls 4 [(0, .ref t0), (1, .int x1)]) : W p l e { frames := 1, cells := mc, slots := ms, locals := 30 } s m args below meth c H locs cells slots (MQ below (Zi D cs A hz rz) args s mc ms A) (F0 m 0 ls []) := by
  obtain ⟨hx, hb, hml, hown, hts, -⟩ := id C
  unfold B_X10_wroteMany_0 at hJ
  refine lv_iconst (v := (0 : Int32)) hx hb dX10_wroteMany_0 (by decide) ?_
  refine lv_istore_n (i := 2) (lv' := [(2, .int (0 : Int32)), (0, .ref t0), (1, .int x1)]) hx hb dX10_wroteMany_1 rfl hl (by decide) rfl (fun ls hl => ?_)
  refine lv_iconst (v := (0 : Int32)) hx hb dX10_wroteMany_2 (by decide) ?_
  refine lv_istore_n (i := 3) (lv' := [(3, .int (0 : Int32)), (2, .int (0 : Int32)), (0, .ref t0), (1, .int x1)]) hx hb dX10_wroteMany_3 rfl hl (by decide) rfl (fun ls hl => ?_)
  exact sl_X10_wroteMany_4 C hz2 N t0 N _ _ _ _ _ _ _ _ _ hJ hk0 w (lv_sub (l' := [(0, .ref t0), (1, .int x1), (2, .int (0 : Int32)), (3, .int (0 : Int32))]) hl [2, 3, 1, 0] rfl)
def J_X10_wroteMany (N : Nat) (t0 : Nat) (h : Hp) (x1 : Int32) : Option (Hp × Int32) := B_X10_wroteMany_0 N t0 h x1
theorem mo_X10_wroteMany (N : Nat) (t0 : Nat) (h : Hp) (x1 : Int32) (hJ : J_X10_wroteMany N t0 h x1 = some (hz, rz)) : Mo h hz := mb_X10_wroteMany_0 N t0 h x1 hJ
theorem cd_X10_wroteMany : Cd yX10_wroteMany 1 := ⟨by decide +kernel, by decide +kernel, by decide +kernel⟩
theorem cc_X10_wroteMany (N : Nat) (t0 : Nat) (h : Hp) (x1 : Int32) (hk0 : h.kd t0 = 13) (hJ : J_X10_wroteMany N t0 h x1 = some (hz, rz)) : Ci l yX10_wroteMany cX10_wroteMany 4 (some .int) 1 30 D cs h hz [.ref t0, .int x1] rz := by
  intro mc ms g1 g2
  refine je_any (by decide) (by simp [lg_sl, rf_cat, cat_i, cat_l, cat_r]) ?_
  intro p e s m args below meth c C hin2 w ls hl
  have hl : lv_has ls 4 [(0, .ref t0), (1, .int x1)] := hl
  exact sb_X10_wroteMany_0 C ⟨g1, g2⟩ N t0 h x1 hJ hk0 w hl
end G_X10_wroteMany
section G_X10_writes
variable {p : Program} {l : Launch} {e : Env} {s : State} {m : MethodId} {args : Array Value} {below : List Frame} {meth : Method} {c : Code} {D : va_G} {cs : C4} {A : Nat → Prop} {h0 hz : Hp} {mc ms : Nat} {rz : Int32}
def B_X10_writes_119 (N : Nat) (t0 : Nat) (h : Hp) (y0 : Int32) : Option (Hp × Int32) := some (h, y0)
theorem mb_X10_writes_119 (N : Nat) (t0 : Nat) (h : Hp) (y0 : Int32) (hJ : B_X10_writes_119 N t0 h y0 = some (hz, rz)) : Mo h hz := by
  unfold B_X10_writes_119 at hJ
  obtain ⟨rfl, -⟩ := rs2 hJ
  exact ⟨fun _ _ => rfl, Nat.le_refl _, Nat.le_refl _, rfl, fun _ _ => rfl⟩
set_option maxRecDepth 100000 in
set_option maxHeartbeats 4000000 in
theorem sb_X10_writes_119 (C : Cx p s m args meth c cX10_writes 7 (some .int) RX10 D cs A h0.se) (hz2 : hz.nx ≤ h0.nx + mc ∧ hz.su ≤ h0.su + ms) (N : Nat) (t0 : Nat) (h : Hp) (y0 : Int32) (hJ : B_X10_writes_119 N t0 h y0 = some (hz, rz)) (hk0 : h.kd t0 = 13) {H : Heap} {locs : List Loc} {cells slots : Nat} (w : Wo D cs A s h0 h H locs cells slots) {ls : Array Slot} (hl : lv_has ls 7 [(0, .ref t0)]) : W p l e { frames := 2, cells := mc, slots := ms, locals := 60 } s m args below meth c H locs cells slots (MQ below (Zi D cs A hz rz) args s mc ms A) (F0 m 119 ls [.int y0]) := by
  obtain ⟨hx, hb, hml, hown, hts, -⟩ := id C
  unfold B_X10_writes_119 at hJ
  obtain ⟨rfl, rfl⟩ := rs2 hJ
  exact jr_iret C w hz2 dX10_writes_119
def B_X10_writes_104 (N : Nat) (t0 : Nat) (h : Hp) (x1 : Int32) (x3 : Int64) (y0 : Int32) : Option (Hp × Int32) := dr h 31 (h.gr 1334 t0) (fun a1 => ck (¬ (y0 < 0 ∨ h.al a1 ≤ y0.toNatClampNeg)) ((J_X10_wroteMany N t0 (h.sbw a1 y0.toNatClampNeg x3) x1).bind (fun z => B_X10_writes_119 N t0 z.1 z.2)))
theorem mb_X10_writes_104 (N : Nat) (t0 : Nat) (h : Hp) (x1 : Int32) (x3 : Int64) (y0 : Int32) (hJ : B_X10_writes_104 N t0 h x1 x3 y0 = some (hz, rz)) : Mo h hz := by
  unfold B_X10_writes_104 at hJ
  obtain ⟨a1, ea1, -, hJ⟩ := dr_some hJ
  obtain ⟨-, hJ⟩ := ck_some hJ
  obtain ⟨⟨h3, r4⟩, e5, hJ⟩ := ob_some hJ
  exact (Mo.tr (show Mo h (h.sbw a1 y0.toNatClampNeg x3) from ⟨fun _ _ => rfl, Nat.le_refl _, Nat.le_refl _, rfl, fun _ _ => rfl⟩) ((mo_X10_wroteMany N t0 (h.sbw a1 y0.toNatClampNeg x3) x1 e5).tr (mb_X10_writes_119 N t0 _ _ hJ)))
set_option maxRecDepth 100000 in
set_option maxHeartbeats 4000000 in
theorem sb_X10_writes_104 (C : Cx p s m args meth c cX10_writes 7 (some .int) RX10 D cs A h0.se) (hz2 : hz.nx ≤ h0.nx + mc ∧ hz.su ≤ h0.su + ms) (N : Nat) (t0 : Nat) (h : Hp) (x1 : Int32) (x3 : Int64) (y0 : Int32) (hJ : B_X10_writes_104 N t0 h x1 x3 y0 = some (hz, rz)) (hk0 : h.kd t0 = 13) {H : Heap} {locs : List Loc} {cells slots : Nat} (w : Wo D cs A s h0 h H locs cells slots) {ls : Array Slot} (hl : lv_has ls 7 [(0, .ref t0), (1, .int x1), (3, .long x3)]) : W p l e { frames := 2, cells := mc, slots := ms, locals := 60 } s m args below meth c H locs cells slots (MQ below (Zi D cs A hz rz) args s mc ms A) (F0 m 104 ls [.int y0]) := by
  obtain ⟨hx, hb, hml, hown, hts, -⟩ := id C
  unfold B_X10_writes_104 at hJ
  refine lv_istore (i := 6) (lv' := [(6, .int y0), (0, .ref t0), (1, .int x1), (3, .long x3)]) hx hb dX10_writes_104 hl (by decide) rfl (fun ls hl => ?_)
  refine lv_aload_n hx hb dX10_writes_106 rfl (lv_at hl 1 rfl) ?_
  refine fg_1334 C w hk0 tw_6_197 dX10_writes_107 ?_
  refine lv_iload hx hb dX10_writes_110 (lv_at hl 0 rfl) ?_
  refine lv_lload_n hx hb dX10_writes_112 rfl (lv_at hl 3 rfl) ?_
  obtain ⟨a1, ea1, hka1, hJ⟩ := dr_some hJ
  rw [ea1]
  obtain ⟨hi2, hJ⟩ := ck_some hJ
  refine jr_lastM C w hka1 hi2 dX10_writes_113 (fun H locs w => ?_)
  refine lv_aload_n hx hb dX10_writes_114 rfl (lv_at hl 1 rfl) ?_
  refine lv_iload_n hx hb dX10_writes_115 rfl (lv_at hl 2 rfl) ?_
  obtain ⟨⟨h3, r4⟩, e5, hJ⟩ := ob_some hJ
  refine jc_Vi (As := [.int x1]) C w (cc_X10_wroteMany N t0 (h.sbw a1 y0.toNatClampNeg x3) x1 hk0 e5) (mo_X10_wroteMany N t0 (h.sbw a1 y0.toNatClampNeg x3) x1 e5) (mb_X10_writes_119 N t0 _ _ hJ) hz2 hk0 (by decide) rfl (fs := fs13 (h.sbw a1 y0.toNatClampNeg x3) t0) rfl rfl ⟨tw_8_39, tw_8_36, tw_8_38, ts_56, tw_1_7⟩ cd_X10_wroteMany ⟨by decide, by decide⟩ hl.1 (by first | exact Nat.le_of_ble_eq_true rfl | simp [rf_cat, cat_i, cat_l, cat_r]) rfl dX10_writes_116 (fun H locs w1 => ?_)
  have hk6 := kd_keep w (mo_X10_wroteMany N t0 (h.sbw a1 y0.toNatClampNeg x3) x1 e5) hk0 (by decide)
  have w := w1
  exact sb_X10_writes_119 C hz2 N t0 _ _ hJ hk6 w (lv_sub (l' := [(0, .ref t0)]) hl [1] rfl)
def B_X10_writes_99 (N : Nat) (t0 : Nat) (h : Hp) (x1 : Int32) (x2 : Int32) (x3 : Int64) (y0 : Option Nat) (y1 : Int32) : Option (Hp × Int32) := dr h 13 y0 (fun a7 => (J_X10_log N a7 h y1 x1 x2).bind (fun z => B_X10_writes_104 N t0 z.1 x1 x3 z.2))
theorem mb_X10_writes_99 (N : Nat) (t0 : Nat) (h : Hp) (x1 : Int32) (x2 : Int32) (x3 : Int64) (y0 : Option Nat) (y1 : Int32) (hJ : B_X10_writes_99 N t0 h x1 x2 x3 y0 y1 = some (hz, rz)) : Mo h hz := by
  unfold B_X10_writes_99 at hJ
  obtain ⟨a7, ea7, -, hJ⟩ := dr_some hJ
  obtain ⟨⟨h8, r9⟩, e10, hJ⟩ := ob_some hJ
  exact (mo_X10_log N a7 h y1 x1 x2 e10).tr (mb_X10_writes_104 N t0 _ _ _ _ hJ)
set_option maxRecDepth 100000 in
set_option maxHeartbeats 4000000 in
theorem sb_X10_writes_99 (C : Cx p s m args meth c cX10_writes 7 (some .int) RX10 D cs A h0.se) (hz2 : hz.nx ≤ h0.nx + mc ∧ hz.su ≤ h0.su + ms) (N : Nat) (t0 : Nat) (h : Hp) (x1 : Int32) (x2 : Int32) (x3 : Int64) (y0 : Option Nat) (y1 : Int32) (hJ : B_X10_writes_99 N t0 h x1 x2 x3 y0 y1 = some (hz, rz)) (hk0 : h.kd t0 = 13) {H : Heap} {locs : List Loc} {cells slots : Nat} (w : Wo D cs A s h0 h H locs cells slots) {ls : Array Slot} (hl : lv_has ls 7 [(0, .ref t0), (1, .int x1), (2, .int x2), (3, .long x3)]) : W p l e { frames := 2, cells := mc, slots := ms, locals := 60 } s m args below meth c H locs cells slots (MQ below (Zi D cs A hz rz) args s mc ms A) (F0 m 99 ls [.int y1, va_rf y0]) := by
  obtain ⟨hx, hb, hml, hown, hts, -⟩ := id C
  unfold B_X10_writes_99 at hJ
  refine lv_iload_n hx hb dX10_writes_99 rfl (lv_at hl 1 rfl) ?_
  refine lv_iload_n hx hb dX10_writes_100 rfl (lv_at hl 2 rfl) ?_
  obtain ⟨a7, ea7, hka7, hJ⟩ := dr_some hJ
  rw [ea7]
  obtain ⟨⟨h8, r9⟩, e10, hJ⟩ := ob_some hJ
  refine jc_Vi (As := [.int y1, .int x1, .int x2]) C w (cc_X10_log N a7 h y1 x1 x2 hka7 e10) (mo_X10_log N a7 h y1 x1 x2 e10) (mb_X10_writes_104 N t0 _ _ _ _ hJ) hz2 hka7 (by decide) rfl (fs := fs13 h a7) rfl rfl ⟨tw_7_222, tw_7_219, tw_7_221, ts_49, tw_1_7⟩ cd_X10_log ⟨by decide, by decide⟩ hl.1 (by first | exact Nat.le_of_ble_eq_true rfl | simp [rf_cat, cat_i, cat_l, cat_r]) rfl dX10_writes_101 (fun H locs w1 => ?_)
  have hk11 := kd_keep w (mo_X10_log N a7 h y1 x1 x2 e10) hk0 (by decide)
  have w := w1
  exact sb_X10_writes_104 C hz2 N t0 _ _ _ _ hJ hk11 w (lv_sub (l' := [(0, .ref t0), (1, .int x1), (3, .long x3)]) hl [0, 1, 3] rfl)
def B_X10_writes_66 (N : Nat) (t0 : Nat) (h : Hp) (x1 : Int32) (x2 : Int32) (x3 : Int64) (x5 : Int32) : Option (Hp × Int32) := dr h 32 (h.gr 1317 t0) (fun a12 => ck (¬ (h.gi 1319 t0 < 0 ∨ h.al a12 ≤ (h.gi 1319 t0).toNatClampNeg)) (ck (x5 = 0 ∨ x5 = 1) (if x5 = 0 then (B_X10_writes_99 N t0 ((h.sbi a12 (h.gi 1319 t0).toNatClampNeg x5).sgi 1319 t0 (((h.sbi a12 (h.gi 1319 t0).toNatClampNeg x5).gi 1319 t0) + (1 : Int32))) x1 x2 x3 (some t0) (6 : Int32)) else (B_X10_writes_99 N t0 ((h.sbi a12 (h.gi 1319 t0).toNatClampNeg x5).sgi 1319 t0 (((h.sbi a12 (h.gi 1319 t0).toNatClampNeg x5).gi 1319 t0) + (1 : Int32))) x1 x2 x3 (some t0) (5 : Int32)))))
theorem mb_X10_writes_66 (N : Nat) (t0 : Nat) (h : Hp) (x1 : Int32) (x2 : Int32) (x3 : Int64) (x5 : Int32) (hJ : B_X10_writes_66 N t0 h x1 x2 x3 x5 = some (hz, rz)) : Mo h hz := by
  unfold B_X10_writes_66 at hJ
  obtain ⟨a12, ea12, -, hJ⟩ := dr_some hJ
  obtain ⟨-, hJ⟩ := ck_some hJ
  obtain ⟨-, hJ⟩ := ck_some hJ
  by_cases c15 : x5 = 0
  · have hJ := it_pos c15 hJ
    exact (Mo.tr (show Mo h ((h.sbi a12 (h.gi 1319 t0).toNatClampNeg x5).sgi 1319 t0 (((h.sbi a12 (h.gi 1319 t0).toNatClampNeg x5).gi 1319 t0) + (1 : Int32))) from ⟨fun _ _ => rfl, Nat.le_refl _, Nat.le_refl _, rfl, fun _ _ => rfl⟩) (mb_X10_writes_99 N t0 _ _ _ _ _ _ hJ))
  · have hJ := it_neg c15 hJ
    exact (Mo.tr (show Mo h ((h.sbi a12 (h.gi 1319 t0).toNatClampNeg x5).sgi 1319 t0 (((h.sbi a12 (h.gi 1319 t0).toNatClampNeg x5).gi 1319 t0) + (1 : Int32))) from ⟨fun _ _ => rfl, Nat.le_refl _, Nat.le_refl _, rfl, fun _ _ => rfl⟩) (mb_X10_writes_99 N t0 _ _ _ _ _ _ hJ))
set_option maxRecDepth 100000 in
set_option maxHeartbeats 4000000 in
theorem sb_X10_writes_66 (C : Cx p s m args meth c cX10_writes 7 (some .int) RX10 D cs A h0.se) (hz2 : hz.nx ≤ h0.nx + mc ∧ hz.su ≤ h0.su + ms) (N : Nat) (t0 : Nat) (h : Hp) (x1 : Int32) (x2 : Int32) (x3 : Int64) (x5 : Int32) (hJ : B_X10_writes_66 N t0 h x1 x2 x3 x5 = some (hz, rz)) (hk0 : h.kd t0 = 13) {H : Heap} {locs : List Loc} {cells slots : Nat} (w : Wo D cs A s h0 h H locs cells slots) {ls : Array Slot} (hl : lv_has ls 7 [(0, .ref t0), (1, .int x1), (2, .int x2), (3, .long x3), (5, .int x5)]) : W p l e { frames := 2, cells := mc, slots := ms, locals := 60 } s m args below meth c H locs cells slots (MQ below (Zi D cs A hz rz) args s mc ms A) (F0 m 66 ls []) := by
  obtain ⟨hx, hb, hml, hown, hts, -⟩ := id C
  unfold B_X10_writes_66 at hJ
  refine lv_aload_n hx hb dX10_writes_66 rfl (lv_at hl 0 rfl) ?_
  refine fg_1317 C w hk0 tw_6_180 dX10_writes_67 ?_
  refine lv_aload_n hx hb dX10_writes_70 rfl (lv_at hl 0 rfl) ?_
  refine fg_1319 C w hk0 tw_6_182 dX10_writes_71 ?_
  refine lv_iload hx hb dX10_writes_74 (lv_at hl 4 rfl) ?_
  obtain ⟨a12, ea12, hka12, hJ⟩ := dr_some hJ
  rw [ea12]
  obtain ⟨hi13, hJ⟩ := ck_some hJ
  obtain ⟨hzo14, hJ⟩ := ck_some hJ
  refine jr_zastM C w hka12 hi13 hzo14 dX10_writes_76 (fun H locs w => ?_)
  refine lv_aload_n hx hb dX10_writes_77 rfl (lv_at hl 0 rfl) ?_
  refine lv_dup hx hb dX10_writes_78 rfl ?_
  refine fg_1319 C w hk0 tw_6_182 dX10_writes_79 ?_
  refine lv_iconst (v := (1 : Int32)) hx hb dX10_writes_82 (by decide) ?_
  refine lv_iadd hx hb dX10_writes_83 ?_
  refine fp_1319 (x := ((h.sbi a12 (h.gi 1319 t0).toNatClampNeg x5).gi 1319 t0) + (1 : Int32)) C w hk0 tw_6_182 dX10_writes_84 (fun H locs w => ?_)
  refine lv_aload_n hx hb dX10_writes_87 rfl (lv_at hl 0 rfl) ?_
  refine lv_iload hx hb dX10_writes_88 (lv_at hl 4 rfl) ?_
  refine lv_if_eq (tgt := 97) hx hb dX10_writes_90 (by decide) (fun c15 => ?_) (fun c15 => ?_)
  · have hJ := it_pos c15 hJ
    refine lv_bipush (v := (6 : Int32)) hx hb dX10_writes_97 (by decide) ?_
    exact sb_X10_writes_99 C hz2 N t0 _ _ _ _ _ _ hJ hk0 w (lv_sub (l' := [(0, .ref t0), (1, .int x1), (2, .int x2), (3, .long x3)]) hl [0, 1, 2, 3] rfl)
  · have hJ := it_neg c15 hJ
    refine lv_iconst (v := (5 : Int32)) hx hb dX10_writes_93 (by decide) ?_
    refine lv_goto (tgt := 99) hx hb dX10_writes_94 (by decide) ?_
    exact sb_X10_writes_99 C hz2 N t0 _ _ _ _ _ _ hJ hk0 w (lv_sub (l' := [(0, .ref t0), (1, .int x1), (2, .int x2), (3, .long x3)]) hl [0, 1, 2, 3] rfl)
def B_X10_writes_15 (N : Nat) (t0 : Nat) (h : Hp) (x1 : Int32) (x2 : Int32) (x3 : Int64) (x5 : Int32) (y0 : Int32) : Option (Hp × Int32) := if y0 = 0 then (dr h 32 (h.gr 1302 t0) (fun a17 => ck (¬ (x1 < 0 ∨ h.al a17 ≤ x1.toNatClampNeg)) (if (h.bi a17 x1.toNatClampNeg) = 0 then (dr h 30 (h.gr 1314 t0) (fun a20 => ck (¬ (h.gi 1319 t0 < 0 ∨ h.al a20 ≤ (h.gi 1319 t0).toNatClampNeg)) (dr (h.sbi a20 (h.gi 1319 t0).toNatClampNeg x1) 30 ((h.sbi a20 (h.gi 1319 t0).toNatClampNeg x1).gr 1315 t0) (fun a22 => ck (¬ ((h.sbi a20 (h.gi 1319 t0).toNatClampNeg x1).gi 1319 t0 < 0 ∨ (h.sbi a20 (h.gi 1319 t0).toNatClampNeg x1).al a22 ≤ ((h.sbi a20 (h.gi 1319 t0).toNatClampNeg x1).gi 1319 t0).toNatClampNeg)) (dr ((h.sbi a20 (h.gi 1319 t0).toNatClampNeg x1).sbi a22 ((h.sbi a20 (h.gi 1319 t0).toNatClampNeg x1).gi 1319 t0).toNatClampNeg x2) 31 (((h.sbi a20 (h.gi 1319 t0).toNatClampNeg x1).sbi a22 ((h.sbi a20 (h.gi 1319 t0).toNatClampNeg x1).gi 1319 t0).toNatClampNeg x2).gr 1316 t0) (fun a24 => ck (¬ (((h.sbi a20 (h.gi 1319 t0).toNatClampNeg x1).sbi a22 ((h.sbi a20 (h.gi 1319 t0).toNatClampNeg x1).gi 1319 t0).toNatClampNeg x2).gi 1319 t0 < 0 ∨ ((h.sbi a20 (h.gi 1319 t0).toNatClampNeg x1).sbi a22 ((h.sbi a20 (h.gi 1319 t0).toNatClampNeg x1).gi 1319 t0).toNatClampNeg x2).al a24 ≤ (((h.sbi a20 (h.gi 1319 t0).toNatClampNeg x1).sbi a22 ((h.sbi a20 (h.gi 1319 t0).toNatClampNeg x1).gi 1319 t0).toNatClampNeg x2).gi 1319 t0).toNatClampNeg)) (B_X10_writes_66 N t0 (((h.sbi a20 (h.gi 1319 t0).toNatClampNeg x1).sbi a22 ((h.sbi a20 (h.gi 1319 t0).toNatClampNeg x1).gi 1319 t0).toNatClampNeg x2).sbw a24 (((h.sbi a20 (h.gi 1319 t0).toNatClampNeg x1).sbi a22 ((h.sbi a20 (h.gi 1319 t0).toNatClampNeg x1).gi 1319 t0).toNatClampNeg x2).gi 1319 t0).toNatClampNeg x3) x1 x2 x3 x5))))))) else (some (h.sgi 1300 t0 (2 : Int32), (0 : Int32)))))) else (some (h, (0 : Int32)))
theorem mb_X10_writes_15 (N : Nat) (t0 : Nat) (h : Hp) (x1 : Int32) (x2 : Int32) (x3 : Int64) (x5 : Int32) (y0 : Int32) (hJ : B_X10_writes_15 N t0 h x1 x2 x3 x5 y0 = some (hz, rz)) : Mo h hz := by
  unfold B_X10_writes_15 at hJ
  by_cases c16 : y0 = 0
  · have hJ := it_pos c16 hJ
    obtain ⟨a17, ea17, -, hJ⟩ := dr_some hJ
    obtain ⟨-, hJ⟩ := ck_some hJ
    by_cases c19 : (h.bi a17 x1.toNatClampNeg) = 0
    · have hJ := it_pos c19 hJ
      obtain ⟨a20, ea20, -, hJ⟩ := dr_some hJ
      obtain ⟨-, hJ⟩ := ck_some hJ
      obtain ⟨a22, ea22, -, hJ⟩ := dr_some hJ
      obtain ⟨-, hJ⟩ := ck_some hJ
      obtain ⟨a24, ea24, -, hJ⟩ := dr_some hJ
      obtain ⟨-, hJ⟩ := ck_some hJ
      exact (Mo.tr (show Mo h (((h.sbi a20 (h.gi 1319 t0).toNatClampNeg x1).sbi a22 ((h.sbi a20 (h.gi 1319 t0).toNatClampNeg x1).gi 1319 t0).toNatClampNeg x2).sbw a24 (((h.sbi a20 (h.gi 1319 t0).toNatClampNeg x1).sbi a22 ((h.sbi a20 (h.gi 1319 t0).toNatClampNeg x1).gi 1319 t0).toNatClampNeg x2).gi 1319 t0).toNatClampNeg x3) from ⟨fun _ _ => rfl, Nat.le_refl _, Nat.le_refl _, rfl, fun _ _ => rfl⟩) (mb_X10_writes_66 N t0 _ _ _ _ _ hJ))
    · have hJ := it_neg c19 hJ
      obtain ⟨rfl, -⟩ := rs2 hJ
      exact ⟨fun _ _ => rfl, Nat.le_refl _, Nat.le_refl _, rfl, fun _ _ => rfl⟩
  · have hJ := it_neg c16 hJ
    obtain ⟨rfl, -⟩ := rs2 hJ
    exact ⟨fun _ _ => rfl, Nat.le_refl _, Nat.le_refl _, rfl, fun _ _ => rfl⟩
set_option maxRecDepth 100000 in
set_option maxHeartbeats 4000000 in
theorem sb_X10_writes_15 (C : Cx p s m args meth c cX10_writes 7 (some .int) RX10 D cs A h0.se) (hz2 : hz.nx ≤ h0.nx + mc ∧ hz.su ≤ h0.su + ms) (N : Nat) (t0 : Nat) (h : Hp) (x1 : Int32) (x2 : Int32) (x3 : Int64) (x5 : Int32) (y0 : Int32) (hJ : B_X10_writes_15 N t0 h x1 x2 x3 x5 y0 = some (hz, rz)) (hk0 : h.kd t0 = 13) {H : Heap} {locs : List Loc} {cells slots : Nat} (w : Wo D cs A s h0 h H locs cells slots) {ls : Array Slot} (hl : lv_has ls 7 [(0, .ref t0), (1, .int x1), (2, .int x2), (3, .long x3), (5, .int x5)]) : W p l e { frames := 2, cells := mc, slots := ms, locals := 60 } s m args below meth c H locs cells slots (MQ below (Zi D cs A hz rz) args s mc ms A) (F0 m 15 ls [.int y0]) := by
  obtain ⟨hx, hb, hml, hown, hts, -⟩ := id C
  unfold B_X10_writes_15 at hJ
  refine lv_if_eq (tgt := 20) hx hb dX10_writes_15 (by decide) (fun c16 => ?_) (fun c16 => ?_)
  · have hJ := it_pos c16 hJ
    refine lv_aload_n hx hb dX10_writes_20 rfl (lv_at hl 0 rfl) ?_
    refine fg_1302 C w hk0 tw_6_165 dX10_writes_21 ?_
    refine lv_iload_n hx hb dX10_writes_24 rfl (lv_at hl 1 rfl) ?_
    obtain ⟨a17, ea17, hka17, hJ⟩ := dr_some hJ
    rw [ea17]
    obtain ⟨hi18, hJ⟩ := ck_some hJ
    refine jr_zaldM C w hka17 hi18 dX10_writes_25 ?_
    refine lv_if_eq (tgt := 36) hx hb dX10_writes_26 (by decide) (fun c19 => ?_) (fun c19 => ?_)
    · have hJ := it_pos c19 hJ
      refine lv_aload_n hx hb dX10_writes_36 rfl (lv_at hl 0 rfl) ?_
      refine fg_1314 C w hk0 tw_6_177 dX10_writes_37 ?_
      refine lv_aload_n hx hb dX10_writes_40 rfl (lv_at hl 0 rfl) ?_
      refine fg_1319 C w hk0 tw_6_182 dX10_writes_41 ?_
      refine lv_iload_n hx hb dX10_writes_44 rfl (lv_at hl 1 rfl) ?_
      obtain ⟨a20, ea20, hka20, hJ⟩ := dr_some hJ
      rw [ea20]
      obtain ⟨hi21, hJ⟩ := ck_some hJ
      refine jr_iastM C w hka20 hi21 dX10_writes_45 (fun H locs w => ?_)
      refine lv_aload_n hx hb dX10_writes_46 rfl (lv_at hl 0 rfl) ?_
      refine fg_1315 C w hk0 tw_6_178 dX10_writes_47 ?_
      refine lv_aload_n hx hb dX10_writes_50 rfl (lv_at hl 0 rfl) ?_
      refine fg_1319 C w hk0 tw_6_182 dX10_writes_51 ?_
      refine lv_iload_n hx hb dX10_writes_54 rfl (lv_at hl 2 rfl) ?_
      obtain ⟨a22, ea22, hka22, hJ⟩ := dr_some hJ
      rw [ea22]
      obtain ⟨hi23, hJ⟩ := ck_some hJ
      refine jr_iastM C w hka22 hi23 dX10_writes_55 (fun H locs w => ?_)
      refine lv_aload_n hx hb dX10_writes_56 rfl (lv_at hl 0 rfl) ?_
      refine fg_1316 C w hk0 tw_6_179 dX10_writes_57 ?_
      refine lv_aload_n hx hb dX10_writes_60 rfl (lv_at hl 0 rfl) ?_
      refine fg_1319 C w hk0 tw_6_182 dX10_writes_61 ?_
      refine lv_lload_n hx hb dX10_writes_64 rfl (lv_at hl 3 rfl) ?_
      obtain ⟨a24, ea24, hka24, hJ⟩ := dr_some hJ
      rw [ea24]
      obtain ⟨hi25, hJ⟩ := ck_some hJ
      refine jr_lastM C w hka24 hi25 dX10_writes_65 (fun H locs w => ?_)
      exact sb_X10_writes_66 C hz2 N t0 _ _ _ _ _ hJ hk0 w hl
    · have hJ := it_neg c19 hJ
      refine lv_aload_n hx hb dX10_writes_29 rfl (lv_at hl 0 rfl) ?_
      refine lv_iconst (v := (2 : Int32)) hx hb dX10_writes_30 (by decide) ?_
      refine fp_1300 (x := (2 : Int32)) C w hk0 tw_6_163 dX10_writes_31 (fun H locs w => ?_)
      refine lv_iconst (v := (0 : Int32)) hx hb dX10_writes_34 (by decide) ?_
      obtain ⟨rfl, rfl⟩ := rs2 hJ
      exact jr_iret C w hz2 dX10_writes_35
  · have hJ := it_neg c16 hJ
    refine lv_iconst (v := (0 : Int32)) hx hb dX10_writes_18 (by decide) ?_
    obtain ⟨rfl, rfl⟩ := rs2 hJ
    exact jr_iret C w hz2 dX10_writes_19
def B_X10_writes_0 (N : Nat) (t0 : Nat) (h : Hp) (x1 : Int32) (x2 : Int32) (x3 : Int64) (x5 : Int32) : Option (Hp × Int32) := (J_X10_isIdle N t0 (h.sgi 1313 t0 ((h.gi 1313 t0) + (1 : Int32))) x1).bind (fun z => B_X10_writes_15 N t0 z.1 x1 x2 x3 x5 z.2)
theorem mb_X10_writes_0 (N : Nat) (t0 : Nat) (h : Hp) (x1 : Int32) (x2 : Int32) (x3 : Int64) (x5 : Int32) (hJ : B_X10_writes_0 N t0 h x1 x2 x3 x5 = some (hz, rz)) : Mo h hz := by
  unfold B_X10_writes_0 at hJ
  obtain ⟨⟨h26, r27⟩, e28, hJ⟩ := ob_some hJ
  exact (Mo.tr (show Mo h (h.sgi 1313 t0 ((h.gi 1313 t0) + (1 : Int32))) from ⟨fun _ _ => rfl, Nat.le_refl _, Nat.le_refl _, rfl, fun _ _ => rfl⟩) ((mo_X10_isIdle N t0 (h.sgi 1313 t0 ((h.gi 1313 t0) + (1 : Int32))) x1 e28).tr (mb_X10_writes_15 N t0 _ _ _ _ _ _ hJ)))
set_option maxRecDepth 100000 in
set_option maxHeartbeats 4000000 in
theorem sb_X10_writes_0 (C : Cx p s m args meth c cX10_writes 7 (some .int) RX10 D cs A h0.se) (hz2 : hz.nx ≤ h0.nx + mc ∧ hz.su ≤ h0.su + ms) (N : Nat) (t0 : Nat) (h : Hp) (x1 : Int32) (x2 : Int32) (x3 : Int64) (x5 : Int32) (hJ : B_X10_writes_0 N t0 h x1 x2 x3 x5 = some (hz, rz)) (hk0 : h.kd t0 = 13) {H : Heap} {locs : List Loc} {cells slots : Nat} (w : Wo D cs A s h0 h H locs cells slots) {ls : Array Slot} (hl : lv_has ls 7 [(0, .ref t0), (1, .int x1), (2, .int x2), (3, .long x3), (5, .int x5)]) : W p l e { frames := 2, cells := mc, slots := ms, locals := 60 } s m args below meth c H locs cells slots (MQ below (Zi D cs A hz rz) args s mc ms A) (F0 m 0 ls []) := by
  obtain ⟨hx, hb, hml, hown, hts, -⟩ := id C
  unfold B_X10_writes_0 at hJ
  refine lv_aload_n hx hb dX10_writes_0 rfl (lv_at hl 0 rfl) ?_
  refine lv_dup hx hb dX10_writes_1 rfl ?_
  refine fg_1313 C w hk0 tw_6_176 dX10_writes_2 ?_
  refine lv_iconst (v := (1 : Int32)) hx hb dX10_writes_5 (by decide) ?_
  refine lv_iadd hx hb dX10_writes_6 ?_
  refine fp_1313 (x := (h.gi 1313 t0) + (1 : Int32)) C w hk0 tw_6_176 dX10_writes_7 (fun H locs w => ?_)
  refine lv_aload_n hx hb dX10_writes_10 rfl (lv_at hl 0 rfl) ?_
  refine lv_iload_n hx hb dX10_writes_11 rfl (lv_at hl 1 rfl) ?_
  obtain ⟨⟨h26, r27⟩, e28, hJ⟩ := ob_some hJ
  refine jc_Vi (As := [.int x1]) C w (cc_X10_isIdle N t0 (h.sgi 1313 t0 ((h.gi 1313 t0) + (1 : Int32))) x1 hk0 e28) (mo_X10_isIdle N t0 (h.sgi 1313 t0 ((h.gi 1313 t0) + (1 : Int32))) x1 e28) (mb_X10_writes_15 N t0 _ _ _ _ _ _ hJ) hz2 hk0 (by decide) rfl (fs := fs13 (h.sgi 1313 t0 ((h.gi 1313 t0) + (1 : Int32))) t0) rfl rfl ⟨tw_7_174, tw_7_171, tw_7_173, ts_39, tw_1_7⟩ cd_X10_isIdle ⟨by decide, by decide⟩ hl.1 (by first | exact Nat.le_of_ble_eq_true rfl | simp [rf_cat, cat_i, cat_l, cat_r]) rfl dX10_writes_12 (fun H locs w1 => ?_)
  have hk29 := kd_keep w (mo_X10_isIdle N t0 (h.sgi 1313 t0 ((h.gi 1313 t0) + (1 : Int32))) x1 e28) hk0 (by decide)
  have w := w1
  exact sb_X10_writes_15 C hz2 N t0 _ _ _ _ _ _ hJ hk29 w hl
def J_X10_writes (N : Nat) (t0 : Nat) (h : Hp) (x1 : Int32) (x2 : Int32) (x3 : Int64) (x5 : Int32) : Option (Hp × Int32) := B_X10_writes_0 N t0 h x1 x2 x3 x5
theorem mo_X10_writes (N : Nat) (t0 : Nat) (h : Hp) (x1 : Int32) (x2 : Int32) (x3 : Int64) (x5 : Int32) (hJ : J_X10_writes N t0 h x1 x2 x3 x5 = some (hz, rz)) : Mo h hz := mb_X10_writes_0 N t0 h x1 x2 x3 x5 hJ
theorem cd_X10_writes : Cd yX10_writes 4 := ⟨by decide +kernel, by decide +kernel, by decide +kernel⟩
theorem cc_X10_writes (N : Nat) (t0 : Nat) (h : Hp) (x1 : Int32) (x2 : Int32) (x3 : Int64) (x5 : Int32) (hk0 : h.kd t0 = 13) (hJ : J_X10_writes N t0 h x1 x2 x3 x5 = some (hz, rz)) : Ci l yX10_writes cX10_writes 7 (some .int) 2 60 D cs h hz [.ref t0, .int x1, .int x2, .long x3, .int x5] rz := by
  intro mc ms g1 g2
  refine je_any (by decide) (by simp [lg_sl, rf_cat, cat_i, cat_l, cat_r]) ?_
  intro p e s m args below meth c C hin2 w ls hl
  have hl : lv_has ls 7 [(0, .ref t0), (1, .int x1), (2, .int x2), (3, .long x3), (5, .int x5)] := hl
  exact sb_X10_writes_0 C ⟨g1, g2⟩ N t0 h x1 x2 x3 x5 hJ hk0 w hl
end G_X10_writes
section G_X10_write
variable {p : Program} {l : Launch} {e : Env} {s : State} {m : MethodId} {args : Array Value} {below : List Frame} {meth : Method} {c : Code} {D : va_G} {cs : C4} {A : Nat → Prop} {h0 hz : Hp} {mc ms : Nat} {rz : Int32}
def B_X10_write_8 (N : Nat) (t0 : Nat) (h : Hp) (y0 : Int32) : Option (Hp × Int32) := some (h, y0)
theorem mb_X10_write_8 (N : Nat) (t0 : Nat) (h : Hp) (y0 : Int32) (hJ : B_X10_write_8 N t0 h y0 = some (hz, rz)) : Mo h hz := by
  unfold B_X10_write_8 at hJ
  obtain ⟨rfl, -⟩ := rs2 hJ
  exact ⟨fun _ _ => rfl, Nat.le_refl _, Nat.le_refl _, rfl, fun _ _ => rfl⟩
set_option maxRecDepth 100000 in
set_option maxHeartbeats 4000000 in
theorem sb_X10_write_8 (C : Cx p s m args meth c cX10_write 5 (some .int) RX10 D cs A h0.se) (hz2 : hz.nx ≤ h0.nx + mc ∧ hz.su ≤ h0.su + ms) (N : Nat) (t0 : Nat) (h : Hp) (y0 : Int32) (hJ : B_X10_write_8 N t0 h y0 = some (hz, rz)) (hk0 : h.kd t0 = 13) {H : Heap} {locs : List Loc} {cells slots : Nat} (w : Wo D cs A s h0 h H locs cells slots) {ls : Array Slot} (hl : lv_has ls 5 [(0, .ref t0)]) : W p l e { frames := 3, cells := mc, slots := ms, locals := 90 } s m args below meth c H locs cells slots (MQ below (Zi D cs A hz rz) args s mc ms A) (F0 m 8 ls [.int y0]) := by
  obtain ⟨hx, hb, hml, hown, hts, -⟩ := id C
  unfold B_X10_write_8 at hJ
  obtain ⟨rfl, rfl⟩ := rs2 hJ
  exact jr_iret C w hz2 dX10_write_8
def B_X10_write_0 (N : Nat) (t0 : Nat) (h : Hp) (x1 : Int32) (x2 : Int32) (x3 : Int64) : Option (Hp × Int32) := (J_X10_writes N t0 h x1 x2 x3 (1 : Int32)).bind (fun z => B_X10_write_8 N t0 z.1 z.2)
theorem mb_X10_write_0 (N : Nat) (t0 : Nat) (h : Hp) (x1 : Int32) (x2 : Int32) (x3 : Int64) (hJ : B_X10_write_0 N t0 h x1 x2 x3 = some (hz, rz)) : Mo h hz := by
  unfold B_X10_write_0 at hJ
  obtain ⟨⟨h1, r2⟩, e3, hJ⟩ := ob_some hJ
  exact (mo_X10_writes N t0 h x1 x2 x3 (1 : Int32) e3).tr (mb_X10_write_8 N t0 _ _ hJ)
set_option maxRecDepth 100000 in
set_option maxHeartbeats 4000000 in
theorem sb_X10_write_0 (C : Cx p s m args meth c cX10_write 5 (some .int) RX10 D cs A h0.se) (hz2 : hz.nx ≤ h0.nx + mc ∧ hz.su ≤ h0.su + ms) (N : Nat) (t0 : Nat) (h : Hp) (x1 : Int32) (x2 : Int32) (x3 : Int64) (hJ : B_X10_write_0 N t0 h x1 x2 x3 = some (hz, rz)) (hk0 : h.kd t0 = 13) {H : Heap} {locs : List Loc} {cells slots : Nat} (w : Wo D cs A s h0 h H locs cells slots) {ls : Array Slot} (hl : lv_has ls 5 [(0, .ref t0), (1, .int x1), (2, .int x2), (3, .long x3)]) : W p l e { frames := 3, cells := mc, slots := ms, locals := 90 } s m args below meth c H locs cells slots (MQ below (Zi D cs A hz rz) args s mc ms A) (F0 m 0 ls []) := by
  obtain ⟨hx, hb, hml, hown, hts, -⟩ := id C
  unfold B_X10_write_0 at hJ
  refine lv_aload_n hx hb dX10_write_0 rfl (lv_at hl 0 rfl) ?_
  refine lv_iload_n hx hb dX10_write_1 rfl (lv_at hl 1 rfl) ?_
  refine lv_iload_n hx hb dX10_write_2 rfl (lv_at hl 2 rfl) ?_
  refine lv_lload_n hx hb dX10_write_3 rfl (lv_at hl 3 rfl) ?_
  refine lv_iconst (v := (1 : Int32)) hx hb dX10_write_4 (by decide) ?_
  obtain ⟨⟨h1, r2⟩, e3, hJ⟩ := ob_some hJ
  refine jc_Vi (As := [.int x1, .int x2, .long x3, .int (1 : Int32)]) C w (cc_X10_writes N t0 h x1 x2 x3 (1 : Int32) hk0 e3) (mo_X10_writes N t0 h x1 x2 x3 (1 : Int32) e3) (mb_X10_write_8 N t0 _ _ hJ) hz2 hk0 (by decide) rfl (fs := fs13 h t0) rfl rfl ⟨tw_8_35, tw_8_32, tw_8_34, ts_55, tw_1_7⟩ cd_X10_writes ⟨by decide, by decide⟩ hl.1 (by first | exact Nat.le_of_ble_eq_true rfl | simp [rf_cat, cat_i, cat_l, cat_r]) rfl dX10_write_5 (fun H locs w1 => ?_)
  have hk4 := kd_keep w (mo_X10_writes N t0 h x1 x2 x3 (1 : Int32) e3) hk0 (by decide)
  have w := w1
  exact sb_X10_write_8 C hz2 N t0 _ _ hJ hk4 w (lv_sub (l' := [(0, .ref t0)]) hl [0] rfl)
def J_X10_write (N : Nat) (t0 : Nat) (h : Hp) (x1 : Int32) (x2 : Int32) (x3 : Int64) : Option (Hp × Int32) := B_X10_write_0 N t0 h x1 x2 x3
theorem mo_X10_write (N : Nat) (t0 : Nat) (h : Hp) (x1 : Int32) (x2 : Int32) (x3 : Int64) (hJ : J_X10_write N t0 h x1 x2 x3 = some (hz, rz)) : Mo h hz := mb_X10_write_0 N t0 h x1 x2 x3 hJ
theorem cd_X10_write : Cd yX10_write 3 := ⟨by decide +kernel, by decide +kernel, by decide +kernel⟩
theorem cc_X10_write (N : Nat) (t0 : Nat) (h : Hp) (x1 : Int32) (x2 : Int32) (x3 : Int64) (hk0 : h.kd t0 = 13) (hJ : J_X10_write N t0 h x1 x2 x3 = some (hz, rz)) : Ci l yX10_write cX10_write 5 (some .int) 3 90 D cs h hz [.ref t0, .int x1, .int x2, .long x3] rz := by
  intro mc ms g1 g2
  refine je_any (by decide) (by simp [lg_sl, rf_cat, cat_i, cat_l, cat_r]) ?_
  intro p e s m args below meth c C hin2 w ls hl
  have hl : lv_has ls 5 [(0, .ref t0), (1, .int x1), (2, .int x2), (3, .long x3)] := hl
  exact sb_X10_write_0 C ⟨g1, g2⟩ N t0 h x1 x2 x3 hJ hk0 w hl
end G_X10_write
section G_X10_remove
variable {p : Program} {l : Launch} {e : Env} {s : State} {m : MethodId} {args : Array Value} {below : List Frame} {meth : Method} {c : Code} {D : va_G} {cs : C4} {A : Nat → Prop} {h0 hz : Hp} {mc ms : Nat} {rz : Int32}
def B_X10_remove_8 (N : Nat) (t0 : Nat) (h : Hp) (y0 : Int32) : Option (Hp × Int32) := some (h, y0)
theorem mb_X10_remove_8 (N : Nat) (t0 : Nat) (h : Hp) (y0 : Int32) (hJ : B_X10_remove_8 N t0 h y0 = some (hz, rz)) : Mo h hz := by
  unfold B_X10_remove_8 at hJ
  obtain ⟨rfl, -⟩ := rs2 hJ
  exact ⟨fun _ _ => rfl, Nat.le_refl _, Nat.le_refl _, rfl, fun _ _ => rfl⟩
set_option maxRecDepth 100000 in
set_option maxHeartbeats 4000000 in
theorem sb_X10_remove_8 (C : Cx p s m args meth c cX10_remove 3 (some .int) RX10 D cs A h0.se) (hz2 : hz.nx ≤ h0.nx + mc ∧ hz.su ≤ h0.su + ms) (N : Nat) (t0 : Nat) (h : Hp) (y0 : Int32) (hJ : B_X10_remove_8 N t0 h y0 = some (hz, rz)) (hk0 : h.kd t0 = 13) {H : Heap} {locs : List Loc} {cells slots : Nat} (w : Wo D cs A s h0 h H locs cells slots) {ls : Array Slot} (hl : lv_has ls 3 [(0, .ref t0)]) : W p l e { frames := 3, cells := mc, slots := ms, locals := 90 } s m args below meth c H locs cells slots (MQ below (Zi D cs A hz rz) args s mc ms A) (F0 m 8 ls [.int y0]) := by
  obtain ⟨hx, hb, hml, hown, hts, -⟩ := id C
  unfold B_X10_remove_8 at hJ
  obtain ⟨rfl, rfl⟩ := rs2 hJ
  exact jr_iret C w hz2 dX10_remove_8
def B_X10_remove_0 (N : Nat) (t0 : Nat) (h : Hp) (x1 : Int32) (x2 : Int32) : Option (Hp × Int32) := (J_X10_writes N t0 h x1 x2 (0 : Int64) (0 : Int32)).bind (fun z => B_X10_remove_8 N t0 z.1 z.2)
theorem mb_X10_remove_0 (N : Nat) (t0 : Nat) (h : Hp) (x1 : Int32) (x2 : Int32) (hJ : B_X10_remove_0 N t0 h x1 x2 = some (hz, rz)) : Mo h hz := by
  unfold B_X10_remove_0 at hJ
  obtain ⟨⟨h1, r2⟩, e3, hJ⟩ := ob_some hJ
  exact (mo_X10_writes N t0 h x1 x2 (0 : Int64) (0 : Int32) e3).tr (mb_X10_remove_8 N t0 _ _ hJ)
set_option maxRecDepth 100000 in
set_option maxHeartbeats 4000000 in
theorem sb_X10_remove_0 (C : Cx p s m args meth c cX10_remove 3 (some .int) RX10 D cs A h0.se) (hz2 : hz.nx ≤ h0.nx + mc ∧ hz.su ≤ h0.su + ms) (N : Nat) (t0 : Nat) (h : Hp) (x1 : Int32) (x2 : Int32) (hJ : B_X10_remove_0 N t0 h x1 x2 = some (hz, rz)) (hk0 : h.kd t0 = 13) {H : Heap} {locs : List Loc} {cells slots : Nat} (w : Wo D cs A s h0 h H locs cells slots) {ls : Array Slot} (hl : lv_has ls 3 [(0, .ref t0), (1, .int x1), (2, .int x2)]) : W p l e { frames := 3, cells := mc, slots := ms, locals := 90 } s m args below meth c H locs cells slots (MQ below (Zi D cs A hz rz) args s mc ms A) (F0 m 0 ls []) := by
  obtain ⟨hx, hb, hml, hown, hts, -⟩ := id C
  unfold B_X10_remove_0 at hJ
  refine lv_aload_n hx hb dX10_remove_0 rfl (lv_at hl 0 rfl) ?_
  refine lv_iload_n hx hb dX10_remove_1 rfl (lv_at hl 1 rfl) ?_
  refine lv_iload_n hx hb dX10_remove_2 rfl (lv_at hl 2 rfl) ?_
  refine lv_lconst (v := (0 : Int64)) hx hb dX10_remove_3 (by decide) ?_
  refine lv_iconst (v := (0 : Int32)) hx hb dX10_remove_4 (by decide) ?_
  obtain ⟨⟨h1, r2⟩, e3, hJ⟩ := ob_some hJ
  refine jc_Vi (As := [.int x1, .int x2, .long (0 : Int64), .int (0 : Int32)]) C w (cc_X10_writes N t0 h x1 x2 (0 : Int64) (0 : Int32) hk0 e3) (mo_X10_writes N t0 h x1 x2 (0 : Int64) (0 : Int32) e3) (mb_X10_remove_8 N t0 _ _ hJ) hz2 hk0 (by decide) rfl (fs := fs13 h t0) rfl rfl ⟨tw_8_35, tw_8_32, tw_8_34, ts_55, tw_1_7⟩ cd_X10_writes ⟨by decide, by decide⟩ hl.1 (by first | exact Nat.le_of_ble_eq_true rfl | simp [rf_cat, cat_i, cat_l, cat_r]) rfl dX10_remove_5 (fun H locs w1 => ?_)
  have hk4 := kd_keep w (mo_X10_writes N t0 h x1 x2 (0 : Int64) (0 : Int32) e3) hk0 (by decide)
  have w := w1
  exact sb_X10_remove_8 C hz2 N t0 _ _ hJ hk4 w (lv_sub (l' := [(0, .ref t0)]) hl [0] rfl)
def J_X10_remove (N : Nat) (t0 : Nat) (h : Hp) (x1 : Int32) (x2 : Int32) : Option (Hp × Int32) := B_X10_remove_0 N t0 h x1 x2
theorem mo_X10_remove (N : Nat) (t0 : Nat) (h : Hp) (x1 : Int32) (x2 : Int32) (hJ : J_X10_remove N t0 h x1 x2 = some (hz, rz)) : Mo h hz := mb_X10_remove_0 N t0 h x1 x2 hJ
theorem cd_X10_remove : Cd yX10_remove 2 := ⟨by decide +kernel, by decide +kernel, by decide +kernel⟩
theorem cc_X10_remove (N : Nat) (t0 : Nat) (h : Hp) (x1 : Int32) (x2 : Int32) (hk0 : h.kd t0 = 13) (hJ : J_X10_remove N t0 h x1 x2 = some (hz, rz)) : Ci l yX10_remove cX10_remove 3 (some .int) 3 90 D cs h hz [.ref t0, .int x1, .int x2] rz := by
  intro mc ms g1 g2
  refine je_any (by decide) (by simp [lg_sl, rf_cat, cat_i, cat_l, cat_r]) ?_
  intro p e s m args below meth c C hin2 w ls hl
  have hl : lv_has ls 3 [(0, .ref t0), (1, .int x1), (2, .int x2)] := hl
  exact sb_X10_remove_0 C ⟨g1, g2⟩ N t0 h x1 x2 hJ hk0 w hl
end G_X10_remove
section G_X10_save
variable {p : Program} {l : Launch} {e : Env} {s : State} {m : MethodId} {args : Array Value} {below : List Frame} {meth : Method} {c : Code} {D : va_G} {cs : C4} {A : Nat → Prop} {h0 hz : Hp} {mc ms : Nat} {rz : Int32}
def B_X10_save_71 (N : Nat) (t0 : Nat) (h : Hp) (x1 : Int32) (y0 : Int32) : Option (Hp × Int32) := dr h 30 (h.gr 1309 t0) (fun a1 => ck (¬ (x1 < 0 ∨ h.al a1 ≤ x1.toNatClampNeg)) (some (h, h.bi a1 x1.toNatClampNeg)))
theorem mb_X10_save_71 (N : Nat) (t0 : Nat) (h : Hp) (x1 : Int32) (y0 : Int32) (hJ : B_X10_save_71 N t0 h x1 y0 = some (hz, rz)) : Mo h hz := by
  unfold B_X10_save_71 at hJ
  obtain ⟨a1, ea1, -, hJ⟩ := dr_some hJ
  obtain ⟨-, hJ⟩ := ck_some hJ
  obtain ⟨rfl, -⟩ := rs2 hJ
  exact ⟨fun _ _ => rfl, Nat.le_refl _, Nat.le_refl _, rfl, fun _ _ => rfl⟩
set_option maxRecDepth 100000 in
set_option maxHeartbeats 4000000 in
theorem sb_X10_save_71 (C : Cx p s m args meth c cX10_save 3 (some .int) RX10 D cs A h0.se) (hz2 : hz.nx ≤ h0.nx + mc ∧ hz.su ≤ h0.su + ms) (N : Nat) (t0 : Nat) (h : Hp) (x1 : Int32) (y0 : Int32) (hJ : B_X10_save_71 N t0 h x1 y0 = some (hz, rz)) (hk0 : h.kd t0 = 13) {H : Heap} {locs : List Loc} {cells slots : Nat} (w : Wo D cs A s h0 h H locs cells slots) {ls : Array Slot} (hl : lv_has ls 3 [(0, .ref t0), (1, .int x1)]) : W p l e { frames := 1, cells := mc, slots := ms, locals := 30 } s m args below meth c H locs cells slots (MQ below (Zi D cs A hz rz) args s mc ms A) (F0 m 71 ls [.int y0]) := by
  obtain ⟨hx, hb, hml, hown, hts, -⟩ := id C
  unfold B_X10_save_71 at hJ
  refine lv_istore_n (i := 2) (lv' := [(2, .int y0), (0, .ref t0), (1, .int x1)]) hx hb dX10_save_71 rfl hl (by decide) rfl (fun ls hl => ?_)
  refine lv_aload_n hx hb dX10_save_72 rfl (lv_at hl 1 rfl) ?_
  refine fg_1309 C w hk0 tw_6_172 dX10_save_73 ?_
  refine lv_iload_n hx hb dX10_save_76 rfl (lv_at hl 2 rfl) ?_
  obtain ⟨a1, ea1, hka1, hJ⟩ := dr_some hJ
  rw [ea1]
  obtain ⟨hi2, hJ⟩ := ck_some hJ
  refine jr_ialdM C w hka1 hi2 dX10_save_77 ?_
  obtain ⟨rfl, rfl⟩ := rs2 hJ
  exact jr_iret C w hz2 dX10_save_78
def B_X10_save_15 (N : Nat) (t0 : Nat) (h : Hp) (x1 : Int32) (y0 : Int32) : Option (Hp × Int32) := if y0 = 0 then (dr h 30 (h.gr 1309 t0) (fun a4 => ck (¬ (x1 < 0 ∨ h.al a4 ≤ x1.toNatClampNeg)) (if (h.bi a4 x1.toNatClampNeg) = (10 : Int32) then (some (h, (-1 : Int32))) else (dr h 30 (h.gr 1309 t0) (fun a7 => ck (¬ (x1 < 0 ∨ h.al a7 ≤ x1.toNatClampNeg)) (dr h 30 (h.gr 1310 t0) (fun a9 => ck (¬ (((10 : Int32) * x1) + (h.bi a7 x1.toNatClampNeg) < 0 ∨ h.al a9 ≤ (((10 : Int32) * x1) + (h.bi a7 x1.toNatClampNeg)).toNatClampNeg)) (dr (h.sbi a9 (((10 : Int32) * x1) + (h.bi a7 x1.toNatClampNeg)).toNatClampNeg (h.gi 1319 t0)) 30 ((h.sbi a9 (((10 : Int32) * x1) + (h.bi a7 x1.toNatClampNeg)).toNatClampNeg (h.gi 1319 t0)).gr 1309 t0) (fun a11 => ck (¬ (x1 < 0 ∨ (h.sbi a9 (((10 : Int32) * x1) + (h.bi a7 x1.toNatClampNeg)).toNatClampNeg (h.gi 1319 t0)).al a11 ≤ x1.toNatClampNeg)) (ck (¬ (x1 < 0 ∨ (h.sbi a9 (((10 : Int32) * x1) + (h.bi a7 x1.toNatClampNeg)).toNatClampNeg (h.gi 1319 t0)).al a11 ≤ x1.toNatClampNeg)) ((J_X10_log N t0 ((h.sbi a9 (((10 : Int32) * x1) + (h.bi a7 x1.toNatClampNeg)).toNatClampNeg (h.gi 1319 t0)).sbi a11 x1.toNatClampNeg (((h.sbi a9 (((10 : Int32) * x1) + (h.bi a7 x1.toNatClampNeg)).toNatClampNeg (h.gi 1319 t0)).bi a11 x1.toNatClampNeg) + (1 : Int32))) (7 : Int32) x1 (0 : Int32)).bind (fun z => B_X10_save_71 N t0 z.1 x1 z.2)))))))))))) else (some (h, (0 : Int32)))
theorem mb_X10_save_15 (N : Nat) (t0 : Nat) (h : Hp) (x1 : Int32) (y0 : Int32) (hJ : B_X10_save_15 N t0 h x1 y0 = some (hz, rz)) : Mo h hz := by
  unfold B_X10_save_15 at hJ
  by_cases c3 : y0 = 0
  · have hJ := it_pos c3 hJ
    obtain ⟨a4, ea4, -, hJ⟩ := dr_some hJ
    obtain ⟨-, hJ⟩ := ck_some hJ
    by_cases c6 : (h.bi a4 x1.toNatClampNeg) = (10 : Int32)
    · have hJ := it_pos c6 hJ
      obtain ⟨rfl, -⟩ := rs2 hJ
      exact ⟨fun _ _ => rfl, Nat.le_refl _, Nat.le_refl _, rfl, fun _ _ => rfl⟩
    · have hJ := it_neg c6 hJ
      obtain ⟨a7, ea7, -, hJ⟩ := dr_some hJ
      obtain ⟨-, hJ⟩ := ck_some hJ
      obtain ⟨a9, ea9, -, hJ⟩ := dr_some hJ
      obtain ⟨-, hJ⟩ := ck_some hJ
      obtain ⟨a11, ea11, -, hJ⟩ := dr_some hJ
      obtain ⟨-, hJ⟩ := ck_some hJ
      obtain ⟨-, hJ⟩ := ck_some hJ
      obtain ⟨⟨h14, r15⟩, e16, hJ⟩ := ob_some hJ
      exact (Mo.tr (show Mo h ((h.sbi a9 (((10 : Int32) * x1) + (h.bi a7 x1.toNatClampNeg)).toNatClampNeg (h.gi 1319 t0)).sbi a11 x1.toNatClampNeg (((h.sbi a9 (((10 : Int32) * x1) + (h.bi a7 x1.toNatClampNeg)).toNatClampNeg (h.gi 1319 t0)).bi a11 x1.toNatClampNeg) + (1 : Int32))) from ⟨fun _ _ => rfl, Nat.le_refl _, Nat.le_refl _, rfl, fun _ _ => rfl⟩) ((mo_X10_log N t0 ((h.sbi a9 (((10 : Int32) * x1) + (h.bi a7 x1.toNatClampNeg)).toNatClampNeg (h.gi 1319 t0)).sbi a11 x1.toNatClampNeg (((h.sbi a9 (((10 : Int32) * x1) + (h.bi a7 x1.toNatClampNeg)).toNatClampNeg (h.gi 1319 t0)).bi a11 x1.toNatClampNeg) + (1 : Int32))) (7 : Int32) x1 (0 : Int32) e16).tr (mb_X10_save_71 N t0 _ _ _ hJ)))
  · have hJ := it_neg c3 hJ
    obtain ⟨rfl, -⟩ := rs2 hJ
    exact ⟨fun _ _ => rfl, Nat.le_refl _, Nat.le_refl _, rfl, fun _ _ => rfl⟩
set_option maxRecDepth 100000 in
set_option maxHeartbeats 4000000 in
theorem sb_X10_save_15 (C : Cx p s m args meth c cX10_save 3 (some .int) RX10 D cs A h0.se) (hz2 : hz.nx ≤ h0.nx + mc ∧ hz.su ≤ h0.su + ms) (N : Nat) (t0 : Nat) (h : Hp) (x1 : Int32) (y0 : Int32) (hJ : B_X10_save_15 N t0 h x1 y0 = some (hz, rz)) (hk0 : h.kd t0 = 13) {H : Heap} {locs : List Loc} {cells slots : Nat} (w : Wo D cs A s h0 h H locs cells slots) {ls : Array Slot} (hl : lv_has ls 3 [(0, .ref t0), (1, .int x1)]) : W p l e { frames := 1, cells := mc, slots := ms, locals := 30 } s m args below meth c H locs cells slots (MQ below (Zi D cs A hz rz) args s mc ms A) (F0 m 15 ls [.int y0]) := by
  obtain ⟨hx, hb, hml, hown, hts, -⟩ := id C
  unfold B_X10_save_15 at hJ
  refine lv_if_eq (tgt := 20) hx hb dX10_save_15 (by decide) (fun c3 => ?_) (fun c3 => ?_)
  · have hJ := it_pos c3 hJ
    refine lv_aload_n hx hb dX10_save_20 rfl (lv_at hl 0 rfl) ?_
    refine fg_1309 C w hk0 tw_6_172 dX10_save_21 ?_
    refine lv_iload_n hx hb dX10_save_24 rfl (lv_at hl 1 rfl) ?_
    obtain ⟨a4, ea4, hka4, hJ⟩ := dr_some hJ
    rw [ea4]
    obtain ⟨hi5, hJ⟩ := ck_some hJ
    refine jr_ialdM C w hka4 hi5 dX10_save_25 ?_
    refine lv_bipush (v := (10 : Int32)) hx hb dX10_save_26 (by decide) ?_
    refine lv_icmp_ne (tgt := 33) hx hb dX10_save_28 (by decide) (fun c6 => ?_) (fun c6 => ?_)
    · have hJ := it_neg c6 hJ
      refine lv_aload_n hx hb dX10_save_33 rfl (lv_at hl 0 rfl) ?_
      refine fg_1310 C w hk0 tw_6_173 dX10_save_34 ?_
      refine lv_bipush (v := (10 : Int32)) hx hb dX10_save_37 (by decide) ?_
      refine lv_iload_n hx hb dX10_save_39 rfl (lv_at hl 1 rfl) ?_
      refine lv_imul hx hb dX10_save_40 ?_
      refine lv_aload_n hx hb dX10_save_41 rfl (lv_at hl 0 rfl) ?_
      refine fg_1309 C w hk0 tw_6_172 dX10_save_42 ?_
      refine lv_iload_n hx hb dX10_save_45 rfl (lv_at hl 1 rfl) ?_
      obtain ⟨a7, ea7, hka7, hJ⟩ := dr_some hJ
      rw [ea7]
      obtain ⟨hi8, hJ⟩ := ck_some hJ
      refine jr_ialdM C w hka7 hi8 dX10_save_46 ?_
      refine lv_iadd hx hb dX10_save_47 ?_
      refine lv_aload_n hx hb dX10_save_48 rfl (lv_at hl 0 rfl) ?_
      refine fg_1319 C w hk0 tw_6_182 dX10_save_49 ?_
      obtain ⟨a9, ea9, hka9, hJ⟩ := dr_some hJ
      rw [ea9]
      obtain ⟨hi10, hJ⟩ := ck_some hJ
      refine jr_iastM C w hka9 hi10 dX10_save_52 (fun H locs w => ?_)
      refine lv_aload_n hx hb dX10_save_53 rfl (lv_at hl 0 rfl) ?_
      refine fg_1309 C w hk0 tw_6_172 dX10_save_54 ?_
      refine lv_iload_n hx hb dX10_save_57 rfl (lv_at hl 1 rfl) ?_
      refine lv_dup2_11 hx hb dX10_save_58 rfl (rf_cat _) ?_
      obtain ⟨a11, ea11, hka11, hJ⟩ := dr_some hJ
      rw [ea11]
      obtain ⟨hi12, hJ⟩ := ck_some hJ
      refine jr_ialdM C w hka11 hi12 dX10_save_59 ?_
      refine lv_iconst (v := (1 : Int32)) hx hb dX10_save_60 (by decide) ?_
      refine lv_iadd hx hb dX10_save_61 ?_
      obtain ⟨hi13, hJ⟩ := ck_some hJ
      refine jr_iastM C w hka11 hi13 dX10_save_62 (fun H locs w => ?_)
      refine lv_aload_n hx hb dX10_save_63 rfl (lv_at hl 0 rfl) ?_
      refine lv_bipush (v := (7 : Int32)) hx hb dX10_save_64 (by decide) ?_
      refine lv_iload_n hx hb dX10_save_66 rfl (lv_at hl 1 rfl) ?_
      refine lv_iconst (v := (0 : Int32)) hx hb dX10_save_67 (by decide) ?_
      obtain ⟨⟨h14, r15⟩, e16, hJ⟩ := ob_some hJ
      refine jc_Vi (As := [.int (7 : Int32), .int x1, .int (0 : Int32)]) C w (cc_X10_log N t0 ((h.sbi a9 (((10 : Int32) * x1) + (h.bi a7 x1.toNatClampNeg)).toNatClampNeg (h.gi 1319 t0)).sbi a11 x1.toNatClampNeg (((h.sbi a9 (((10 : Int32) * x1) + (h.bi a7 x1.toNatClampNeg)).toNatClampNeg (h.gi 1319 t0)).bi a11 x1.toNatClampNeg) + (1 : Int32))) (7 : Int32) x1 (0 : Int32) hk0 e16) (mo_X10_log N t0 ((h.sbi a9 (((10 : Int32) * x1) + (h.bi a7 x1.toNatClampNeg)).toNatClampNeg (h.gi 1319 t0)).sbi a11 x1.toNatClampNeg (((h.sbi a9 (((10 : Int32) * x1) + (h.bi a7 x1.toNatClampNeg)).toNatClampNeg (h.gi 1319 t0)).bi a11 x1.toNatClampNeg) + (1 : Int32))) (7 : Int32) x1 (0 : Int32) e16) (mb_X10_save_71 N t0 _ _ _ hJ) hz2 hk0 (by decide) rfl (fs := fs13 ((h.sbi a9 (((10 : Int32) * x1) + (h.bi a7 x1.toNatClampNeg)).toNatClampNeg (h.gi 1319 t0)).sbi a11 x1.toNatClampNeg (((h.sbi a9 (((10 : Int32) * x1) + (h.bi a7 x1.toNatClampNeg)).toNatClampNeg (h.gi 1319 t0)).bi a11 x1.toNatClampNeg) + (1 : Int32))) t0) rfl rfl ⟨tw_7_222, tw_7_219, tw_7_221, ts_49, tw_1_7⟩ cd_X10_log ⟨by decide, by decide⟩ hl.1 (by first | exact Nat.le_of_ble_eq_true rfl | simp [rf_cat, cat_i, cat_l, cat_r]) rfl dX10_save_68 (fun H locs w1 => ?_)
      have hk17 := kd_keep w (mo_X10_log N t0 ((h.sbi a9 (((10 : Int32) * x1) + (h.bi a7 x1.toNatClampNeg)).toNatClampNeg (h.gi 1319 t0)).sbi a11 x1.toNatClampNeg (((h.sbi a9 (((10 : Int32) * x1) + (h.bi a7 x1.toNatClampNeg)).toNatClampNeg (h.gi 1319 t0)).bi a11 x1.toNatClampNeg) + (1 : Int32))) (7 : Int32) x1 (0 : Int32) e16) hk0 (by decide)
      have w := w1
      exact sb_X10_save_71 C hz2 N t0 _ _ _ hJ hk17 w hl
    · have hJ := it_pos c6 hJ
      refine lv_iconst (v := (-1 : Int32)) hx hb dX10_save_31 (by decide) ?_
      obtain ⟨rfl, rfl⟩ := rs2 hJ
      exact jr_iret C w hz2 dX10_save_32
  · have hJ := it_neg c3 hJ
    refine lv_iconst (v := (0 : Int32)) hx hb dX10_save_18 (by decide) ?_
    obtain ⟨rfl, rfl⟩ := rs2 hJ
    exact jr_iret C w hz2 dX10_save_19
def B_X10_save_0 (N : Nat) (t0 : Nat) (h : Hp) (x1 : Int32) : Option (Hp × Int32) := (J_X10_isIdle N t0 (h.sgi 1313 t0 ((h.gi 1313 t0) + (1 : Int32))) x1).bind (fun z => B_X10_save_15 N t0 z.1 x1 z.2)
theorem mb_X10_save_0 (N : Nat) (t0 : Nat) (h : Hp) (x1 : Int32) (hJ : B_X10_save_0 N t0 h x1 = some (hz, rz)) : Mo h hz := by
  unfold B_X10_save_0 at hJ
  obtain ⟨⟨h18, r19⟩, e20, hJ⟩ := ob_some hJ
  exact (Mo.tr (show Mo h (h.sgi 1313 t0 ((h.gi 1313 t0) + (1 : Int32))) from ⟨fun _ _ => rfl, Nat.le_refl _, Nat.le_refl _, rfl, fun _ _ => rfl⟩) ((mo_X10_isIdle N t0 (h.sgi 1313 t0 ((h.gi 1313 t0) + (1 : Int32))) x1 e20).tr (mb_X10_save_15 N t0 _ _ _ hJ)))
set_option maxRecDepth 100000 in
set_option maxHeartbeats 4000000 in
theorem sb_X10_save_0 (C : Cx p s m args meth c cX10_save 3 (some .int) RX10 D cs A h0.se) (hz2 : hz.nx ≤ h0.nx + mc ∧ hz.su ≤ h0.su + ms) (N : Nat) (t0 : Nat) (h : Hp) (x1 : Int32) (hJ : B_X10_save_0 N t0 h x1 = some (hz, rz)) (hk0 : h.kd t0 = 13) {H : Heap} {locs : List Loc} {cells slots : Nat} (w : Wo D cs A s h0 h H locs cells slots) {ls : Array Slot} (hl : lv_has ls 3 [(0, .ref t0), (1, .int x1)]) : W p l e { frames := 1, cells := mc, slots := ms, locals := 30 } s m args below meth c H locs cells slots (MQ below (Zi D cs A hz rz) args s mc ms A) (F0 m 0 ls []) := by
  obtain ⟨hx, hb, hml, hown, hts, -⟩ := id C
  unfold B_X10_save_0 at hJ
  refine lv_aload_n hx hb dX10_save_0 rfl (lv_at hl 0 rfl) ?_
  refine lv_dup hx hb dX10_save_1 rfl ?_
  refine fg_1313 C w hk0 tw_6_176 dX10_save_2 ?_
  refine lv_iconst (v := (1 : Int32)) hx hb dX10_save_5 (by decide) ?_
  refine lv_iadd hx hb dX10_save_6 ?_
  refine fp_1313 (x := (h.gi 1313 t0) + (1 : Int32)) C w hk0 tw_6_176 dX10_save_7 (fun H locs w => ?_)
  refine lv_aload_n hx hb dX10_save_10 rfl (lv_at hl 0 rfl) ?_
  refine lv_iload_n hx hb dX10_save_11 rfl (lv_at hl 1 rfl) ?_
  obtain ⟨⟨h18, r19⟩, e20, hJ⟩ := ob_some hJ
  refine jc_Vi (As := [.int x1]) C w (cc_X10_isIdle N t0 (h.sgi 1313 t0 ((h.gi 1313 t0) + (1 : Int32))) x1 hk0 e20) (mo_X10_isIdle N t0 (h.sgi 1313 t0 ((h.gi 1313 t0) + (1 : Int32))) x1 e20) (mb_X10_save_15 N t0 _ _ _ hJ) hz2 hk0 (by decide) rfl (fs := fs13 (h.sgi 1313 t0 ((h.gi 1313 t0) + (1 : Int32))) t0) rfl rfl ⟨tw_7_174, tw_7_171, tw_7_173, ts_39, tw_1_7⟩ cd_X10_isIdle ⟨by decide, by decide⟩ hl.1 (by first | exact Nat.le_of_ble_eq_true rfl | simp [rf_cat, cat_i, cat_l, cat_r]) rfl dX10_save_12 (fun H locs w1 => ?_)
  have hk21 := kd_keep w (mo_X10_isIdle N t0 (h.sgi 1313 t0 ((h.gi 1313 t0) + (1 : Int32))) x1 e20) hk0 (by decide)
  have w := w1
  exact sb_X10_save_15 C hz2 N t0 _ _ _ hJ hk21 w hl
def J_X10_save (N : Nat) (t0 : Nat) (h : Hp) (x1 : Int32) : Option (Hp × Int32) := B_X10_save_0 N t0 h x1
theorem mo_X10_save (N : Nat) (t0 : Nat) (h : Hp) (x1 : Int32) (hJ : J_X10_save N t0 h x1 = some (hz, rz)) : Mo h hz := mb_X10_save_0 N t0 h x1 hJ
theorem cd_X10_save : Cd yX10_save 1 := ⟨by decide +kernel, by decide +kernel, by decide +kernel⟩
theorem cc_X10_save (N : Nat) (t0 : Nat) (h : Hp) (x1 : Int32) (hk0 : h.kd t0 = 13) (hJ : J_X10_save N t0 h x1 = some (hz, rz)) : Ci l yX10_save cX10_save 3 (some .int) 1 30 D cs h hz [.ref t0, .int x1] rz := by
  intro mc ms g1 g2
  refine je_any (by decide) (by simp [lg_sl, rf_cat, cat_i, cat_l, cat_r]) ?_
  intro p e s m args below meth c C hin2 w ls hl
  have hl : lv_has ls 3 [(0, .ref t0), (1, .int x1)] := hl
  exact sb_X10_save_0 C ⟨g1, g2⟩ N t0 h x1 hJ hk0 w hl
end G_X10_save
section G_X10_undo
variable {p : Program} {l : Launch} {e : Env} {s : State} {m : MethodId} {args : Array Value} {below : List Frame} {meth : Method} {c : Code} {D : va_G} {cs : C4} {A : Nat → Prop} {h0 hz : Hp} {mc ms : Nat} {rz : Int32}
def B_X10_undo_35 (N : Nat) (t0 : Nat) (h : Hp) : Option (Hp × Int32) := some (h.sgi 1300 t0 (2 : Int32), (0 : Int32))
theorem mb_X10_undo_35 (N : Nat) (t0 : Nat) (h : Hp) (hJ : B_X10_undo_35 N t0 h = some (hz, rz)) : Mo h hz := by
  unfold B_X10_undo_35 at hJ
  obtain ⟨rfl, -⟩ := rs2 hJ
  exact ⟨fun _ _ => rfl, Nat.le_refl _, Nat.le_refl _, rfl, fun _ _ => rfl⟩
set_option maxRecDepth 100000 in
set_option maxHeartbeats 4000000 in
theorem sb_X10_undo_35 (C : Cx p s m args meth c cX10_undo 4 (some .int) RX10 D cs A h0.se) (hz2 : hz.nx ≤ h0.nx + mc ∧ hz.su ≤ h0.su + ms) (N : Nat) (t0 : Nat) (h : Hp) (hJ : B_X10_undo_35 N t0 h = some (hz, rz)) (hk0 : h.kd t0 = 13) {H : Heap} {locs : List Loc} {cells slots : Nat} (w : Wo D cs A s h0 h H locs cells slots) {ls : Array Slot} (hl : lv_has ls 4 [(0, .ref t0)]) : W p l e { frames := 2, cells := mc, slots := ms, locals := 60 } s m args below meth c H locs cells slots (MQ below (Zi D cs A hz rz) args s mc ms A) (F0 m 35 ls []) := by
  obtain ⟨hx, hb, hml, hown, hts, -⟩ := id C
  unfold B_X10_undo_35 at hJ
  refine lv_aload_n hx hb dX10_undo_35 rfl (lv_at hl 0 rfl) ?_
  refine lv_iconst (v := (2 : Int32)) hx hb dX10_undo_36 (by decide) ?_
  refine fp_1300 (x := (2 : Int32)) C w hk0 tw_6_163 dX10_undo_37 (fun H locs w => ?_)
  refine lv_iconst (v := (0 : Int32)) hx hb dX10_undo_40 (by decide) ?_
  obtain ⟨rfl, rfl⟩ := rs2 hJ
  exact jr_iret C w hz2 dX10_undo_41
def B_X10_undo_93 (N : Nat) (k56 : Hp → Int32 → Int32 → Int32 → Option (Hp × Int32)) (t0 : Nat) (h : Hp) (x1 : Int32) (x2 : Int32) (x3 : Int32) (y0 : Option Nat) (y1 : Int32) (y2 : Int32) : Option (Hp × Int32) := dr h 32 y0 (fun a1 => ck (¬ (y1 < 0 ∨ h.al a1 ≤ y1.toNatClampNeg)) (ck (y2 = 0 ∨ y2 = 1) (k56 (h.sbi a1 y1.toNatClampNeg y2) x1 x2 (x3 + (1 : Int32)))))
theorem mb_X10_undo_93 (N : Nat) (k56 : Hp → Int32 → Int32 → Int32 → Option (Hp × Int32)) (t0 : Nat) (h : Hp) (x1 : Int32) (x2 : Int32) (x3 : Int32) (y0 : Option Nat) (y1 : Int32) (y2 : Int32) (m56 : ∀ (h : Hp) (x1 : Int32) (x2 : Int32) (x3 : Int32), k56 h x1 x2 x3 = some (hz, rz) → Mo h hz) (hJ : B_X10_undo_93 N k56 t0 h x1 x2 x3 y0 y1 y2 = some (hz, rz)) : Mo h hz := by
  unfold B_X10_undo_93 at hJ
  obtain ⟨a1, ea1, -, hJ⟩ := dr_some hJ
  obtain ⟨-, hJ⟩ := ck_some hJ
  obtain ⟨-, hJ⟩ := ck_some hJ
  exact (Mo.tr (show Mo h (h.sbi a1 y1.toNatClampNeg y2) from ⟨fun _ _ => rfl, Nat.le_refl _, Nat.le_refl _, rfl, fun _ _ => rfl⟩) (m56 _ _ _ _ hJ))
set_option maxRecDepth 100000 in
set_option maxHeartbeats 4000000 in
theorem sb_X10_undo_93 (C : Cx p s m args meth c cX10_undo 4 (some .int) RX10 D cs A h0.se) (hz2 : hz.nx ≤ h0.nx + mc ∧ hz.su ≤ h0.su + ms) (N : Nat) (k56 : Hp → Int32 → Int32 → Int32 → Option (Hp × Int32)) (t0 : Nat) (m56 : ∀ (h : Hp) (x1 : Int32) (x2 : Int32) (x3 : Int32), k56 h x1 x2 x3 = some (hz, rz) → Mo h hz) (i56 : ∀ (h : Hp) (x1 : Int32) (x2 : Int32) (x3 : Int32) (H : Heap) (locs : List Loc) (cells slots : Nat) (ls : Array Slot), k56 h x1 x2 x3 = some (hz, rz) → h.kd t0 = 13 → Wo D cs A s h0 h H locs cells slots → lv_has ls 4 [(0, .ref t0), (1, .int x1), (2, .int x2), (3, .int x3)] → W p l e { frames := 2, cells := mc, slots := ms, locals := 60 } s m args below meth c H locs cells slots (MQ below (Zi D cs A hz rz) args s mc ms A) (F0 m 56 ls [])) (h : Hp) (x1 : Int32) (x2 : Int32) (x3 : Int32) (y0 : Option Nat) (y1 : Int32) (y2 : Int32) (hJ : B_X10_undo_93 N k56 t0 h x1 x2 x3 y0 y1 y2 = some (hz, rz)) (hk0 : h.kd t0 = 13) {H : Heap} {locs : List Loc} {cells slots : Nat} (w : Wo D cs A s h0 h H locs cells slots) {ls : Array Slot} (hl : lv_has ls 4 [(0, .ref t0), (1, .int x1), (2, .int x2), (3, .int x3)]) : W p l e { frames := 2, cells := mc, slots := ms, locals := 60 } s m args below meth c H locs cells slots (MQ below (Zi D cs A hz rz) args s mc ms A) (F0 m 93 ls [.int y2, .int y1, va_rf y0]) := by
  obtain ⟨hx, hb, hml, hown, hts, -⟩ := id C
  unfold B_X10_undo_93 at hJ
  obtain ⟨a1, ea1, hka1, hJ⟩ := dr_some hJ
  rw [ea1]
  obtain ⟨hi2, hJ⟩ := ck_some hJ
  obtain ⟨hzo3, hJ⟩ := ck_some hJ
  refine jr_zastM C w hka1 hi2 hzo3 dX10_undo_93 (fun H locs w => ?_)
  refine lv_iinc (v := x3 + (1 : Int32)) (lv' := [(3, .int (x3 + (1 : Int32))), (0, .ref t0), (1, .int x1), (2, .int x2)]) hx hb dX10_undo_94 hl (k := 3) rfl rfl (by decide) rfl (fun ls hl => ?_)
  refine lv_goto (tgt := 56) hx hb dX10_undo_97 (by decide) ?_
  exact i56 _ _ _ _ _ _ _ _ _ hJ hk0 w (lv_sub (l' := [(0, .ref t0), (1, .int x1), (2, .int x2), (3, .int (x3 + (1 : Int32)))]) hl [1, 2, 3, 0] rfl)
def B_X10_undo_88 (N : Nat) (k56 : Hp → Int32 → Int32 → Int32 → Option (Hp × Int32)) (t0 : Nat) (h : Hp) (x1 : Int32) (x2 : Int32) (x3 : Int32) (y0 : Option Nat) (y1 : Int32) : Option (Hp × Int32) := B_X10_undo_93 N k56 t0 h x1 x2 x3 y0 y1 (1 : Int32)
theorem mb_X10_undo_88 (N : Nat) (k56 : Hp → Int32 → Int32 → Int32 → Option (Hp × Int32)) (t0 : Nat) (h : Hp) (x1 : Int32) (x2 : Int32) (x3 : Int32) (y0 : Option Nat) (y1 : Int32) (m56 : ∀ (h : Hp) (x1 : Int32) (x2 : Int32) (x3 : Int32), k56 h x1 x2 x3 = some (hz, rz) → Mo h hz) (hJ : B_X10_undo_88 N k56 t0 h x1 x2 x3 y0 y1 = some (hz, rz)) : Mo h hz := by
  unfold B_X10_undo_88 at hJ
  exact mb_X10_undo_93 N k56 t0 _ _ _ _ _ _ _ m56 hJ
set_option maxRecDepth 100000 in
set_option maxHeartbeats 4000000 in
theorem sb_X10_undo_88 (C : Cx p s m args meth c cX10_undo 4 (some .int) RX10 D cs A h0.se) (hz2 : hz.nx ≤ h0.nx + mc ∧ hz.su ≤ h0.su + ms) (N : Nat) (k56 : Hp → Int32 → Int32 → Int32 → Option (Hp × Int32)) (t0 : Nat) (m56 : ∀ (h : Hp) (x1 : Int32) (x2 : Int32) (x3 : Int32), k56 h x1 x2 x3 = some (hz, rz) → Mo h hz) (i56 : ∀ (h : Hp) (x1 : Int32) (x2 : Int32) (x3 : Int32) (H : Heap) (locs : List Loc) (cells slots : Nat) (ls : Array Slot), k56 h x1 x2 x3 = some (hz, rz) → h.kd t0 = 13 → Wo D cs A s h0 h H locs cells slots → lv_has ls 4 [(0, .ref t0), (1, .int x1), (2, .int x2), (3, .int x3)] → W p l e { frames := 2, cells := mc, slots := ms, locals := 60 } s m args below meth c H locs cells slots (MQ below (Zi D cs A hz rz) args s mc ms A) (F0 m 56 ls [])) (h : Hp) (x1 : Int32) (x2 : Int32) (x3 : Int32) (y0 : Option Nat) (y1 : Int32) (hJ : B_X10_undo_88 N k56 t0 h x1 x2 x3 y0 y1 = some (hz, rz)) (hk0 : h.kd t0 = 13) {H : Heap} {locs : List Loc} {cells slots : Nat} (w : Wo D cs A s h0 h H locs cells slots) {ls : Array Slot} (hl : lv_has ls 4 [(0, .ref t0), (1, .int x1), (2, .int x2), (3, .int x3)]) : W p l e { frames := 2, cells := mc, slots := ms, locals := 60 } s m args below meth c H locs cells slots (MQ below (Zi D cs A hz rz) args s mc ms A) (F0 m 88 ls [.int y1, va_rf y0]) := by
  obtain ⟨hx, hb, hml, hown, hts, -⟩ := id C
  unfold B_X10_undo_88 at hJ
  refine lv_iconst (v := (1 : Int32)) hx hb dX10_undo_88 (by decide) ?_
  refine lv_goto (tgt := 93) hx hb dX10_undo_89 (by decide) ?_
  exact sb_X10_undo_93 C hz2 N k56 t0 m56 i56 _ _ _ _ _ _ _ hJ hk0 w hl
def B_X10_undo_121 (N : Nat) (t0 : Nat) (h : Hp) (y0 : Int32) : Option (Hp × Int32) := some (h, y0)
theorem mb_X10_undo_121 (N : Nat) (t0 : Nat) (h : Hp) (y0 : Int32) (hJ : B_X10_undo_121 N t0 h y0 = some (hz, rz)) : Mo h hz := by
  unfold B_X10_undo_121 at hJ
  obtain ⟨rfl, -⟩ := rs2 hJ
  exact ⟨fun _ _ => rfl, Nat.le_refl _, Nat.le_refl _, rfl, fun _ _ => rfl⟩
set_option maxRecDepth 100000 in
set_option maxHeartbeats 4000000 in
theorem sb_X10_undo_121 (C : Cx p s m args meth c cX10_undo 4 (some .int) RX10 D cs A h0.se) (hz2 : hz.nx ≤ h0.nx + mc ∧ hz.su ≤ h0.su + ms) (N : Nat) (t0 : Nat) (h : Hp) (y0 : Int32) (hJ : B_X10_undo_121 N t0 h y0 = some (hz, rz)) (hk0 : h.kd t0 = 13) {H : Heap} {locs : List Loc} {cells slots : Nat} (w : Wo D cs A s h0 h H locs cells slots) {ls : Array Slot} (hl : lv_has ls 4 [(0, .ref t0)]) : W p l e { frames := 2, cells := mc, slots := ms, locals := 60 } s m args below meth c H locs cells slots (MQ below (Zi D cs A hz rz) args s mc ms A) (F0 m 121 ls [.int y0]) := by
  obtain ⟨hx, hb, hml, hown, hts, -⟩ := id C
  unfold B_X10_undo_121 at hJ
  obtain ⟨rfl, rfl⟩ := rs2 hJ
  exact jr_iret C w hz2 dX10_undo_121
def B_X10_undo_115 (N : Nat) (t0 : Nat) (h : Hp) (x1 : Int32) (y0 : Int32) : Option (Hp × Int32) := (J_X10_wroteMany N t0 h x1).bind (fun z => B_X10_undo_121 N t0 z.1 z.2)
theorem mb_X10_undo_115 (N : Nat) (t0 : Nat) (h : Hp) (x1 : Int32) (y0 : Int32) (hJ : B_X10_undo_115 N t0 h x1 y0 = some (hz, rz)) : Mo h hz := by
  unfold B_X10_undo_115 at hJ
  obtain ⟨⟨h4, r5⟩, e6, hJ⟩ := ob_some hJ
  exact (mo_X10_wroteMany N t0 h x1 e6).tr (mb_X10_undo_121 N t0 _ _ hJ)
set_option maxRecDepth 100000 in
set_option maxHeartbeats 4000000 in
theorem sb_X10_undo_115 (C : Cx p s m args meth c cX10_undo 4 (some .int) RX10 D cs A h0.se) (hz2 : hz.nx ≤ h0.nx + mc ∧ hz.su ≤ h0.su + ms) (N : Nat) (t0 : Nat) (h : Hp) (x1 : Int32) (y0 : Int32) (hJ : B_X10_undo_115 N t0 h x1 y0 = some (hz, rz)) (hk0 : h.kd t0 = 13) {H : Heap} {locs : List Loc} {cells slots : Nat} (w : Wo D cs A s h0 h H locs cells slots) {ls : Array Slot} (hl : lv_has ls 4 [(0, .ref t0), (1, .int x1)]) : W p l e { frames := 2, cells := mc, slots := ms, locals := 60 } s m args below meth c H locs cells slots (MQ below (Zi D cs A hz rz) args s mc ms A) (F0 m 115 ls [.int y0]) := by
  obtain ⟨hx, hb, hml, hown, hts, -⟩ := id C
  unfold B_X10_undo_115 at hJ
  refine lv_istore_n (i := 3) (lv' := [(3, .int y0), (0, .ref t0), (1, .int x1)]) hx hb dX10_undo_115 rfl hl (by decide) rfl (fun ls hl => ?_)
  refine lv_aload_n hx hb dX10_undo_116 rfl (lv_at hl 1 rfl) ?_
  refine lv_iload_n hx hb dX10_undo_117 rfl (lv_at hl 2 rfl) ?_
  obtain ⟨⟨h4, r5⟩, e6, hJ⟩ := ob_some hJ
  refine jc_Vi (As := [.int x1]) C w (cc_X10_wroteMany N t0 h x1 hk0 e6) (mo_X10_wroteMany N t0 h x1 e6) (mb_X10_undo_121 N t0 _ _ hJ) hz2 hk0 (by decide) rfl (fs := fs13 h t0) rfl rfl ⟨tw_8_39, tw_8_36, tw_8_38, ts_56, tw_1_7⟩ cd_X10_wroteMany ⟨by decide, by decide⟩ hl.1 (by first | exact Nat.le_of_ble_eq_true rfl | simp [rf_cat, cat_i, cat_l, cat_r]) rfl dX10_undo_118 (fun H locs w1 => ?_)
  have hk7 := kd_keep w (mo_X10_wroteMany N t0 h x1 e6) hk0 (by decide)
  have w := w1
  exact sb_X10_undo_121 C hz2 N t0 _ _ hJ hk7 w (lv_sub (l' := [(0, .ref t0)]) hl [1] rfl)
def B_X10_undo_56 (N : Nat) (k56 : Hp → Int32 → Int32 → Int32 → Option (Hp × Int32)) (t0 : Nat) (h : Hp) (x1 : Int32) (x2 : Int32) (x3 : Int32) : Option (Hp × Int32) := if (h.gi 1319 t0) ≤ x3 then (dr h 30 (h.gr 1309 t0) (fun a9 => ck (¬ (x1 < 0 ∨ h.al a9 ≤ x1.toNatClampNeg)) ((J_X10_log N t0 (h.sbi a9 x1.toNatClampNeg x2) (8 : Int32) x1 x2).bind (fun z => B_X10_undo_115 N t0 z.1 x1 z.2)))) else (dr h 32 (h.gr 1318 t0) (fun a15 => ck (¬ (x3 < 0 ∨ h.al a15 ≤ x3.toNatClampNeg)) (if (h.bi a15 x3.toNatClampNeg) = 0 then (dr h 30 (h.gr 1314 t0) (fun a18 => ck (¬ (x3 < 0 ∨ h.al a18 ≤ x3.toNatClampNeg)) (if (h.bi a18 x3.toNatClampNeg) = x1 then (B_X10_undo_88 N k56 t0 h x1 x2 x3 (some a15) x3) else (B_X10_undo_93 N k56 t0 h x1 x2 x3 (some a15) x3 (0 : Int32))))) else (B_X10_undo_88 N k56 t0 h x1 x2 x3 (some a15) x3))))
theorem mb_X10_undo_56 (N : Nat) (k56 : Hp → Int32 → Int32 → Int32 → Option (Hp × Int32)) (t0 : Nat) (h : Hp) (x1 : Int32) (x2 : Int32) (x3 : Int32) (m56 : ∀ (h : Hp) (x1 : Int32) (x2 : Int32) (x3 : Int32), k56 h x1 x2 x3 = some (hz, rz) → Mo h hz) (hJ : B_X10_undo_56 N k56 t0 h x1 x2 x3 = some (hz, rz)) : Mo h hz := by
  unfold B_X10_undo_56 at hJ
  by_cases c8 : (h.gi 1319 t0) ≤ x3
  · have hJ := it_pos c8 hJ
    obtain ⟨a9, ea9, -, hJ⟩ := dr_some hJ
    obtain ⟨-, hJ⟩ := ck_some hJ
    obtain ⟨⟨h11, r12⟩, e13, hJ⟩ := ob_some hJ
    exact (Mo.tr (show Mo h (h.sbi a9 x1.toNatClampNeg x2) from ⟨fun _ _ => rfl, Nat.le_refl _, Nat.le_refl _, rfl, fun _ _ => rfl⟩) ((mo_X10_log N t0 (h.sbi a9 x1.toNatClampNeg x2) (8 : Int32) x1 x2 e13).tr (mb_X10_undo_115 N t0 _ _ _ hJ)))
  · have hJ := it_neg c8 hJ
    obtain ⟨a15, ea15, -, hJ⟩ := dr_some hJ
    obtain ⟨-, hJ⟩ := ck_some hJ
    by_cases c17 : (h.bi a15 x3.toNatClampNeg) = 0
    · have hJ := it_pos c17 hJ
      obtain ⟨a18, ea18, -, hJ⟩ := dr_some hJ
      obtain ⟨-, hJ⟩ := ck_some hJ
      by_cases c20 : (h.bi a18 x3.toNatClampNeg) = x1
      · have hJ := it_pos c20 hJ
        exact mb_X10_undo_88 N k56 t0 _ _ _ _ _ _ m56 hJ
      · have hJ := it_neg c20 hJ
        exact mb_X10_undo_93 N k56 t0 _ _ _ _ _ _ _ m56 hJ
    · have hJ := it_neg c17 hJ
      exact mb_X10_undo_88 N k56 t0 _ _ _ _ _ _ m56 hJ
set_option maxRecDepth 100000 in
set_option maxHeartbeats 4000000 in
theorem sb_X10_undo_56 (C : Cx p s m args meth c cX10_undo 4 (some .int) RX10 D cs A h0.se) (hz2 : hz.nx ≤ h0.nx + mc ∧ hz.su ≤ h0.su + ms) (N : Nat) (k56 : Hp → Int32 → Int32 → Int32 → Option (Hp × Int32)) (t0 : Nat) (m56 : ∀ (h : Hp) (x1 : Int32) (x2 : Int32) (x3 : Int32), k56 h x1 x2 x3 = some (hz, rz) → Mo h hz) (i56 : ∀ (h : Hp) (x1 : Int32) (x2 : Int32) (x3 : Int32) (H : Heap) (locs : List Loc) (cells slots : Nat) (ls : Array Slot), k56 h x1 x2 x3 = some (hz, rz) → h.kd t0 = 13 → Wo D cs A s h0 h H locs cells slots → lv_has ls 4 [(0, .ref t0), (1, .int x1), (2, .int x2), (3, .int x3)] → W p l e { frames := 2, cells := mc, slots := ms, locals := 60 } s m args below meth c H locs cells slots (MQ below (Zi D cs A hz rz) args s mc ms A) (F0 m 56 ls [])) (h : Hp) (x1 : Int32) (x2 : Int32) (x3 : Int32) (hJ : B_X10_undo_56 N k56 t0 h x1 x2 x3 = some (hz, rz)) (hk0 : h.kd t0 = 13) {H : Heap} {locs : List Loc} {cells slots : Nat} (w : Wo D cs A s h0 h H locs cells slots) {ls : Array Slot} (hl : lv_has ls 4 [(0, .ref t0), (1, .int x1), (2, .int x2), (3, .int x3)]) : W p l e { frames := 2, cells := mc, slots := ms, locals := 60 } s m args below meth c H locs cells slots (MQ below (Zi D cs A hz rz) args s mc ms A) (F0 m 56 ls []) := by
  obtain ⟨hx, hb, hml, hown, hts, -⟩ := id C
  unfold B_X10_undo_56 at hJ
  refine lv_iload_n hx hb dX10_undo_56 rfl (lv_at hl 3 rfl) ?_
  refine lv_aload_n hx hb dX10_undo_57 rfl (lv_at hl 0 rfl) ?_
  refine fg_1319 C w hk0 tw_6_182 dX10_undo_58 ?_
  refine lv_icmp_ge (tgt := 100) hx hb dX10_undo_61 (by decide) (fun c8 => ?_) (fun c8 => ?_)
  · have hJ := it_pos c8 hJ
    refine lv_aload_n hx hb dX10_undo_100 rfl (lv_at hl 0 rfl) ?_
    refine fg_1309 C w hk0 tw_6_172 dX10_undo_101 ?_
    refine lv_iload_n hx hb dX10_undo_104 rfl (lv_at hl 1 rfl) ?_
    refine lv_iload_n hx hb dX10_undo_105 rfl (lv_at hl 2 rfl) ?_
    obtain ⟨a9, ea9, hka9, hJ⟩ := dr_some hJ
    rw [ea9]
    obtain ⟨hi10, hJ⟩ := ck_some hJ
    refine jr_iastM C w hka9 hi10 dX10_undo_106 (fun H locs w => ?_)
    refine lv_aload_n hx hb dX10_undo_107 rfl (lv_at hl 0 rfl) ?_
    refine lv_bipush (v := (8 : Int32)) hx hb dX10_undo_108 (by decide) ?_
    refine lv_iload_n hx hb dX10_undo_110 rfl (lv_at hl 1 rfl) ?_
    refine lv_iload_n hx hb dX10_undo_111 rfl (lv_at hl 2 rfl) ?_
    obtain ⟨⟨h11, r12⟩, e13, hJ⟩ := ob_some hJ
    refine jc_Vi (As := [.int (8 : Int32), .int x1, .int x2]) C w (cc_X10_log N t0 (h.sbi a9 x1.toNatClampNeg x2) (8 : Int32) x1 x2 hk0 e13) (mo_X10_log N t0 (h.sbi a9 x1.toNatClampNeg x2) (8 : Int32) x1 x2 e13) (mb_X10_undo_115 N t0 _ _ _ hJ) hz2 hk0 (by decide) rfl (fs := fs13 (h.sbi a9 x1.toNatClampNeg x2) t0) rfl rfl ⟨tw_7_222, tw_7_219, tw_7_221, ts_49, tw_1_7⟩ cd_X10_log ⟨by decide, by decide⟩ hl.1 (by first | exact Nat.le_of_ble_eq_true rfl | simp [rf_cat, cat_i, cat_l, cat_r]) rfl dX10_undo_112 (fun H locs w1 => ?_)
    have hk14 := kd_keep w (mo_X10_log N t0 (h.sbi a9 x1.toNatClampNeg x2) (8 : Int32) x1 x2 e13) hk0 (by decide)
    have w := w1
    exact sb_X10_undo_115 C hz2 N t0 _ _ _ hJ hk14 w (lv_sub (l' := [(0, .ref t0), (1, .int x1)]) hl [0, 1] rfl)
  · have hJ := it_neg c8 hJ
    refine lv_aload_n hx hb dX10_undo_64 rfl (lv_at hl 0 rfl) ?_
    refine fg_1318 C w hk0 tw_6_181 dX10_undo_65 ?_
    refine lv_iload_n hx hb dX10_undo_68 rfl (lv_at hl 3 rfl) ?_
    refine lv_aload_n hx hb dX10_undo_69 rfl (lv_at hl 0 rfl) ?_
    refine fg_1318 C w hk0 tw_6_181 dX10_undo_70 ?_
    refine lv_iload_n hx hb dX10_undo_73 rfl (lv_at hl 3 rfl) ?_
    obtain ⟨a15, ea15, hka15, hJ⟩ := dr_some hJ
    rw [ea15]
    obtain ⟨hi16, hJ⟩ := ck_some hJ
    refine jr_zaldM C w hka15 hi16 dX10_undo_74 ?_
    refine lv_if_ne (tgt := 88) hx hb dX10_undo_75 (by decide) (fun c17 => ?_) (fun c17 => ?_)
    · have hJ := it_neg c17 hJ
      exact sb_X10_undo_88 C hz2 N k56 t0 m56 i56 _ _ _ _ _ _ hJ hk0 w hl
    · have hJ := it_pos c17 hJ
      refine lv_aload_n hx hb dX10_undo_78 rfl (lv_at hl 0 rfl) ?_
      refine fg_1314 C w hk0 tw_6_177 dX10_undo_79 ?_
      refine lv_iload_n hx hb dX10_undo_82 rfl (lv_at hl 3 rfl) ?_
      obtain ⟨a18, ea18, hka18, hJ⟩ := dr_some hJ
      rw [ea18]
      obtain ⟨hi19, hJ⟩ := ck_some hJ
      refine jr_ialdM C w hka18 hi19 dX10_undo_83 ?_
      refine lv_iload_n hx hb dX10_undo_84 rfl (lv_at hl 1 rfl) ?_
      refine lv_icmp_ne (tgt := 92) hx hb dX10_undo_85 (by decide) (fun c20 => ?_) (fun c20 => ?_)
      · have hJ := it_neg c20 hJ
        refine lv_iconst (v := (0 : Int32)) hx hb dX10_undo_92 (by decide) ?_
        exact sb_X10_undo_93 C hz2 N k56 t0 m56 i56 _ _ _ _ _ _ _ hJ hk0 w hl
      · have hJ := it_pos c20 hJ
        exact sb_X10_undo_88 C hz2 N k56 t0 m56 i56 _ _ _ _ _ _ hJ hk0 w hl
def L_X10_undo_56 (N : Nat) (t0 : Nat) : Nat → Hp → Int32 → Int32 → Int32 → Option (Hp × Int32)
  | 0 => fun _ _ _ _ => none
  | n + 1 => fun h x1 x2 x3 => B_X10_undo_56 N (L_X10_undo_56 N t0 n) t0 h x1 x2 x3
theorem ml_X10_undo_56 (N : Nat) (t0 : Nat) : ∀ (n : Nat) (h : Hp) (x1 : Int32) (x2 : Int32) (x3 : Int32), L_X10_undo_56 N t0 n h x1 x2 x3 = some (hz, rz) → Mo h hz := by
  intro n
  induction n with
  | zero => intro h x1 x2 x3 hJ; cases hJ
  | succ n ih => intro h x1 x2 x3 hJ; exact mb_X10_undo_56 N (L_X10_undo_56 N t0 n) t0 h x1 x2 x3 ih hJ
theorem sl_X10_undo_56 (C : Cx p s m args meth c cX10_undo 4 (some .int) RX10 D cs A h0.se) (hz2 : hz.nx ≤ h0.nx + mc ∧ hz.su ≤ h0.su + ms) (N : Nat) (t0 : Nat) : ∀ n : Nat, ∀ (h : Hp) (x1 : Int32) (x2 : Int32) (x3 : Int32) (H : Heap) (locs : List Loc) (cells slots : Nat) (ls : Array Slot), L_X10_undo_56 N t0 n h x1 x2 x3 = some (hz, rz) → h.kd t0 = 13 → Wo D cs A s h0 h H locs cells slots → lv_has ls 4 [(0, .ref t0), (1, .int x1), (2, .int x2), (3, .int x3)] → W p l e { frames := 2, cells := mc, slots := ms, locals := 60 } s m args below meth c H locs cells slots (MQ below (Zi D cs A hz rz) args s mc ms A) (F0 m 56 ls []) := by
  intro n
  induction n with
  | zero => intro h x1 x2 x3 H locs cells slots ls hJ; cases hJ
  | succ n ih =>
    intro h x1 x2 x3 H locs cells slots ls hJ hk0 w hl
    exact sb_X10_undo_56 C hz2 N (L_X10_undo_56 N t0 n) t0 (ml_X10_undo_56 N t0 n) ih h x1 x2 x3 hJ hk0 w hl
def B_X10_undo_15 (N : Nat) (t0 : Nat) (h : Hp) (x1 : Int32) (x2 : Int32) (y0 : Int32) : Option (Hp × Int32) := if y0 = 0 then (if x2 < (1 : Int32) then (B_X10_undo_35 N t0 h) else (dr h 30 (h.gr 1309 t0) (fun a23 => ck (¬ (x1 < 0 ∨ h.al a23 ≤ x1.toNatClampNeg)) (if x2 ≤ (h.bi a23 x1.toNatClampNeg) then (dr h 30 (h.gr 1310 t0) (fun a26 => ck (¬ ((((10 : Int32) * x1) + x2) - (1 : Int32) < 0 ∨ h.al a26 ≤ ((((10 : Int32) * x1) + x2) - (1 : Int32)).toNatClampNeg)) (L_X10_undo_56 N t0 N h x1 x2 (h.bi a26 ((((10 : Int32) * x1) + x2) - (1 : Int32)).toNatClampNeg)))) else (B_X10_undo_35 N t0 h))))) else (some (h, (0 : Int32)))
theorem mb_X10_undo_15 (N : Nat) (t0 : Nat) (h : Hp) (x1 : Int32) (x2 : Int32) (y0 : Int32) (hJ : B_X10_undo_15 N t0 h x1 x2 y0 = some (hz, rz)) : Mo h hz := by
  unfold B_X10_undo_15 at hJ
  by_cases c21 : y0 = 0
  · have hJ := it_pos c21 hJ
    by_cases c22 : x2 < (1 : Int32)
    · have hJ := it_pos c22 hJ
      exact mb_X10_undo_35 N t0 _ hJ
    · have hJ := it_neg c22 hJ
      obtain ⟨a23, ea23, -, hJ⟩ := dr_some hJ
      obtain ⟨-, hJ⟩ := ck_some hJ
      by_cases c25 : x2 ≤ (h.bi a23 x1.toNatClampNeg)
      · have hJ := it_pos c25 hJ
        obtain ⟨a26, ea26, -, hJ⟩ := dr_some hJ
        obtain ⟨-, hJ⟩ := ck_some hJ
        exact ml_X10_undo_56 N t0 N _ _ _ _ hJ
      · have hJ := it_neg c25 hJ
        exact mb_X10_undo_35 N t0 _ hJ
  · have hJ := it_neg c21 hJ
    obtain ⟨rfl, -⟩ := rs2 hJ
    exact ⟨fun _ _ => rfl, Nat.le_refl _, Nat.le_refl _, rfl, fun _ _ => rfl⟩
set_option maxRecDepth 100000 in
set_option maxHeartbeats 4000000 in
theorem sb_X10_undo_15 (C : Cx p s m args meth c cX10_undo 4 (some .int) RX10 D cs A h0.se) (hz2 : hz.nx ≤ h0.nx + mc ∧ hz.su ≤ h0.su + ms) (N : Nat) (t0 : Nat) (h : Hp) (x1 : Int32) (x2 : Int32) (y0 : Int32) (hJ : B_X10_undo_15 N t0 h x1 x2 y0 = some (hz, rz)) (hk0 : h.kd t0 = 13) {H : Heap} {locs : List Loc} {cells slots : Nat} (w : Wo D cs A s h0 h H locs cells slots) {ls : Array Slot} (hl : lv_has ls 4 [(0, .ref t0), (1, .int x1), (2, .int x2)]) : W p l e { frames := 2, cells := mc, slots := ms, locals := 60 } s m args below meth c H locs cells slots (MQ below (Zi D cs A hz rz) args s mc ms A) (F0 m 15 ls [.int y0]) := by
  obtain ⟨hx, hb, hml, hown, hts, -⟩ := id C
  unfold B_X10_undo_15 at hJ
  refine lv_if_eq (tgt := 20) hx hb dX10_undo_15 (by decide) (fun c21 => ?_) (fun c21 => ?_)
  · have hJ := it_pos c21 hJ
    refine lv_iload_n hx hb dX10_undo_20 rfl (lv_at hl 2 rfl) ?_
    refine lv_iconst (v := (1 : Int32)) hx hb dX10_undo_21 (by decide) ?_
    refine lv_icmp_lt (tgt := 35) hx hb dX10_undo_22 (by decide) (fun c22 => ?_) (fun c22 => ?_)
    · have hJ := it_pos c22 hJ
      exact sb_X10_undo_35 C hz2 N t0 _ hJ hk0 w (lv_sub (l' := [(0, .ref t0)]) hl [0] rfl)
    · have hJ := it_neg c22 hJ
      refine lv_iload_n hx hb dX10_undo_25 rfl (lv_at hl 2 rfl) ?_
      refine lv_aload_n hx hb dX10_undo_26 rfl (lv_at hl 0 rfl) ?_
      refine fg_1309 C w hk0 tw_6_172 dX10_undo_27 ?_
      refine lv_iload_n hx hb dX10_undo_30 rfl (lv_at hl 1 rfl) ?_
      obtain ⟨a23, ea23, hka23, hJ⟩ := dr_some hJ
      rw [ea23]
      obtain ⟨hi24, hJ⟩ := ck_some hJ
      refine jr_ialdM C w hka23 hi24 dX10_undo_31 ?_
      refine lv_icmp_le (tgt := 42) hx hb dX10_undo_32 (by decide) (fun c25 => ?_) (fun c25 => ?_)
      · have hJ := it_pos c25 hJ
        refine lv_aload_n hx hb dX10_undo_42 rfl (lv_at hl 0 rfl) ?_
        refine fg_1310 C w hk0 tw_6_173 dX10_undo_43 ?_
        refine lv_bipush (v := (10 : Int32)) hx hb dX10_undo_46 (by decide) ?_
        refine lv_iload_n hx hb dX10_undo_48 rfl (lv_at hl 1 rfl) ?_
        refine lv_imul hx hb dX10_undo_49 ?_
        refine lv_iload_n hx hb dX10_undo_50 rfl (lv_at hl 2 rfl) ?_
        refine lv_iadd hx hb dX10_undo_51 ?_
        refine lv_iconst (v := (1 : Int32)) hx hb dX10_undo_52 (by decide) ?_
        refine lv_isub hx hb dX10_undo_53 ?_
        obtain ⟨a26, ea26, hka26, hJ⟩ := dr_some hJ
        rw [ea26]
        obtain ⟨hi27, hJ⟩ := ck_some hJ
        refine jr_ialdM C w hka26 hi27 dX10_undo_54 ?_
        refine lv_istore_n (i := 3) (lv' := [(3, .int (h.bi a26 ((((10 : Int32) * x1) + x2) - (1 : Int32)).toNatClampNeg)), (0, .ref t0), (1, .int x1), (2, .int x2)]) hx hb dX10_undo_55 rfl hl (by decide) rfl (fun ls hl => ?_)
        exact sl_X10_undo_56 C hz2 N t0 N _ _ _ _ _ _ _ _ _ hJ hk0 w (lv_sub (l' := [(0, .ref t0), (1, .int x1), (2, .int x2), (3, .int (h.bi a26 ((((10 : Int32) * x1) + x2) - (1 : Int32)).toNatClampNeg))]) hl [1, 2, 3, 0] rfl)
      · have hJ := it_neg c25 hJ
        exact sb_X10_undo_35 C hz2 N t0 _ hJ hk0 w (lv_sub (l' := [(0, .ref t0)]) hl [0] rfl)
  · have hJ := it_neg c21 hJ
    refine lv_iconst (v := (0 : Int32)) hx hb dX10_undo_18 (by decide) ?_
    obtain ⟨rfl, rfl⟩ := rs2 hJ
    exact jr_iret C w hz2 dX10_undo_19
def B_X10_undo_0 (N : Nat) (t0 : Nat) (h : Hp) (x1 : Int32) (x2 : Int32) : Option (Hp × Int32) := (J_X10_isIdle N t0 (h.sgi 1313 t0 ((h.gi 1313 t0) + (1 : Int32))) x1).bind (fun z => B_X10_undo_15 N t0 z.1 x1 x2 z.2)
theorem mb_X10_undo_0 (N : Nat) (t0 : Nat) (h : Hp) (x1 : Int32) (x2 : Int32) (hJ : B_X10_undo_0 N t0 h x1 x2 = some (hz, rz)) : Mo h hz := by
  unfold B_X10_undo_0 at hJ
  obtain ⟨⟨h28, r29⟩, e30, hJ⟩ := ob_some hJ
  exact (Mo.tr (show Mo h (h.sgi 1313 t0 ((h.gi 1313 t0) + (1 : Int32))) from ⟨fun _ _ => rfl, Nat.le_refl _, Nat.le_refl _, rfl, fun _ _ => rfl⟩) ((mo_X10_isIdle N t0 (h.sgi 1313 t0 ((h.gi 1313 t0) + (1 : Int32))) x1 e30).tr (mb_X10_undo_15 N t0 _ _ _ _ hJ)))
set_option maxRecDepth 100000 in
set_option maxHeartbeats 4000000 in
theorem sb_X10_undo_0 (C : Cx p s m args meth c cX10_undo 4 (some .int) RX10 D cs A h0.se) (hz2 : hz.nx ≤ h0.nx + mc ∧ hz.su ≤ h0.su + ms) (N : Nat) (t0 : Nat) (h : Hp) (x1 : Int32) (x2 : Int32) (hJ : B_X10_undo_0 N t0 h x1 x2 = some (hz, rz)) (hk0 : h.kd t0 = 13) {H : Heap} {locs : List Loc} {cells slots : Nat} (w : Wo D cs A s h0 h H locs cells slots) {ls : Array Slot} (hl : lv_has ls 4 [(0, .ref t0), (1, .int x1), (2, .int x2)]) : W p l e { frames := 2, cells := mc, slots := ms, locals := 60 } s m args below meth c H locs cells slots (MQ below (Zi D cs A hz rz) args s mc ms A) (F0 m 0 ls []) := by
  obtain ⟨hx, hb, hml, hown, hts, -⟩ := id C
  unfold B_X10_undo_0 at hJ
  refine lv_aload_n hx hb dX10_undo_0 rfl (lv_at hl 0 rfl) ?_
  refine lv_dup hx hb dX10_undo_1 rfl ?_
  refine fg_1313 C w hk0 tw_6_176 dX10_undo_2 ?_
  refine lv_iconst (v := (1 : Int32)) hx hb dX10_undo_5 (by decide) ?_
  refine lv_iadd hx hb dX10_undo_6 ?_
  refine fp_1313 (x := (h.gi 1313 t0) + (1 : Int32)) C w hk0 tw_6_176 dX10_undo_7 (fun H locs w => ?_)
  refine lv_aload_n hx hb dX10_undo_10 rfl (lv_at hl 0 rfl) ?_
  refine lv_iload_n hx hb dX10_undo_11 rfl (lv_at hl 1 rfl) ?_
  obtain ⟨⟨h28, r29⟩, e30, hJ⟩ := ob_some hJ
  refine jc_Vi (As := [.int x1]) C w (cc_X10_isIdle N t0 (h.sgi 1313 t0 ((h.gi 1313 t0) + (1 : Int32))) x1 hk0 e30) (mo_X10_isIdle N t0 (h.sgi 1313 t0 ((h.gi 1313 t0) + (1 : Int32))) x1 e30) (mb_X10_undo_15 N t0 _ _ _ _ hJ) hz2 hk0 (by decide) rfl (fs := fs13 (h.sgi 1313 t0 ((h.gi 1313 t0) + (1 : Int32))) t0) rfl rfl ⟨tw_7_174, tw_7_171, tw_7_173, ts_39, tw_1_7⟩ cd_X10_isIdle ⟨by decide, by decide⟩ hl.1 (by first | exact Nat.le_of_ble_eq_true rfl | simp [rf_cat, cat_i, cat_l, cat_r]) rfl dX10_undo_12 (fun H locs w1 => ?_)
  have hk31 := kd_keep w (mo_X10_isIdle N t0 (h.sgi 1313 t0 ((h.gi 1313 t0) + (1 : Int32))) x1 e30) hk0 (by decide)
  have w := w1
  exact sb_X10_undo_15 C hz2 N t0 _ _ _ _ hJ hk31 w hl
def J_X10_undo (N : Nat) (t0 : Nat) (h : Hp) (x1 : Int32) (x2 : Int32) : Option (Hp × Int32) := B_X10_undo_0 N t0 h x1 x2
theorem mo_X10_undo (N : Nat) (t0 : Nat) (h : Hp) (x1 : Int32) (x2 : Int32) (hJ : J_X10_undo N t0 h x1 x2 = some (hz, rz)) : Mo h hz := mb_X10_undo_0 N t0 h x1 x2 hJ
theorem cd_X10_undo : Cd yX10_undo 2 := ⟨by decide +kernel, by decide +kernel, by decide +kernel⟩
theorem cc_X10_undo (N : Nat) (t0 : Nat) (h : Hp) (x1 : Int32) (x2 : Int32) (hk0 : h.kd t0 = 13) (hJ : J_X10_undo N t0 h x1 x2 = some (hz, rz)) : Ci l yX10_undo cX10_undo 4 (some .int) 2 60 D cs h hz [.ref t0, .int x1, .int x2] rz := by
  intro mc ms g1 g2
  refine je_any (by decide) (by simp [lg_sl, rf_cat, cat_i, cat_l, cat_r]) ?_
  intro p e s m args below meth c C hin2 w ls hl
  have hl : lv_has ls 4 [(0, .ref t0), (1, .int x1), (2, .int x2)] := hl
  exact sb_X10_undo_0 C ⟨g1, g2⟩ N t0 h x1 x2 hJ hk0 w hl
end G_X10_undo
