section G_X9_read
variable {p : Program} {l : Launch} {e : Env} {s : State} {m : MethodId} {args : Array Value} {below : List Frame} {meth : Method} {c : Code} {D : va_G} {cs : C4} {A : Nat → Prop} {h0 hz : Hp} {mc ms : Nat} {rz : Int32}
def B_X9_read_20 (N : Nat) (t0 : Nat) (h : Hp) (y0 : Int32) : Option (Hp × Int32) := some (h, y0)
theorem mb_X9_read_20 (N : Nat) (t0 : Nat) (h : Hp) (y0 : Int32) (hJ : B_X9_read_20 N t0 h y0 = some (hz, rz)) : Mo h hz := by
  unfold B_X9_read_20 at hJ
  obtain ⟨rfl, -⟩ := rs2 hJ
  exact ⟨fun _ _ => rfl, Nat.le_refl _, Nat.le_refl _, rfl, fun _ _ => rfl⟩
set_option maxRecDepth 100000 in
set_option maxHeartbeats 4000000 in
theorem sb_X9_read_20 (C : Cx p s m args meth c cX9_read 4 (some .int) RX9 D cs A h0.se) (hz2 : hz.nx ≤ h0.nx + mc ∧ hz.su ≤ h0.su + ms) (N : Nat) (t0 : Nat) (h : Hp) (y0 : Int32) (hJ : B_X9_read_20 N t0 h y0 = some (hz, rz)) (hk0 : h.kd t0 = 12) {H : Heap} {locs : List Loc} {cells slots : Nat} (w : Wo D cs A s h0 h H locs cells slots) {ls : Array Slot} (hl : lv_has ls 4 [(0, .ref t0)]) : W p l e { frames := 10, cells := mc, slots := ms, locals := 320 } s m args below meth c H locs cells slots (MQ below (Zi D cs A hz rz) args s mc ms A) (F0 m 20 ls [.int y0]) := by
  obtain ⟨hx, hb, hml, hown, hts, -⟩ := id C
  unfold B_X9_read_20 at hJ
  obtain ⟨rfl, rfl⟩ := rs2 hJ
  exact jr_iret C w hz2 dX9_read_20
def B_X9_read_17 (N : Nat) (t0 : Nat) (h : Hp) (y0 : Option Nat) (y1 : Option Nat) (y2 : Option Nat) : Option (Hp × Int32) := dr h 12 y0 (fun a1 => (J_X9_carryOut N a1 h y1 y2).bind (fun z => B_X9_read_20 N t0 z.1 z.2))
theorem mb_X9_read_17 (N : Nat) (t0 : Nat) (h : Hp) (y0 : Option Nat) (y1 : Option Nat) (y2 : Option Nat) (hJ : B_X9_read_17 N t0 h y0 y1 y2 = some (hz, rz)) : Mo h hz := by
  unfold B_X9_read_17 at hJ
  obtain ⟨a1, ea1, -, hJ⟩ := dr_some hJ
  obtain ⟨⟨h2, r3⟩, e4, hJ⟩ := ob_some hJ
  exact (mo_X9_carryOut N a1 h y1 y2 e4).tr (mb_X9_read_20 N t0 _ _ hJ)
set_option maxRecDepth 100000 in
set_option maxHeartbeats 4000000 in
theorem sb_X9_read_17 (C : Cx p s m args meth c cX9_read 4 (some .int) RX9 D cs A h0.se) (hz2 : hz.nx ≤ h0.nx + mc ∧ hz.su ≤ h0.su + ms) (N : Nat) (t0 : Nat) (h : Hp) (y0 : Option Nat) (y1 : Option Nat) (y2 : Option Nat) (hJ : B_X9_read_17 N t0 h y0 y1 y2 = some (hz, rz)) (hk0 : h.kd t0 = 12) {H : Heap} {locs : List Loc} {cells slots : Nat} (w : Wo D cs A s h0 h H locs cells slots) {ls : Array Slot} (hl : lv_has ls 4 [(0, .ref t0)]) : W p l e { frames := 10, cells := mc, slots := ms, locals := 320 } s m args below meth c H locs cells slots (MQ below (Zi D cs A hz rz) args s mc ms A) (F0 m 17 ls [va_rf y2, va_rf y1, va_rf y0]) := by
  obtain ⟨hx, hb, hml, hown, hts, -⟩ := id C
  unfold B_X9_read_17 at hJ
  obtain ⟨a1, ea1, hka1, hJ⟩ := dr_some hJ
  rw [ea1]
  obtain ⟨⟨h2, r3⟩, e4, hJ⟩ := ob_some hJ
  refine jc_Vi (As := [va_rf y1, va_rf y2]) C w (cc_X9_carryOut N a1 h y1 y2 hka1 e4) (mo_X9_carryOut N a1 h y1 y2 e4) (mb_X9_read_20 N t0 _ _ hJ) hz2 hka1 (by decide) rfl (fs := fs12 h a1) rfl rfl ⟨tw_5_169, tw_5_166, tw_5_168, ts_18, tw_1_1⟩ cd_X9_carryOut ⟨by decide, by decide⟩ hl.1 (by first | exact Nat.le_of_ble_eq_true rfl | simp [rf_cat, cat_i, cat_l, cat_r]) rfl dX9_read_17 (fun H locs w1 => ?_)
  have hk5 := kd_keep w (mo_X9_carryOut N a1 h y1 y2 e4) hk0 (by decide)
  have w := w1
  exact sb_X9_read_20 C hz2 N t0 _ _ hJ hk5 w hl
def B_X9_read_11 (N : Nat) (t0 : Nat) (h : Hp) (x2 : Int32) (y0 : Option Nat) (y1 : Option Nat) (y2 : Option Nat) : Option (Hp × Int32) := dr h 5 y2 (fun a6 => (J_X2_init N a6 h (0 : Int32) x2).bind (fun z => B_X9_read_17 N t0 z.1 y0 y1 (some a6)))
theorem mb_X9_read_11 (N : Nat) (t0 : Nat) (h : Hp) (x2 : Int32) (y0 : Option Nat) (y1 : Option Nat) (y2 : Option Nat) (hJ : B_X9_read_11 N t0 h x2 y0 y1 y2 = some (hz, rz)) : Mo h hz := by
  unfold B_X9_read_11 at hJ
  obtain ⟨a6, ea6, -, hJ⟩ := dr_some hJ
  obtain ⟨⟨h7, r8⟩, e9, hJ⟩ := ob_some hJ
  exact (mo_X2_init N a6 h (0 : Int32) x2 e9).tr (mb_X9_read_17 N t0 _ _ _ _ hJ)
set_option maxRecDepth 100000 in
set_option maxHeartbeats 4000000 in
theorem sb_X9_read_11 (C : Cx p s m args meth c cX9_read 4 (some .int) RX9 D cs A h0.se) (hz2 : hz.nx ≤ h0.nx + mc ∧ hz.su ≤ h0.su + ms) (N : Nat) (t0 : Nat) (h : Hp) (x2 : Int32) (y0 : Option Nat) (y1 : Option Nat) (y2 : Option Nat) (hJ : B_X9_read_11 N t0 h x2 y0 y1 y2 = some (hz, rz)) (hk0 : h.kd t0 = 12) {H : Heap} {locs : List Loc} {cells slots : Nat} (w : Wo D cs A s h0 h H locs cells slots) {ls : Array Slot} (hl : lv_has ls 4 [(0, .ref t0), (2, .int x2)]) : W p l e { frames := 10, cells := mc, slots := ms, locals := 320 } s m args below meth c H locs cells slots (MQ below (Zi D cs A hz rz) args s mc ms A) (F0 m 11 ls [va_rf y2, va_rf y1, va_rf y0]) := by
  obtain ⟨hx, hb, hml, hown, hts, -⟩ := id C
  unfold B_X9_read_11 at hJ
  refine lv_dup hx hb dX9_read_11 (rf_cat _) ?_
  refine lv_iconst (v := (0 : Int32)) hx hb dX9_read_12 (by decide) ?_
  refine lv_iload_n hx hb dX9_read_13 rfl (lv_at hl 1 rfl) ?_
  obtain ⟨a6, ea6, hka6, hJ⟩ := dr_some hJ
  rw [ea6]
  obtain ⟨⟨h7, r8⟩, e9, hJ⟩ := ob_some hJ
  refine jc_I (As := [.int (0 : Int32), .int x2]) C w (cc_X2_init N a6 h (0 : Int32) x2 hka6 e9) (mo_X2_init N a6 h (0 : Int32) x2 e9) (mb_X9_read_17 N t0 _ _ _ _ hJ) hz2 tw_5_135 tw_5_133 tw_5_134 tw_1_21 rfl cd_X2_init ⟨by decide, by decide⟩ hl.1 (by first | exact Nat.le_of_ble_eq_true rfl | simp [rf_cat, cat_i, cat_l, cat_r]) rfl dX9_read_14 (fun H locs w1 => ?_)
  have hk10 := kd_keep w (mo_X2_init N a6 h (0 : Int32) x2 e9) hk0 (by decide)
  have w := w1
  exact sb_X9_read_17 C hz2 N t0 _ _ _ _ hJ hk10 w (lv_sub (l' := [(0, .ref t0)]) hl [0] rfl)
def B_X9_read_5 (N : Nat) (t0 : Nat) (h : Hp) (x2 : Int32) (y0 : Option Nat) : Option (Hp × Int32) := B_X9_read_11 N t0 (h.new 5 0 7) x2 (some t0) y0 (some h.nx)
theorem mb_X9_read_5 (N : Nat) (t0 : Nat) (h : Hp) (x2 : Int32) (y0 : Option Nat) (hJ : B_X9_read_5 N t0 h x2 y0 = some (hz, rz)) : Mo h hz := by
  unfold B_X9_read_5 at hJ
  exact (Mo.new h _ _ _).tr (mb_X9_read_11 N t0 _ _ _ _ _ hJ)
set_option maxRecDepth 100000 in
set_option maxHeartbeats 4000000 in
theorem sb_X9_read_5 (C : Cx p s m args meth c cX9_read 4 (some .int) RX9 D cs A h0.se) (hz2 : hz.nx ≤ h0.nx + mc ∧ hz.su ≤ h0.su + ms) (N : Nat) (t0 : Nat) (h : Hp) (x2 : Int32) (y0 : Option Nat) (hJ : B_X9_read_5 N t0 h x2 y0 = some (hz, rz)) (hk0 : h.kd t0 = 12) {H : Heap} {locs : List Loc} {cells slots : Nat} (w : Wo D cs A s h0 h H locs cells slots) {ls : Array Slot} (hl : lv_has ls 4 [(0, .ref t0), (2, .int x2)]) : W p l e { frames := 10, cells := mc, slots := ms, locals := 320 } s m args below meth c H locs cells slots (MQ below (Zi D cs A hz rz) args s mc ms A) (F0 m 5 ls [va_rf y0]) := by
  obtain ⟨hx, hb, hml, hown, hts, -⟩ := id C
  unfold B_X9_read_5 at hJ
  refine jv_astore_n (i := 3) (lv' := [(3, va_rf y0), (0, .ref t0), (2, .int x2)]) hx hb dX9_read_5 rfl hl (by decide) rfl (fun ls hl => ?_)
  refine lv_aload_n hx hb dX9_read_6 rfl (lv_at hl 1 rfl) ?_
  refine jv_aload_n hx hb dX9_read_7 rfl (lv_at hl 0 rfl) ?_
  have w0 := w
  refine fn_5 C w (mb_X9_read_11 N t0 _ _ _ _ _ hJ) hz2 tw_5_131 dX9_read_8 (fun H w => ?_)
  have hk11 := kd_new (k := 5) (n := 0) (sl := 7) w0 hk0 (by decide)
  exact sb_X9_read_11 C hz2 N t0 _ _ _ _ _ hJ hk11 w (lv_sub (l' := [(0, .ref t0), (2, .int x2)]) hl [1, 2] rfl)
def B_X9_read_0 (N : Nat) (t0 : Nat) (h : Hp) (x1 : Int32) (x2 : Int32) : Option (Hp × Int32) := (J_X9_activeOne N t0 h x1).bind (fun z => B_X9_read_5 N t0 z.1 x2 z.2)
theorem mb_X9_read_0 (N : Nat) (t0 : Nat) (h : Hp) (x1 : Int32) (x2 : Int32) (hJ : B_X9_read_0 N t0 h x1 x2 = some (hz, rz)) : Mo h hz := by
  unfold B_X9_read_0 at hJ
  obtain ⟨⟨h12, r13⟩, e14, hJ⟩ := ob_some hJ
  exact (mo_X9_activeOne N t0 h x1 e14).tr (mb_X9_read_5 N t0 _ _ _ hJ)
set_option maxRecDepth 100000 in
set_option maxHeartbeats 4000000 in
theorem sb_X9_read_0 (C : Cx p s m args meth c cX9_read 4 (some .int) RX9 D cs A h0.se) (hz2 : hz.nx ≤ h0.nx + mc ∧ hz.su ≤ h0.su + ms) (N : Nat) (t0 : Nat) (h : Hp) (x1 : Int32) (x2 : Int32) (hJ : B_X9_read_0 N t0 h x1 x2 = some (hz, rz)) (hk0 : h.kd t0 = 12) {H : Heap} {locs : List Loc} {cells slots : Nat} (w : Wo D cs A s h0 h H locs cells slots) {ls : Array Slot} (hl : lv_has ls 4 [(0, .ref t0), (1, .int x1), (2, .int x2)]) : W p l e { frames := 10, cells := mc, slots := ms, locals := 320 } s m args below meth c H locs cells slots (MQ below (Zi D cs A hz rz) args s mc ms A) (F0 m 0 ls []) := by
  obtain ⟨hx, hb, hml, hown, hts, -⟩ := id C
  unfold B_X9_read_0 at hJ
  refine lv_aload_n hx hb dX9_read_0 rfl (lv_at hl 0 rfl) ?_
  refine lv_iload_n hx hb dX9_read_1 rfl (lv_at hl 1 rfl) ?_
  obtain ⟨⟨h12, r13⟩, e14, hJ⟩ := ob_some hJ
  refine jc_Vq (As := [.int x1]) C w (cc_X9_activeOne N t0 h x1 hk0 e14) (mo_X9_activeOne N t0 h x1 e14) (mb_X9_read_5 N t0 _ _ _ hJ) hz2 hk0 (by decide) rfl (fs := fs12 h t0) rfl rfl ⟨tw_5_114, tw_5_111, tw_5_113, ts_17, tw_1_1⟩ cd_X9_activeOne ⟨by decide, by decide⟩ hl.1 (by first | exact Nat.le_of_ble_eq_true rfl | simp [rf_cat, cat_i, cat_l, cat_r]) rfl dX9_read_2 (fun H locs w1 => ?_)
  have hk15 := kd_keep w (mo_X9_activeOne N t0 h x1 e14) hk0 (by decide)
  have w := w1
  exact sb_X9_read_5 C hz2 N t0 _ _ _ hJ hk15 w (lv_sub (l' := [(0, .ref t0), (2, .int x2)]) hl [0, 2] rfl)
def J_X9_read (N : Nat) (t0 : Nat) (h : Hp) (x1 : Int32) (x2 : Int32) : Option (Hp × Int32) := B_X9_read_0 N t0 h x1 x2
theorem mo_X9_read (N : Nat) (t0 : Nat) (h : Hp) (x1 : Int32) (x2 : Int32) (hJ : J_X9_read N t0 h x1 x2 = some (hz, rz)) : Mo h hz := mb_X9_read_0 N t0 h x1 x2 hJ
theorem cd_X9_read : Cd yX9_read 2 := ⟨by decide +kernel, by decide +kernel, by decide +kernel⟩
theorem cc_X9_read (N : Nat) (t0 : Nat) (h : Hp) (x1 : Int32) (x2 : Int32) (hk0 : h.kd t0 = 12) (hJ : J_X9_read N t0 h x1 x2 = some (hz, rz)) : Ci l yX9_read cX9_read 4 (some .int) 10 320 D cs h hz [.ref t0, .int x1, .int x2] rz := by
  intro mc ms g1 g2
  refine je_any (by decide) (by simp [lg_sl, rf_cat, cat_i, cat_l, cat_r]) ?_
  intro p e s m args below meth c C hin2 w ls hl
  have hl : lv_has ls 4 [(0, .ref t0), (1, .int x1), (2, .int x2)] := hl
  exact sb_X9_read_0 C ⟨g1, g2⟩ N t0 h x1 x2 hJ hk0 w hl
end G_X9_read
section G_X9_near
variable {p : Program} {l : Launch} {e : Env} {s : State} {m : MethodId} {args : Array Value} {below : List Frame} {meth : Method} {c : Code} {D : va_G} {cs : C4} {A : Nat → Prop} {h0 hz : Hp} {mc ms : Nat} {rz : Int32}
def B_X9_near_32 (N : Nat) (t0 : Nat) (h : Hp) (y0 : Int32) : Option (Hp × Int32) := some (h, y0)
theorem mb_X9_near_32 (N : Nat) (t0 : Nat) (h : Hp) (y0 : Int32) (hJ : B_X9_near_32 N t0 h y0 = some (hz, rz)) : Mo h hz := by
  unfold B_X9_near_32 at hJ
  obtain ⟨rfl, -⟩ := rs2 hJ
  exact ⟨fun _ _ => rfl, Nat.le_refl _, Nat.le_refl _, rfl, fun _ _ => rfl⟩
set_option maxRecDepth 100000 in
set_option maxHeartbeats 4000000 in
theorem sb_X9_near_32 (C : Cx p s m args meth c cX9_near 6 (some .int) RX9 D cs A h0.se) (hz2 : hz.nx ≤ h0.nx + mc ∧ hz.su ≤ h0.su + ms) (N : Nat) (t0 : Nat) (h : Hp) (y0 : Int32) (hJ : B_X9_near_32 N t0 h y0 = some (hz, rz)) (hk0 : h.kd t0 = 12) {H : Heap} {locs : List Loc} {cells slots : Nat} (w : Wo D cs A s h0 h H locs cells slots) {ls : Array Slot} (hl : lv_has ls 6 [(0, .ref t0)]) : W p l e { frames := 10, cells := mc, slots := ms, locals := 320 } s m args below meth c H locs cells slots (MQ below (Zi D cs A hz rz) args s mc ms A) (F0 m 32 ls [.int y0]) := by
  obtain ⟨hx, hb, hml, hown, hts, -⟩ := id C
  unfold B_X9_near_32 at hJ
  obtain ⟨rfl, rfl⟩ := rs2 hJ
  exact jr_iret C w hz2 dX9_near_32
def B_X9_near_16 (N : Nat) (t0 : Nat) (h : Hp) (x3 : Int32) (x4 : Option Nat) (y0 : Option Nat) : Option (Hp × Int32) := dr h 5 y0 (fun a1 => ck (x3 = 0 ∨ x3 = 1) ((J_X9_carryOut N t0 (h.sfi 504 a1 x3) x4 (some a1)).bind (fun z => B_X9_near_32 N t0 z.1 z.2)))
theorem mb_X9_near_16 (N : Nat) (t0 : Nat) (h : Hp) (x3 : Int32) (x4 : Option Nat) (y0 : Option Nat) (hJ : B_X9_near_16 N t0 h x3 x4 y0 = some (hz, rz)) : Mo h hz := by
  unfold B_X9_near_16 at hJ
  obtain ⟨a1, ea1, -, hJ⟩ := dr_some hJ
  obtain ⟨-, hJ⟩ := ck_some hJ
  obtain ⟨⟨h3, r4⟩, e5, hJ⟩ := ob_some hJ
  exact (Mo.tr (show Mo h (h.sfi 504 a1 x3) from ⟨fun _ _ => rfl, Nat.le_refl _, Nat.le_refl _, rfl, fun _ _ => rfl⟩) ((mo_X9_carryOut N t0 (h.sfi 504 a1 x3) x4 (some a1) e5).tr (mb_X9_near_32 N t0 _ _ hJ)))
set_option maxRecDepth 100000 in
set_option maxHeartbeats 4000000 in
theorem sb_X9_near_16 (C : Cx p s m args meth c cX9_near 6 (some .int) RX9 D cs A h0.se) (hz2 : hz.nx ≤ h0.nx + mc ∧ hz.su ≤ h0.su + ms) (N : Nat) (t0 : Nat) (h : Hp) (x3 : Int32) (x4 : Option Nat) (y0 : Option Nat) (hJ : B_X9_near_16 N t0 h x3 x4 y0 = some (hz, rz)) (hk0 : h.kd t0 = 12) {H : Heap} {locs : List Loc} {cells slots : Nat} (w : Wo D cs A s h0 h H locs cells slots) {ls : Array Slot} (hl : lv_has ls 6 [(0, .ref t0), (3, .int x3), (4, va_rf x4)]) : W p l e { frames := 10, cells := mc, slots := ms, locals := 320 } s m args below meth c H locs cells slots (MQ below (Zi D cs A hz rz) args s mc ms A) (F0 m 16 ls [va_rf y0]) := by
  obtain ⟨hx, hb, hml, hown, hts, -⟩ := id C
  unfold B_X9_near_16 at hJ
  refine jv_astore (i := 5) (lv' := [(5, va_rf y0), (0, .ref t0), (3, .int x3), (4, va_rf x4)]) hx hb dX9_near_16 hl (by decide) (by simp [List.filter, rf_cat, cat_i, cat_l, cat_r]) (fun ls hl => ?_)
  refine jv_aload hx hb dX9_near_18 (lv_at hl 0 rfl) ?_
  refine lv_iload_n hx hb dX9_near_20 rfl (lv_at hl 2 rfl) ?_
  obtain ⟨a1, ea1, hka1, hJ⟩ := dr_some hJ
  rw [ea1] at hl
  rw [ea1]
  obtain ⟨hzo2, hJ⟩ := ck_some hJ
  refine fp_504 (x := x3) C w hka1 hzo2 tw_5_145 dX9_near_21 (fun H locs w => ?_)
  refine lv_aload_n hx hb dX9_near_24 rfl (lv_at hl 1 rfl) ?_
  refine jv_aload hx hb dX9_near_25 (lv_at hl 3 rfl) ?_
  refine lv_aload hx hb dX9_near_27 (lv_at hl 0 rfl) ?_
  obtain ⟨⟨h3, r4⟩, e5, hJ⟩ := ob_some hJ
  refine jc_Vi (As := [va_rf x4, .ref a1]) C w (cc_X9_carryOut N t0 (h.sfi 504 a1 x3) x4 (some a1) hk0 e5) (mo_X9_carryOut N t0 (h.sfi 504 a1 x3) x4 (some a1) e5) (mb_X9_near_32 N t0 _ _ hJ) hz2 hk0 (by decide) rfl (fs := fs12 (h.sfi 504 a1 x3) t0) rfl rfl ⟨tw_5_169, tw_5_166, tw_5_168, ts_18, tw_1_1⟩ cd_X9_carryOut ⟨by decide, by decide⟩ hl.1 (by first | exact Nat.le_of_ble_eq_true rfl | simp [rf_cat, cat_i, cat_l, cat_r]) rfl dX9_near_29 (fun H locs w1 => ?_)
  have hk6 := kd_keep w (mo_X9_carryOut N t0 (h.sfi 504 a1 x3) x4 (some a1) e5) hk0 (by decide)
  have w := w1
  exact sb_X9_near_32 C hz2 N t0 _ _ hJ hk6 w (lv_sub (l' := [(0, .ref t0)]) hl [1] rfl)
def B_X9_near_10 (N : Nat) (t0 : Nat) (h : Hp) (x2 : Int32) (x3 : Int32) (x4 : Option Nat) (y0 : Option Nat) : Option (Hp × Int32) := dr h 5 y0 (fun a7 => (J_X2_init N a7 h (1 : Int32) x2).bind (fun z => B_X9_near_16 N t0 z.1 x3 x4 (some a7)))
theorem mb_X9_near_10 (N : Nat) (t0 : Nat) (h : Hp) (x2 : Int32) (x3 : Int32) (x4 : Option Nat) (y0 : Option Nat) (hJ : B_X9_near_10 N t0 h x2 x3 x4 y0 = some (hz, rz)) : Mo h hz := by
  unfold B_X9_near_10 at hJ
  obtain ⟨a7, ea7, -, hJ⟩ := dr_some hJ
  obtain ⟨⟨h8, r9⟩, e10, hJ⟩ := ob_some hJ
  exact (mo_X2_init N a7 h (1 : Int32) x2 e10).tr (mb_X9_near_16 N t0 _ _ _ _ hJ)
set_option maxRecDepth 100000 in
set_option maxHeartbeats 4000000 in
theorem sb_X9_near_10 (C : Cx p s m args meth c cX9_near 6 (some .int) RX9 D cs A h0.se) (hz2 : hz.nx ≤ h0.nx + mc ∧ hz.su ≤ h0.su + ms) (N : Nat) (t0 : Nat) (h : Hp) (x2 : Int32) (x3 : Int32) (x4 : Option Nat) (y0 : Option Nat) (hJ : B_X9_near_10 N t0 h x2 x3 x4 y0 = some (hz, rz)) (hk0 : h.kd t0 = 12) {H : Heap} {locs : List Loc} {cells slots : Nat} (w : Wo D cs A s h0 h H locs cells slots) {ls : Array Slot} (hl : lv_has ls 6 [(0, .ref t0), (2, .int x2), (3, .int x3), (4, va_rf x4)]) : W p l e { frames := 10, cells := mc, slots := ms, locals := 320 } s m args below meth c H locs cells slots (MQ below (Zi D cs A hz rz) args s mc ms A) (F0 m 10 ls [va_rf y0]) := by
  obtain ⟨hx, hb, hml, hown, hts, -⟩ := id C
  unfold B_X9_near_10 at hJ
  refine lv_dup hx hb dX9_near_10 (rf_cat _) ?_
  refine lv_iconst (v := (1 : Int32)) hx hb dX9_near_11 (by decide) ?_
  refine lv_iload_n hx hb dX9_near_12 rfl (lv_at hl 1 rfl) ?_
  obtain ⟨a7, ea7, hka7, hJ⟩ := dr_some hJ
  rw [ea7]
  obtain ⟨⟨h8, r9⟩, e10, hJ⟩ := ob_some hJ
  refine jc_I (As := [.int (1 : Int32), .int x2]) C w (cc_X2_init N a7 h (1 : Int32) x2 hka7 e10) (mo_X2_init N a7 h (1 : Int32) x2 e10) (mb_X9_near_16 N t0 _ _ _ _ hJ) hz2 tw_5_135 tw_5_133 tw_5_134 tw_1_21 rfl cd_X2_init ⟨by decide, by decide⟩ hl.1 (by first | exact Nat.le_of_ble_eq_true rfl | simp [rf_cat, cat_i, cat_l, cat_r]) rfl dX9_near_13 (fun H locs w1 => ?_)
  have hk11 := kd_keep w (mo_X2_init N a7 h (1 : Int32) x2 e10) hk0 (by decide)
  have w := w1
  exact sb_X9_near_16 C hz2 N t0 _ _ _ _ hJ hk11 w (lv_sub (l' := [(0, .ref t0), (3, .int x3), (4, va_rf x4)]) hl [0, 2, 3] rfl)
def B_X9_near_5 (N : Nat) (t0 : Nat) (h : Hp) (x2 : Int32) (x3 : Int32) (y0 : Option Nat) : Option (Hp × Int32) := B_X9_near_10 N t0 (h.new 5 0 7) x2 x3 y0 (some h.nx)
theorem mb_X9_near_5 (N : Nat) (t0 : Nat) (h : Hp) (x2 : Int32) (x3 : Int32) (y0 : Option Nat) (hJ : B_X9_near_5 N t0 h x2 x3 y0 = some (hz, rz)) : Mo h hz := by
  unfold B_X9_near_5 at hJ
  exact (Mo.new h _ _ _).tr (mb_X9_near_10 N t0 _ _ _ _ _ hJ)
set_option maxRecDepth 100000 in
set_option maxHeartbeats 4000000 in
theorem sb_X9_near_5 (C : Cx p s m args meth c cX9_near 6 (some .int) RX9 D cs A h0.se) (hz2 : hz.nx ≤ h0.nx + mc ∧ hz.su ≤ h0.su + ms) (N : Nat) (t0 : Nat) (h : Hp) (x2 : Int32) (x3 : Int32) (y0 : Option Nat) (hJ : B_X9_near_5 N t0 h x2 x3 y0 = some (hz, rz)) (hk0 : h.kd t0 = 12) {H : Heap} {locs : List Loc} {cells slots : Nat} (w : Wo D cs A s h0 h H locs cells slots) {ls : Array Slot} (hl : lv_has ls 6 [(0, .ref t0), (2, .int x2), (3, .int x3)]) : W p l e { frames := 10, cells := mc, slots := ms, locals := 320 } s m args below meth c H locs cells slots (MQ below (Zi D cs A hz rz) args s mc ms A) (F0 m 5 ls [va_rf y0]) := by
  obtain ⟨hx, hb, hml, hown, hts, -⟩ := id C
  unfold B_X9_near_5 at hJ
  refine jv_astore (i := 4) (lv' := [(4, va_rf y0), (0, .ref t0), (2, .int x2), (3, .int x3)]) hx hb dX9_near_5 hl (by decide) rfl (fun ls hl => ?_)
  have w0 := w
  refine fn_5 C w (mb_X9_near_10 N t0 _ _ _ _ _ hJ) hz2 tw_5_131 dX9_near_7 (fun H w => ?_)
  have hk12 := kd_new (k := 5) (n := 0) (sl := 7) w0 hk0 (by decide)
  exact sb_X9_near_10 C hz2 N t0 _ _ _ _ _ hJ hk12 w (lv_sub (l' := [(0, .ref t0), (2, .int x2), (3, .int x3), (4, va_rf y0)]) hl [1, 2, 3, 0] rfl)
def B_X9_near_0 (N : Nat) (t0 : Nat) (h : Hp) (x1 : Int32) (x2 : Int32) (x3 : Int32) : Option (Hp × Int32) := (J_X9_activeOne N t0 h x1).bind (fun z => B_X9_near_5 N t0 z.1 x2 x3 z.2)
theorem mb_X9_near_0 (N : Nat) (t0 : Nat) (h : Hp) (x1 : Int32) (x2 : Int32) (x3 : Int32) (hJ : B_X9_near_0 N t0 h x1 x2 x3 = some (hz, rz)) : Mo h hz := by
  unfold B_X9_near_0 at hJ
  obtain ⟨⟨h13, r14⟩, e15, hJ⟩ := ob_some hJ
  exact (mo_X9_activeOne N t0 h x1 e15).tr (mb_X9_near_5 N t0 _ _ _ _ hJ)
set_option maxRecDepth 100000 in
set_option maxHeartbeats 4000000 in
theorem sb_X9_near_0 (C : Cx p s m args meth c cX9_near 6 (some .int) RX9 D cs A h0.se) (hz2 : hz.nx ≤ h0.nx + mc ∧ hz.su ≤ h0.su + ms) (N : Nat) (t0 : Nat) (h : Hp) (x1 : Int32) (x2 : Int32) (x3 : Int32) (hJ : B_X9_near_0 N t0 h x1 x2 x3 = some (hz, rz)) (hk0 : h.kd t0 = 12) {H : Heap} {locs : List Loc} {cells slots : Nat} (w : Wo D cs A s h0 h H locs cells slots) {ls : Array Slot} (hl : lv_has ls 6 [(0, .ref t0), (1, .int x1), (2, .int x2), (3, .int x3)]) : W p l e { frames := 10, cells := mc, slots := ms, locals := 320 } s m args below meth c H locs cells slots (MQ below (Zi D cs A hz rz) args s mc ms A) (F0 m 0 ls []) := by
  obtain ⟨hx, hb, hml, hown, hts, -⟩ := id C
  unfold B_X9_near_0 at hJ
  refine lv_aload_n hx hb dX9_near_0 rfl (lv_at hl 0 rfl) ?_
  refine lv_iload_n hx hb dX9_near_1 rfl (lv_at hl 1 rfl) ?_
  obtain ⟨⟨h13, r14⟩, e15, hJ⟩ := ob_some hJ
  refine jc_Vq (As := [.int x1]) C w (cc_X9_activeOne N t0 h x1 hk0 e15) (mo_X9_activeOne N t0 h x1 e15) (mb_X9_near_5 N t0 _ _ _ _ hJ) hz2 hk0 (by decide) rfl (fs := fs12 h t0) rfl rfl ⟨tw_5_114, tw_5_111, tw_5_113, ts_17, tw_1_1⟩ cd_X9_activeOne ⟨by decide, by decide⟩ hl.1 (by first | exact Nat.le_of_ble_eq_true rfl | simp [rf_cat, cat_i, cat_l, cat_r]) rfl dX9_near_2 (fun H locs w1 => ?_)
  have hk16 := kd_keep w (mo_X9_activeOne N t0 h x1 e15) hk0 (by decide)
  have w := w1
  exact sb_X9_near_5 C hz2 N t0 _ _ _ _ hJ hk16 w (lv_sub (l' := [(0, .ref t0), (2, .int x2), (3, .int x3)]) hl [0, 2, 3] rfl)
def J_X9_near (N : Nat) (t0 : Nat) (h : Hp) (x1 : Int32) (x2 : Int32) (x3 : Int32) : Option (Hp × Int32) := B_X9_near_0 N t0 h x1 x2 x3
theorem mo_X9_near (N : Nat) (t0 : Nat) (h : Hp) (x1 : Int32) (x2 : Int32) (x3 : Int32) (hJ : J_X9_near N t0 h x1 x2 x3 = some (hz, rz)) : Mo h hz := mb_X9_near_0 N t0 h x1 x2 x3 hJ
theorem cd_X9_near : Cd yX9_near 3 := ⟨by decide +kernel, by decide +kernel, by decide +kernel⟩
theorem cc_X9_near (N : Nat) (t0 : Nat) (h : Hp) (x1 : Int32) (x2 : Int32) (x3 : Int32) (hk0 : h.kd t0 = 12) (hJ : J_X9_near N t0 h x1 x2 x3 = some (hz, rz)) : Ci l yX9_near cX9_near 6 (some .int) 10 320 D cs h hz [.ref t0, .int x1, .int x2, .int x3] rz := by
  intro mc ms g1 g2
  refine je_any (by decide) (by simp [lg_sl, rf_cat, cat_i, cat_l, cat_r]) ?_
  intro p e s m args below meth c C hin2 w ls hl
  have hl : lv_has ls 6 [(0, .ref t0), (1, .int x1), (2, .int x2), (3, .int x3)] := hl
  exact sb_X9_near_0 C ⟨g1, g2⟩ N t0 h x1 x2 x3 hJ hk0 w hl
end G_X9_near
section G_X9_scan
variable {p : Program} {l : Launch} {e : Env} {s : State} {m : MethodId} {args : Array Value} {below : List Frame} {meth : Method} {c : Code} {D : va_G} {cs : C4} {A : Nat → Prop} {h0 hz : Hp} {mc ms : Nat} {rz : Int32}
def B_X9_scan_35 (N : Nat) (t0 : Nat) (h : Hp) : Option (Hp × Int32) := none
theorem mb_X9_scan_35 (N : Nat) (t0 : Nat) (h : Hp) (hJ : B_X9_scan_35 N t0 h = some (hz, rz)) : Mo h hz := by
  unfold B_X9_scan_35 at hJ
  cases hJ
set_option maxRecDepth 100000 in
set_option maxHeartbeats 4000000 in
theorem sb_X9_scan_35 (C : Cx p s m args meth c cX9_scan 7 (some .int) RX9 D cs A h0.se) (hz2 : hz.nx ≤ h0.nx + mc ∧ hz.su ≤ h0.su + ms) (N : Nat) (t0 : Nat) (h : Hp) (hJ : B_X9_scan_35 N t0 h = some (hz, rz)) (hk0 : h.kd t0 = 12) {H : Heap} {locs : List Loc} {cells slots : Nat} (w : Wo D cs A s h0 h H locs cells slots) {ls : Array Slot} (hl : lv_has ls 7 [(0, .ref t0)]) : W p l e { frames := 10, cells := mc, slots := ms, locals := 320 } s m args below meth c H locs cells slots (MQ below (Zi D cs A hz rz) args s mc ms A) (F0 m 35 ls []) := by
  obtain ⟨hx, hb, hml, hown, hts, -⟩ := id C
  unfold B_X9_scan_35 at hJ
  cases hJ
def B_X9_scan_77 (N : Nat) (t0 : Nat) (h : Hp) (y0 : Int32) : Option (Hp × Int32) := some (h, y0)
theorem mb_X9_scan_77 (N : Nat) (t0 : Nat) (h : Hp) (y0 : Int32) (hJ : B_X9_scan_77 N t0 h y0 = some (hz, rz)) : Mo h hz := by
  unfold B_X9_scan_77 at hJ
  obtain ⟨rfl, -⟩ := rs2 hJ
  exact ⟨fun _ _ => rfl, Nat.le_refl _, Nat.le_refl _, rfl, fun _ _ => rfl⟩
set_option maxRecDepth 100000 in
set_option maxHeartbeats 4000000 in
theorem sb_X9_scan_77 (C : Cx p s m args meth c cX9_scan 7 (some .int) RX9 D cs A h0.se) (hz2 : hz.nx ≤ h0.nx + mc ∧ hz.su ≤ h0.su + ms) (N : Nat) (t0 : Nat) (h : Hp) (y0 : Int32) (hJ : B_X9_scan_77 N t0 h y0 = some (hz, rz)) (hk0 : h.kd t0 = 12) {H : Heap} {locs : List Loc} {cells slots : Nat} (w : Wo D cs A s h0 h H locs cells slots) {ls : Array Slot} (hl : lv_has ls 7 [(0, .ref t0)]) : W p l e { frames := 10, cells := mc, slots := ms, locals := 320 } s m args below meth c H locs cells slots (MQ below (Zi D cs A hz rz) args s mc ms A) (F0 m 77 ls [.int y0]) := by
  obtain ⟨hx, hb, hml, hown, hts, -⟩ := id C
  unfold B_X9_scan_77 at hJ
  obtain ⟨rfl, rfl⟩ := rs2 hJ
  exact jr_iret C w hz2 dX9_scan_77
def B_X9_scan_54 (N : Nat) (t0 : Nat) (h : Hp) (x3 : Int32) (x4 : Int32) (x5 : Option Nat) (y0 : Option Nat) : Option (Hp × Int32) := dr h 5 y0 (fun a1 => (J_X9_carryOut N t0 ((h.sfi 502 a1 x3).sfi 503 a1 x4) x5 (some a1)).bind (fun z => B_X9_scan_77 N t0 z.1 z.2))
theorem mb_X9_scan_54 (N : Nat) (t0 : Nat) (h : Hp) (x3 : Int32) (x4 : Int32) (x5 : Option Nat) (y0 : Option Nat) (hJ : B_X9_scan_54 N t0 h x3 x4 x5 y0 = some (hz, rz)) : Mo h hz := by
  unfold B_X9_scan_54 at hJ
  obtain ⟨a1, ea1, -, hJ⟩ := dr_some hJ
  obtain ⟨⟨h2, r3⟩, e4, hJ⟩ := ob_some hJ
  exact (Mo.tr (show Mo h ((h.sfi 502 a1 x3).sfi 503 a1 x4) from ⟨fun _ _ => rfl, Nat.le_refl _, Nat.le_refl _, rfl, fun _ _ => rfl⟩) ((mo_X9_carryOut N t0 ((h.sfi 502 a1 x3).sfi 503 a1 x4) x5 (some a1) e4).tr (mb_X9_scan_77 N t0 _ _ hJ)))
set_option maxRecDepth 100000 in
set_option maxHeartbeats 4000000 in
theorem sb_X9_scan_54 (C : Cx p s m args meth c cX9_scan 7 (some .int) RX9 D cs A h0.se) (hz2 : hz.nx ≤ h0.nx + mc ∧ hz.su ≤ h0.su + ms) (N : Nat) (t0 : Nat) (h : Hp) (x3 : Int32) (x4 : Int32) (x5 : Option Nat) (y0 : Option Nat) (hJ : B_X9_scan_54 N t0 h x3 x4 x5 y0 = some (hz, rz)) (hk0 : h.kd t0 = 12) {H : Heap} {locs : List Loc} {cells slots : Nat} (w : Wo D cs A s h0 h H locs cells slots) {ls : Array Slot} (hl : lv_has ls 7 [(0, .ref t0), (3, .int x3), (4, .int x4), (5, va_rf x5)]) : W p l e { frames := 10, cells := mc, slots := ms, locals := 320 } s m args below meth c H locs cells slots (MQ below (Zi D cs A hz rz) args s mc ms A) (F0 m 54 ls [va_rf y0]) := by
  obtain ⟨hx, hb, hml, hown, hts, -⟩ := id C
  unfold B_X9_scan_54 at hJ
  refine jv_astore (i := 6) (lv' := [(6, va_rf y0), (0, .ref t0), (3, .int x3), (4, .int x4), (5, va_rf x5)]) hx hb dX9_scan_54 hl (by decide) (by simp [List.filter, rf_cat, cat_i, cat_l, cat_r]) (fun ls hl => ?_)
  refine jv_aload hx hb dX9_scan_56 (lv_at hl 0 rfl) ?_
  refine lv_iload_n hx hb dX9_scan_58 rfl (lv_at hl 2 rfl) ?_
  obtain ⟨a1, ea1, hka1, hJ⟩ := dr_some hJ
  rw [ea1] at hl
  rw [ea1]
  refine fp_502 (x := x3) C w hka1 tw_5_141 dX9_scan_59 (fun H locs w => ?_)
  refine lv_aload hx hb dX9_scan_62 (lv_at hl 0 rfl) ?_
  refine lv_iload hx hb dX9_scan_64 (lv_at hl 3 rfl) ?_
  refine fp_503 (x := x4) C w hka1 tw_5_143 dX9_scan_66 (fun H locs w => ?_)
  refine lv_aload_n hx hb dX9_scan_69 rfl (lv_at hl 1 rfl) ?_
  refine jv_aload hx hb dX9_scan_70 (lv_at hl 4 rfl) ?_
  refine lv_aload hx hb dX9_scan_72 (lv_at hl 0 rfl) ?_
  obtain ⟨⟨h2, r3⟩, e4, hJ⟩ := ob_some hJ
  refine jc_Vi (As := [va_rf x5, .ref a1]) C w (cc_X9_carryOut N t0 ((h.sfi 502 a1 x3).sfi 503 a1 x4) x5 (some a1) hk0 e4) (mo_X9_carryOut N t0 ((h.sfi 502 a1 x3).sfi 503 a1 x4) x5 (some a1) e4) (mb_X9_scan_77 N t0 _ _ hJ) hz2 hk0 (by decide) rfl (fs := fs12 ((h.sfi 502 a1 x3).sfi 503 a1 x4) t0) rfl rfl ⟨tw_5_169, tw_5_166, tw_5_168, ts_18, tw_1_1⟩ cd_X9_carryOut ⟨by decide, by decide⟩ hl.1 (by first | exact Nat.le_of_ble_eq_true rfl | simp [rf_cat, cat_i, cat_l, cat_r]) rfl dX9_scan_74 (fun H locs w1 => ?_)
  have hk5 := kd_keep w (mo_X9_carryOut N t0 ((h.sfi 502 a1 x3).sfi 503 a1 x4) x5 (some a1) e4) hk0 (by decide)
  have w := w1
  exact sb_X9_scan_77 C hz2 N t0 _ _ hJ hk5 w (lv_sub (l' := [(0, .ref t0)]) hl [1] rfl)
def B_X9_scan_48 (N : Nat) (t0 : Nat) (h : Hp) (x2 : Int32) (x3 : Int32) (x4 : Int32) (x5 : Option Nat) (y0 : Option Nat) : Option (Hp × Int32) := dr h 5 y0 (fun a6 => (J_X2_init N a6 h (2 : Int32) x2).bind (fun z => B_X9_scan_54 N t0 z.1 x3 x4 x5 (some a6)))
theorem mb_X9_scan_48 (N : Nat) (t0 : Nat) (h : Hp) (x2 : Int32) (x3 : Int32) (x4 : Int32) (x5 : Option Nat) (y0 : Option Nat) (hJ : B_X9_scan_48 N t0 h x2 x3 x4 x5 y0 = some (hz, rz)) : Mo h hz := by
  unfold B_X9_scan_48 at hJ
  obtain ⟨a6, ea6, -, hJ⟩ := dr_some hJ
  obtain ⟨⟨h7, r8⟩, e9, hJ⟩ := ob_some hJ
  exact (mo_X2_init N a6 h (2 : Int32) x2 e9).tr (mb_X9_scan_54 N t0 _ _ _ _ _ hJ)
set_option maxRecDepth 100000 in
set_option maxHeartbeats 4000000 in
theorem sb_X9_scan_48 (C : Cx p s m args meth c cX9_scan 7 (some .int) RX9 D cs A h0.se) (hz2 : hz.nx ≤ h0.nx + mc ∧ hz.su ≤ h0.su + ms) (N : Nat) (t0 : Nat) (h : Hp) (x2 : Int32) (x3 : Int32) (x4 : Int32) (x5 : Option Nat) (y0 : Option Nat) (hJ : B_X9_scan_48 N t0 h x2 x3 x4 x5 y0 = some (hz, rz)) (hk0 : h.kd t0 = 12) {H : Heap} {locs : List Loc} {cells slots : Nat} (w : Wo D cs A s h0 h H locs cells slots) {ls : Array Slot} (hl : lv_has ls 7 [(0, .ref t0), (2, .int x2), (3, .int x3), (4, .int x4), (5, va_rf x5)]) : W p l e { frames := 10, cells := mc, slots := ms, locals := 320 } s m args below meth c H locs cells slots (MQ below (Zi D cs A hz rz) args s mc ms A) (F0 m 48 ls [va_rf y0]) := by
  obtain ⟨hx, hb, hml, hown, hts, -⟩ := id C
  unfold B_X9_scan_48 at hJ
  refine lv_dup hx hb dX9_scan_48 (rf_cat _) ?_
  refine lv_iconst (v := (2 : Int32)) hx hb dX9_scan_49 (by decide) ?_
  refine lv_iload_n hx hb dX9_scan_50 rfl (lv_at hl 1 rfl) ?_
  obtain ⟨a6, ea6, hka6, hJ⟩ := dr_some hJ
  rw [ea6]
  obtain ⟨⟨h7, r8⟩, e9, hJ⟩ := ob_some hJ
  refine jc_I (As := [.int (2 : Int32), .int x2]) C w (cc_X2_init N a6 h (2 : Int32) x2 hka6 e9) (mo_X2_init N a6 h (2 : Int32) x2 e9) (mb_X9_scan_54 N t0 _ _ _ _ _ hJ) hz2 tw_5_135 tw_5_133 tw_5_134 tw_1_21 rfl cd_X2_init ⟨by decide, by decide⟩ hl.1 (by first | exact Nat.le_of_ble_eq_true rfl | simp [rf_cat, cat_i, cat_l, cat_r]) rfl dX9_scan_51 (fun H locs w1 => ?_)
  have hk10 := kd_keep w (mo_X2_init N a6 h (2 : Int32) x2 e9) hk0 (by decide)
  have w := w1
  exact sb_X9_scan_54 C hz2 N t0 _ _ _ _ _ hJ hk10 w (lv_sub (l' := [(0, .ref t0), (3, .int x3), (4, .int x4), (5, va_rf x5)]) hl [0, 2, 3, 4] rfl)
def B_X9_scan_5 (N : Nat) (t0 : Nat) (h : Hp) (x2 : Int32) (x3 : Int32) (x4 : Int32) (y0 : Option Nat) : Option (Hp × Int32) := if x2 ≤ x3 then (if x4 < (1 : Int32) then (B_X9_scan_35 N t0 h) else (if x4 ≤ (100 : Int32) then (B_X9_scan_48 N t0 (h.new 5 0 7) x2 x3 x4 y0 (some h.nx)) else (B_X9_scan_35 N t0 h))) else (none)
theorem mb_X9_scan_5 (N : Nat) (t0 : Nat) (h : Hp) (x2 : Int32) (x3 : Int32) (x4 : Int32) (y0 : Option Nat) (hJ : B_X9_scan_5 N t0 h x2 x3 x4 y0 = some (hz, rz)) : Mo h hz := by
  unfold B_X9_scan_5 at hJ
  by_cases c11 : x2 ≤ x3
  · have hJ := it_pos c11 hJ
    by_cases c12 : x4 < (1 : Int32)
    · have hJ := it_pos c12 hJ
      exact mb_X9_scan_35 N t0 _ hJ
    · have hJ := it_neg c12 hJ
      by_cases c13 : x4 ≤ (100 : Int32)
      · have hJ := it_pos c13 hJ
        exact (Mo.new h _ _ _).tr (mb_X9_scan_48 N t0 _ _ _ _ _ _ hJ)
      · have hJ := it_neg c13 hJ
        exact mb_X9_scan_35 N t0 _ hJ
  · have hJ := it_neg c11 hJ
    cases hJ
set_option maxRecDepth 100000 in
set_option maxHeartbeats 4000000 in
theorem sb_X9_scan_5 (C : Cx p s m args meth c cX9_scan 7 (some .int) RX9 D cs A h0.se) (hz2 : hz.nx ≤ h0.nx + mc ∧ hz.su ≤ h0.su + ms) (N : Nat) (t0 : Nat) (h : Hp) (x2 : Int32) (x3 : Int32) (x4 : Int32) (y0 : Option Nat) (hJ : B_X9_scan_5 N t0 h x2 x3 x4 y0 = some (hz, rz)) (hk0 : h.kd t0 = 12) {H : Heap} {locs : List Loc} {cells slots : Nat} (w : Wo D cs A s h0 h H locs cells slots) {ls : Array Slot} (hl : lv_has ls 7 [(0, .ref t0), (2, .int x2), (3, .int x3), (4, .int x4)]) : W p l e { frames := 10, cells := mc, slots := ms, locals := 320 } s m args below meth c H locs cells slots (MQ below (Zi D cs A hz rz) args s mc ms A) (F0 m 5 ls [va_rf y0]) := by
  obtain ⟨hx, hb, hml, hown, hts, -⟩ := id C
  unfold B_X9_scan_5 at hJ
  refine jv_astore (i := 5) (lv' := [(5, va_rf y0), (0, .ref t0), (2, .int x2), (3, .int x3), (4, .int x4)]) hx hb dX9_scan_5 hl (by decide) rfl (fun ls hl => ?_)
  refine lv_iload_n hx hb dX9_scan_7 rfl (lv_at hl 2 rfl) ?_
  refine lv_iload_n hx hb dX9_scan_8 rfl (lv_at hl 3 rfl) ?_
  refine lv_icmp_le (tgt := 22) hx hb dX9_scan_9 (by decide) (fun c11 => ?_) (fun c11 => ?_)
  · have hJ := it_pos c11 hJ
    refine lv_iload hx hb dX9_scan_22 (lv_at hl 4 rfl) ?_
    refine lv_iconst (v := (1 : Int32)) hx hb dX9_scan_24 (by decide) ?_
    refine lv_icmp_lt (tgt := 35) hx hb dX9_scan_25 (by decide) (fun c12 => ?_) (fun c12 => ?_)
    · have hJ := it_pos c12 hJ
      exact sb_X9_scan_35 C hz2 N t0 _ hJ hk0 w (lv_sub (l' := [(0, .ref t0)]) hl [1] rfl)
    · have hJ := it_neg c12 hJ
      refine lv_iload hx hb dX9_scan_28 (lv_at hl 4 rfl) ?_
      refine lv_bipush (v := (100 : Int32)) hx hb dX9_scan_30 (by decide) ?_
      refine lv_icmp_le (tgt := 45) hx hb dX9_scan_32 (by decide) (fun c13 => ?_) (fun c13 => ?_)
      · have hJ := it_pos c13 hJ
        have w0 := w
        refine fn_5 C w (mb_X9_scan_48 N t0 _ _ _ _ _ _ hJ) hz2 tw_5_131 dX9_scan_45 (fun H w => ?_)
        have hk14 := kd_new (k := 5) (n := 0) (sl := 7) w0 hk0 (by decide)
        exact sb_X9_scan_48 C hz2 N t0 _ _ _ _ _ _ hJ hk14 w (lv_sub (l' := [(0, .ref t0), (2, .int x2), (3, .int x3), (4, .int x4), (5, va_rf y0)]) hl [1, 2, 3, 4, 0] rfl)
      · have hJ := it_neg c13 hJ
        exact sb_X9_scan_35 C hz2 N t0 _ hJ hk0 w (lv_sub (l' := [(0, .ref t0)]) hl [1] rfl)
  · have hJ := it_neg c11 hJ
    cases hJ
def B_X9_scan_0 (N : Nat) (t0 : Nat) (h : Hp) (x1 : Int32) (x2 : Int32) (x3 : Int32) (x4 : Int32) : Option (Hp × Int32) := (J_X9_activeOne N t0 h x1).bind (fun z => B_X9_scan_5 N t0 z.1 x2 x3 x4 z.2)
theorem mb_X9_scan_0 (N : Nat) (t0 : Nat) (h : Hp) (x1 : Int32) (x2 : Int32) (x3 : Int32) (x4 : Int32) (hJ : B_X9_scan_0 N t0 h x1 x2 x3 x4 = some (hz, rz)) : Mo h hz := by
  unfold B_X9_scan_0 at hJ
  obtain ⟨⟨h15, r16⟩, e17, hJ⟩ := ob_some hJ
  exact (mo_X9_activeOne N t0 h x1 e17).tr (mb_X9_scan_5 N t0 _ _ _ _ _ hJ)
set_option maxRecDepth 100000 in
set_option maxHeartbeats 4000000 in
theorem sb_X9_scan_0 (C : Cx p s m args meth c cX9_scan 7 (some .int) RX9 D cs A h0.se) (hz2 : hz.nx ≤ h0.nx + mc ∧ hz.su ≤ h0.su + ms) (N : Nat) (t0 : Nat) (h : Hp) (x1 : Int32) (x2 : Int32) (x3 : Int32) (x4 : Int32) (hJ : B_X9_scan_0 N t0 h x1 x2 x3 x4 = some (hz, rz)) (hk0 : h.kd t0 = 12) {H : Heap} {locs : List Loc} {cells slots : Nat} (w : Wo D cs A s h0 h H locs cells slots) {ls : Array Slot} (hl : lv_has ls 7 [(0, .ref t0), (1, .int x1), (2, .int x2), (3, .int x3), (4, .int x4)]) : W p l e { frames := 10, cells := mc, slots := ms, locals := 320 } s m args below meth c H locs cells slots (MQ below (Zi D cs A hz rz) args s mc ms A) (F0 m 0 ls []) := by
  obtain ⟨hx, hb, hml, hown, hts, -⟩ := id C
  unfold B_X9_scan_0 at hJ
  refine lv_aload_n hx hb dX9_scan_0 rfl (lv_at hl 0 rfl) ?_
  refine lv_iload_n hx hb dX9_scan_1 rfl (lv_at hl 1 rfl) ?_
  obtain ⟨⟨h15, r16⟩, e17, hJ⟩ := ob_some hJ
  refine jc_Vq (As := [.int x1]) C w (cc_X9_activeOne N t0 h x1 hk0 e17) (mo_X9_activeOne N t0 h x1 e17) (mb_X9_scan_5 N t0 _ _ _ _ _ hJ) hz2 hk0 (by decide) rfl (fs := fs12 h t0) rfl rfl ⟨tw_5_114, tw_5_111, tw_5_113, ts_17, tw_1_1⟩ cd_X9_activeOne ⟨by decide, by decide⟩ hl.1 (by first | exact Nat.le_of_ble_eq_true rfl | simp [rf_cat, cat_i, cat_l, cat_r]) rfl dX9_scan_2 (fun H locs w1 => ?_)
  have hk18 := kd_keep w (mo_X9_activeOne N t0 h x1 e17) hk0 (by decide)
  have w := w1
  exact sb_X9_scan_5 C hz2 N t0 _ _ _ _ _ hJ hk18 w (lv_sub (l' := [(0, .ref t0), (2, .int x2), (3, .int x3), (4, .int x4)]) hl [0, 2, 3, 4] rfl)
def J_X9_scan (N : Nat) (t0 : Nat) (h : Hp) (x1 : Int32) (x2 : Int32) (x3 : Int32) (x4 : Int32) : Option (Hp × Int32) := B_X9_scan_0 N t0 h x1 x2 x3 x4
theorem mo_X9_scan (N : Nat) (t0 : Nat) (h : Hp) (x1 : Int32) (x2 : Int32) (x3 : Int32) (x4 : Int32) (hJ : J_X9_scan N t0 h x1 x2 x3 x4 = some (hz, rz)) : Mo h hz := mb_X9_scan_0 N t0 h x1 x2 x3 x4 hJ
theorem cd_X9_scan : Cd yX9_scan 4 := ⟨by decide +kernel, by decide +kernel, by decide +kernel⟩
theorem cc_X9_scan (N : Nat) (t0 : Nat) (h : Hp) (x1 : Int32) (x2 : Int32) (x3 : Int32) (x4 : Int32) (hk0 : h.kd t0 = 12) (hJ : J_X9_scan N t0 h x1 x2 x3 x4 = some (hz, rz)) : Ci l yX9_scan cX9_scan 7 (some .int) 10 320 D cs h hz [.ref t0, .int x1, .int x2, .int x3, .int x4] rz := by
  intro mc ms g1 g2
  refine je_any (by decide) (by simp [lg_sl, rf_cat, cat_i, cat_l, cat_r]) ?_
  intro p e s m args below meth c C hin2 w ls hl
  have hl : lv_has ls 7 [(0, .ref t0), (1, .int x1), (2, .int x2), (3, .int x3), (4, .int x4)] := hl
  exact sb_X9_scan_0 C ⟨g1, g2⟩ N t0 h x1 x2 x3 x4 hJ hk0 w hl
end G_X9_scan
section G_X9_rowKey
variable {p : Program} {l : Launch} {e : Env} {s : State} {m : MethodId} {args : Array Value} {below : List Frame} {meth : Method} {c : Code} {D : va_G} {cs : C4} {A : Nat → Prop} {h0 hz : Hp} {mc ms : Nat} {rz : Int32}
def B_X9_rowKey_18 (N : Nat) (t0 : Nat) (h : Hp) : Option (Hp × Int32) := none
theorem mb_X9_rowKey_18 (N : Nat) (t0 : Nat) (h : Hp) (hJ : B_X9_rowKey_18 N t0 h = some (hz, rz)) : Mo h hz := by
  unfold B_X9_rowKey_18 at hJ
  cases hJ
set_option maxRecDepth 100000 in
set_option maxHeartbeats 4000000 in
theorem sb_X9_rowKey_18 (C : Cx p s m args meth c cX9_rowKey 2 (some .int) RX9 D cs A h0.se) (hz2 : hz.nx ≤ h0.nx + mc ∧ hz.su ≤ h0.su + ms) (N : Nat) (t0 : Nat) (h : Hp) (hJ : B_X9_rowKey_18 N t0 h = some (hz, rz)) (hk0 : h.kd t0 = 12) {H : Heap} {locs : List Loc} {cells slots : Nat} (w : Wo D cs A s h0 h H locs cells slots) {ls : Array Slot} (hl : lv_has ls 2 [(0, .ref t0)]) : W p l e { frames := 1, cells := mc, slots := ms, locals := 30 } s m args below meth c H locs cells slots (MQ below (Zi D cs A hz rz) args s mc ms A) (F0 m 18 ls []) := by
  obtain ⟨hx, hb, hml, hown, hts, -⟩ := id C
  unfold B_X9_rowKey_18 at hJ
  cases hJ
def B_X9_rowKey_15 (N : Nat) (t0 : Nat) (h : Hp) (x1 : Int32) (y0 : Int32) : Option (Hp × Int32) := if y0 = 0 then (B_X9_rowKey_18 N t0 h) else (dr h 3 (h.fr 1211 t0) (fun a2 => dr h 20 (h.fr 308 a2) (fun a3 => ck (¬ (x1 < 0 ∨ h.al a3 ≤ x1.toNatClampNeg)) (some (h, h.ai a3 x1.toNatClampNeg)))))
theorem mb_X9_rowKey_15 (N : Nat) (t0 : Nat) (h : Hp) (x1 : Int32) (y0 : Int32) (hJ : B_X9_rowKey_15 N t0 h x1 y0 = some (hz, rz)) : Mo h hz := by
  unfold B_X9_rowKey_15 at hJ
  by_cases c1 : y0 = 0
  · have hJ := it_pos c1 hJ
    exact mb_X9_rowKey_18 N t0 _ hJ
  · have hJ := it_neg c1 hJ
    obtain ⟨a2, ea2, -, hJ⟩ := dr_some hJ
    obtain ⟨a3, ea3, -, hJ⟩ := dr_some hJ
    obtain ⟨-, hJ⟩ := ck_some hJ
    obtain ⟨rfl, -⟩ := rs2 hJ
    exact ⟨fun _ _ => rfl, Nat.le_refl _, Nat.le_refl _, rfl, fun _ _ => rfl⟩
set_option maxRecDepth 100000 in
set_option maxHeartbeats 4000000 in
theorem sb_X9_rowKey_15 (C : Cx p s m args meth c cX9_rowKey 2 (some .int) RX9 D cs A h0.se) (hz2 : hz.nx ≤ h0.nx + mc ∧ hz.su ≤ h0.su + ms) (N : Nat) (t0 : Nat) (h : Hp) (x1 : Int32) (y0 : Int32) (hJ : B_X9_rowKey_15 N t0 h x1 y0 = some (hz, rz)) (hk0 : h.kd t0 = 12) {H : Heap} {locs : List Loc} {cells slots : Nat} (w : Wo D cs A s h0 h H locs cells slots) {ls : Array Slot} (hl : lv_has ls 2 [(0, .ref t0), (1, .int x1)]) : W p l e { frames := 1, cells := mc, slots := ms, locals := 30 } s m args below meth c H locs cells slots (MQ below (Zi D cs A hz rz) args s mc ms A) (F0 m 15 ls [.int y0]) := by
  obtain ⟨hx, hb, hml, hown, hts, -⟩ := id C
  unfold B_X9_rowKey_15 at hJ
  refine lv_if_ne (tgt := 28) hx hb dX9_rowKey_15 (by decide) (fun c1 => ?_) (fun c1 => ?_)
  · have hJ := it_neg c1 hJ
    refine lv_aload_n hx hb dX9_rowKey_28 rfl (lv_at hl 0 rfl) ?_
    refine fg_1211 C w hk0 tw_1_143 dX9_rowKey_29 ?_
    obtain ⟨a2, ea2, hka2, hJ⟩ := dr_some hJ
    rw [ea2]
    refine fg_308 C w hka2 tw_1_106 dX9_rowKey_32 ?_
    refine lv_iload_n hx hb dX9_rowKey_35 rfl (lv_at hl 1 rfl) ?_
    obtain ⟨a3, ea3, hka3, hJ⟩ := dr_some hJ
    rw [ea3]
    obtain ⟨hi4, hJ⟩ := ck_some hJ
    refine jr_iald C w hka3 hi4 dX9_rowKey_36 ?_
    obtain ⟨rfl, rfl⟩ := rs2 hJ
    exact jr_iret C w hz2 dX9_rowKey_37
  · have hJ := it_pos c1 hJ
    exact sb_X9_rowKey_18 C hz2 N t0 _ hJ hk0 w (lv_sub (l' := [(0, .ref t0)]) hl [0] rfl)
def B_X9_rowKey_0 (N : Nat) (t0 : Nat) (h : Hp) (x1 : Int32) : Option (Hp × Int32) := nl (h.fr 1211 t0) (B_X9_rowKey_18 N t0 h) (fun a5 => dr h 3 (h.fr 1211 t0) (fun a6 => (J_X0_hasRow N a6 h x1).bind (fun z => B_X9_rowKey_15 N t0 z.1 x1 z.2)))
theorem mb_X9_rowKey_0 (N : Nat) (t0 : Nat) (h : Hp) (x1 : Int32) (hJ : B_X9_rowKey_0 N t0 h x1 = some (hz, rz)) : Mo h hz := by
  unfold B_X9_rowKey_0 at hJ
  cases ea5 : (h.fr 1211 t0) with
  | none =>
    have hJ := nl_none ea5 hJ
    exact mb_X9_rowKey_18 N t0 _ hJ
  | some a5 =>
    have hJ := nl_some ea5 hJ
    obtain ⟨a6, ea6, -, hJ⟩ := dr_some hJ
    obtain ⟨⟨h7, r8⟩, e9, hJ⟩ := ob_some hJ
    exact (mo_X0_hasRow N a6 h x1 e9).tr (mb_X9_rowKey_15 N t0 _ _ _ hJ)
set_option maxRecDepth 100000 in
set_option maxHeartbeats 4000000 in
theorem sb_X9_rowKey_0 (C : Cx p s m args meth c cX9_rowKey 2 (some .int) RX9 D cs A h0.se) (hz2 : hz.nx ≤ h0.nx + mc ∧ hz.su ≤ h0.su + ms) (N : Nat) (t0 : Nat) (h : Hp) (x1 : Int32) (hJ : B_X9_rowKey_0 N t0 h x1 = some (hz, rz)) (hk0 : h.kd t0 = 12) {H : Heap} {locs : List Loc} {cells slots : Nat} (w : Wo D cs A s h0 h H locs cells slots) {ls : Array Slot} (hl : lv_has ls 2 [(0, .ref t0), (1, .int x1)]) : W p l e { frames := 1, cells := mc, slots := ms, locals := 30 } s m args below meth c H locs cells slots (MQ below (Zi D cs A hz rz) args s mc ms A) (F0 m 0 ls []) := by
  obtain ⟨hx, hb, hml, hown, hts, -⟩ := id C
  unfold B_X9_rowKey_0 at hJ
  refine lv_aload_n hx hb dX9_rowKey_0 rfl (lv_at hl 0 rfl) ?_
  refine fg_1211 C w hk0 tw_1_143 dX9_rowKey_1 ?_
  refine jv_ifnull (tgt := 18) hx hb dX9_rowKey_4 (by decide) (fun ea5 => ?_) (fun a5 ea5 => ?_)
  · have hJ := nl_none ea5 hJ
    exact sb_X9_rowKey_18 C hz2 N t0 _ hJ hk0 w (lv_sub (l' := [(0, .ref t0)]) hl [0] rfl)
  · have hJ := nl_some ea5 hJ
    refine lv_aload_n hx hb dX9_rowKey_7 rfl (lv_at hl 0 rfl) ?_
    refine fg_1211 C w hk0 tw_1_143 dX9_rowKey_8 ?_
    refine lv_iload_n hx hb dX9_rowKey_11 rfl (lv_at hl 1 rfl) ?_
    obtain ⟨a6, ea6, hka6, hJ⟩ := dr_some hJ
    rw [ea6]
    obtain ⟨⟨h7, r8⟩, e9, hJ⟩ := ob_some hJ
    refine jc_Vi (As := [.int x1]) C w (cc_X0_hasRow N a6 h x1 hka6 e9) (mo_X0_hasRow N a6 h x1 e9) (mb_X9_rowKey_15 N t0 _ _ _ hJ) hz2 hka6 (by decide) rfl (fs := fs3 h a6) rfl rfl ⟨tw_5_80, tw_6_34, tw_5_78, tw_5_79, tw_1_6⟩ cd_X0_hasRow ⟨by decide, by decide⟩ hl.1 (by first | exact Nat.le_of_ble_eq_true rfl | simp [rf_cat, cat_i, cat_l, cat_r]) rfl dX9_rowKey_12 (fun H locs w1 => ?_)
    have hk10 := kd_keep w (mo_X0_hasRow N a6 h x1 e9) hk0 (by decide)
    have w := w1
    exact sb_X9_rowKey_15 C hz2 N t0 _ _ _ hJ hk10 w hl
def J_X9_rowKey (N : Nat) (t0 : Nat) (h : Hp) (x1 : Int32) : Option (Hp × Int32) := B_X9_rowKey_0 N t0 h x1
theorem mo_X9_rowKey (N : Nat) (t0 : Nat) (h : Hp) (x1 : Int32) (hJ : J_X9_rowKey N t0 h x1 = some (hz, rz)) : Mo h hz := mb_X9_rowKey_0 N t0 h x1 hJ
theorem cd_X9_rowKey : Cd yX9_rowKey 1 := ⟨by decide +kernel, by decide +kernel, by decide +kernel⟩
theorem cc_X9_rowKey (N : Nat) (t0 : Nat) (h : Hp) (x1 : Int32) (hk0 : h.kd t0 = 12) (hJ : J_X9_rowKey N t0 h x1 = some (hz, rz)) : Ci l yX9_rowKey cX9_rowKey 2 (some .int) 1 30 D cs h hz [.ref t0, .int x1] rz := by
  intro mc ms g1 g2
  refine je_any (by decide) (by simp [lg_sl, rf_cat, cat_i, cat_l, cat_r]) ?_
  intro p e s m args below meth c C hin2 w ls hl
  have hl : lv_has ls 2 [(0, .ref t0), (1, .int x1)] := hl
  exact sb_X9_rowKey_0 C ⟨g1, g2⟩ N t0 h x1 hJ hk0 w hl
end G_X9_rowKey
section G_X9_rowValue
variable {p : Program} {l : Launch} {e : Env} {s : State} {m : MethodId} {args : Array Value} {below : List Frame} {meth : Method} {c : Code} {D : va_G} {cs : C4} {A : Nat → Prop} {h0 hz : Hp} {mc ms : Nat} {rz : Int64}
def B_X9_rowValue_18 (N : Nat) (t0 : Nat) (h : Hp) : Option (Hp × Int64) := none
theorem mb_X9_rowValue_18 (N : Nat) (t0 : Nat) (h : Hp) (hJ : B_X9_rowValue_18 N t0 h = some (hz, rz)) : Mo h hz := by
  unfold B_X9_rowValue_18 at hJ
  cases hJ
set_option maxRecDepth 100000 in
set_option maxHeartbeats 4000000 in
theorem sb_X9_rowValue_18 (C : Cx p s m args meth c cX9_rowValue 2 (some .long) RX9 D cs A h0.se) (hz2 : hz.nx ≤ h0.nx + mc ∧ hz.su ≤ h0.su + ms) (N : Nat) (t0 : Nat) (h : Hp) (hJ : B_X9_rowValue_18 N t0 h = some (hz, rz)) (hk0 : h.kd t0 = 12) {H : Heap} {locs : List Loc} {cells slots : Nat} (w : Wo D cs A s h0 h H locs cells slots) {ls : Array Slot} (hl : lv_has ls 2 [(0, .ref t0)]) : W p l e { frames := 1, cells := mc, slots := ms, locals := 30 } s m args below meth c H locs cells slots (MQ below (Zl D cs A hz rz) args s mc ms A) (F0 m 18 ls []) := by
  obtain ⟨hx, hb, hml, hown, hts, -⟩ := id C
  unfold B_X9_rowValue_18 at hJ
  cases hJ
def B_X9_rowValue_15 (N : Nat) (t0 : Nat) (h : Hp) (x1 : Int32) (y0 : Int32) : Option (Hp × Int64) := if y0 = 0 then (B_X9_rowValue_18 N t0 h) else (dr h 3 (h.fr 1211 t0) (fun a2 => dr h 21 (h.fr 309 a2) (fun a3 => ck (¬ (x1 < 0 ∨ h.al a3 ≤ x1.toNatClampNeg)) (some (h, h.aw a3 x1.toNatClampNeg)))))
theorem mb_X9_rowValue_15 (N : Nat) (t0 : Nat) (h : Hp) (x1 : Int32) (y0 : Int32) (hJ : B_X9_rowValue_15 N t0 h x1 y0 = some (hz, rz)) : Mo h hz := by
  unfold B_X9_rowValue_15 at hJ
  by_cases c1 : y0 = 0
  · have hJ := it_pos c1 hJ
    exact mb_X9_rowValue_18 N t0 _ hJ
  · have hJ := it_neg c1 hJ
    obtain ⟨a2, ea2, -, hJ⟩ := dr_some hJ
    obtain ⟨a3, ea3, -, hJ⟩ := dr_some hJ
    obtain ⟨-, hJ⟩ := ck_some hJ
    obtain ⟨rfl, -⟩ := rs2 hJ
    exact ⟨fun _ _ => rfl, Nat.le_refl _, Nat.le_refl _, rfl, fun _ _ => rfl⟩
set_option maxRecDepth 100000 in
set_option maxHeartbeats 4000000 in
theorem sb_X9_rowValue_15 (C : Cx p s m args meth c cX9_rowValue 2 (some .long) RX9 D cs A h0.se) (hz2 : hz.nx ≤ h0.nx + mc ∧ hz.su ≤ h0.su + ms) (N : Nat) (t0 : Nat) (h : Hp) (x1 : Int32) (y0 : Int32) (hJ : B_X9_rowValue_15 N t0 h x1 y0 = some (hz, rz)) (hk0 : h.kd t0 = 12) {H : Heap} {locs : List Loc} {cells slots : Nat} (w : Wo D cs A s h0 h H locs cells slots) {ls : Array Slot} (hl : lv_has ls 2 [(0, .ref t0), (1, .int x1)]) : W p l e { frames := 1, cells := mc, slots := ms, locals := 30 } s m args below meth c H locs cells slots (MQ below (Zl D cs A hz rz) args s mc ms A) (F0 m 15 ls [.int y0]) := by
  obtain ⟨hx, hb, hml, hown, hts, -⟩ := id C
  unfold B_X9_rowValue_15 at hJ
  refine lv_if_ne (tgt := 28) hx hb dX9_rowValue_15 (by decide) (fun c1 => ?_) (fun c1 => ?_)
  · have hJ := it_neg c1 hJ
    refine lv_aload_n hx hb dX9_rowValue_28 rfl (lv_at hl 0 rfl) ?_
    refine fg_1211 C w hk0 tw_1_143 dX9_rowValue_29 ?_
    obtain ⟨a2, ea2, hka2, hJ⟩ := dr_some hJ
    rw [ea2]
    refine fg_309 C w hka2 tw_1_108 dX9_rowValue_32 ?_
    refine lv_iload_n hx hb dX9_rowValue_35 rfl (lv_at hl 1 rfl) ?_
    obtain ⟨a3, ea3, hka3, hJ⟩ := dr_some hJ
    rw [ea3]
    obtain ⟨hi4, hJ⟩ := ck_some hJ
    refine jr_lald C w hka3 hi4 dX9_rowValue_36 ?_
    obtain ⟨rfl, rfl⟩ := rs2 hJ
    exact jr_lret C w hz2 dX9_rowValue_37
  · have hJ := it_pos c1 hJ
    exact sb_X9_rowValue_18 C hz2 N t0 _ hJ hk0 w (lv_sub (l' := [(0, .ref t0)]) hl [0] rfl)
def B_X9_rowValue_0 (N : Nat) (t0 : Nat) (h : Hp) (x1 : Int32) : Option (Hp × Int64) := nl (h.fr 1211 t0) (B_X9_rowValue_18 N t0 h) (fun a5 => dr h 3 (h.fr 1211 t0) (fun a6 => (J_X0_hasRow N a6 h x1).bind (fun z => B_X9_rowValue_15 N t0 z.1 x1 z.2)))
theorem mb_X9_rowValue_0 (N : Nat) (t0 : Nat) (h : Hp) (x1 : Int32) (hJ : B_X9_rowValue_0 N t0 h x1 = some (hz, rz)) : Mo h hz := by
  unfold B_X9_rowValue_0 at hJ
  cases ea5 : (h.fr 1211 t0) with
  | none =>
    have hJ := nl_none ea5 hJ
    exact mb_X9_rowValue_18 N t0 _ hJ
  | some a5 =>
    have hJ := nl_some ea5 hJ
    obtain ⟨a6, ea6, -, hJ⟩ := dr_some hJ
    obtain ⟨⟨h7, r8⟩, e9, hJ⟩ := ob_some hJ
    exact (mo_X0_hasRow N a6 h x1 e9).tr (mb_X9_rowValue_15 N t0 _ _ _ hJ)
set_option maxRecDepth 100000 in
set_option maxHeartbeats 4000000 in
theorem sb_X9_rowValue_0 (C : Cx p s m args meth c cX9_rowValue 2 (some .long) RX9 D cs A h0.se) (hz2 : hz.nx ≤ h0.nx + mc ∧ hz.su ≤ h0.su + ms) (N : Nat) (t0 : Nat) (h : Hp) (x1 : Int32) (hJ : B_X9_rowValue_0 N t0 h x1 = some (hz, rz)) (hk0 : h.kd t0 = 12) {H : Heap} {locs : List Loc} {cells slots : Nat} (w : Wo D cs A s h0 h H locs cells slots) {ls : Array Slot} (hl : lv_has ls 2 [(0, .ref t0), (1, .int x1)]) : W p l e { frames := 1, cells := mc, slots := ms, locals := 30 } s m args below meth c H locs cells slots (MQ below (Zl D cs A hz rz) args s mc ms A) (F0 m 0 ls []) := by
  obtain ⟨hx, hb, hml, hown, hts, -⟩ := id C
  unfold B_X9_rowValue_0 at hJ
  refine lv_aload_n hx hb dX9_rowValue_0 rfl (lv_at hl 0 rfl) ?_
  refine fg_1211 C w hk0 tw_1_143 dX9_rowValue_1 ?_
  refine jv_ifnull (tgt := 18) hx hb dX9_rowValue_4 (by decide) (fun ea5 => ?_) (fun a5 ea5 => ?_)
  · have hJ := nl_none ea5 hJ
    exact sb_X9_rowValue_18 C hz2 N t0 _ hJ hk0 w (lv_sub (l' := [(0, .ref t0)]) hl [0] rfl)
  · have hJ := nl_some ea5 hJ
    refine lv_aload_n hx hb dX9_rowValue_7 rfl (lv_at hl 0 rfl) ?_
    refine fg_1211 C w hk0 tw_1_143 dX9_rowValue_8 ?_
    refine lv_iload_n hx hb dX9_rowValue_11 rfl (lv_at hl 1 rfl) ?_
    obtain ⟨a6, ea6, hka6, hJ⟩ := dr_some hJ
    rw [ea6]
    obtain ⟨⟨h7, r8⟩, e9, hJ⟩ := ob_some hJ
    refine jc_Vi (As := [.int x1]) C w (cc_X0_hasRow N a6 h x1 hka6 e9) (mo_X0_hasRow N a6 h x1 e9) (mb_X9_rowValue_15 N t0 _ _ _ hJ) hz2 hka6 (by decide) rfl (fs := fs3 h a6) rfl rfl ⟨tw_5_80, tw_6_34, tw_5_78, tw_5_79, tw_1_6⟩ cd_X0_hasRow ⟨by decide, by decide⟩ hl.1 (by first | exact Nat.le_of_ble_eq_true rfl | simp [rf_cat, cat_i, cat_l, cat_r]) rfl dX9_rowValue_12 (fun H locs w1 => ?_)
    have hk10 := kd_keep w (mo_X0_hasRow N a6 h x1 e9) hk0 (by decide)
    have w := w1
    exact sb_X9_rowValue_15 C hz2 N t0 _ _ _ hJ hk10 w hl
def J_X9_rowValue (N : Nat) (t0 : Nat) (h : Hp) (x1 : Int32) : Option (Hp × Int64) := B_X9_rowValue_0 N t0 h x1
theorem mo_X9_rowValue (N : Nat) (t0 : Nat) (h : Hp) (x1 : Int32) (hJ : J_X9_rowValue N t0 h x1 = some (hz, rz)) : Mo h hz := mb_X9_rowValue_0 N t0 h x1 hJ
theorem cd_X9_rowValue : Cd yX9_rowValue 1 := ⟨by decide +kernel, by decide +kernel, by decide +kernel⟩
theorem cc_X9_rowValue (N : Nat) (t0 : Nat) (h : Hp) (x1 : Int32) (hk0 : h.kd t0 = 12) (hJ : J_X9_rowValue N t0 h x1 = some (hz, rz)) : Cl l yX9_rowValue cX9_rowValue 2 (some .long) 1 30 D cs h hz [.ref t0, .int x1] rz := by
  intro mc ms g1 g2
  refine je_any (by decide) (by simp [lg_sl, rf_cat, cat_i, cat_l, cat_r]) ?_
  intro p e s m args below meth c C hin2 w ls hl
  have hl : lv_has ls 2 [(0, .ref t0), (1, .int x1)] := hl
  exact sb_X9_rowValue_0 C ⟨g1, g2⟩ N t0 h x1 hJ hk0 w hl
end G_X9_rowValue
section G_X9_writingOne
variable {p : Program} {l : Launch} {e : Env} {s : State} {m : MethodId} {args : Array Value} {below : List Frame} {meth : Method} {c : Code} {D : va_G} {cs : C4} {A : Nat → Prop} {h0 hz : Hp} {mc ms : Nat} {rz : Option Nat}
def B_X9_writingOne_5 (N : Nat) (t0 : Nat) (h : Hp) (y0 : Option Nat) : Option (Hp × Option Nat) := dr h 10 y0 (fun a1 => if (h.fi 1005 a1) = 0 then (some (h, some a1)) else (none))
theorem mb_X9_writingOne_5 (N : Nat) (t0 : Nat) (h : Hp) (y0 : Option Nat) (hJ : B_X9_writingOne_5 N t0 h y0 = some (hz, rz)) : Mo h hz := by
  unfold B_X9_writingOne_5 at hJ
  obtain ⟨a1, ea1, -, hJ⟩ := dr_some hJ
  by_cases c2 : (h.fi 1005 a1) = 0
  · have hJ := it_pos c2 hJ
    obtain ⟨rfl, -⟩ := rs2 hJ
    exact ⟨fun _ _ => rfl, Nat.le_refl _, Nat.le_refl _, rfl, fun _ _ => rfl⟩
  · have hJ := it_neg c2 hJ
    cases hJ
set_option maxRecDepth 100000 in
set_option maxHeartbeats 4000000 in
theorem sb_X9_writingOne_5 (C : Cx p s m args meth c cX9_writingOne 3 (some (.object "RingKeeper$Transaction")) RX9 D cs A h0.se) (hz2 : hz.nx ≤ h0.nx + mc ∧ hz.su ≤ h0.su + ms) (N : Nat) (t0 : Nat) (h : Hp) (y0 : Option Nat) (hJ : B_X9_writingOne_5 N t0 h y0 = some (hz, rz)) (hk0 : h.kd t0 = 12) {H : Heap} {locs : List Loc} {cells slots : Nat} (w : Wo D cs A s h0 h H locs cells slots) {ls : Array Slot} (hl : lv_has ls 3 [(0, .ref t0)]) : W p l e { frames := 5, cells := mc, slots := ms, locals := 150 } s m args below meth c H locs cells slots (MQ below (Zq D cs A hz rz) args s mc ms A) (F0 m 5 ls [va_rf y0]) := by
  obtain ⟨hx, hb, hml, hown, hts, -⟩ := id C
  unfold B_X9_writingOne_5 at hJ
  refine jv_astore_n (i := 2) (lv' := [(2, va_rf y0), (0, .ref t0)]) hx hb dX9_writingOne_5 rfl hl (by decide) rfl (fun ls hl => ?_)
  refine jv_aload_n hx hb dX9_writingOne_6 rfl (lv_at hl 0 rfl) ?_
  obtain ⟨a1, ea1, hka1, hJ⟩ := dr_some hJ
  rw [ea1] at hl
  rw [ea1]
  refine fg_1005 C w hka1 tw_2_24 dX9_writingOne_7 ?_
  refine lv_if_eq (tgt := 24) hx hb dX9_writingOne_10 (by decide) (fun c2 => ?_) (fun c2 => ?_)
  · have hJ := it_pos c2 hJ
    refine lv_aload_n hx hb dX9_writingOne_24 rfl (lv_at hl 0 rfl) ?_
    obtain ⟨rfl, rfl⟩ := rs2 hJ
    exact jr_aret (r := some a1) C w (Or.inl ⟨_, rfl⟩) hz2 dX9_writingOne_25
  · have hJ := it_neg c2 hJ
    cases hJ
def B_X9_writingOne_0 (N : Nat) (t0 : Nat) (h : Hp) (x1 : Int32) : Option (Hp × Option Nat) := (J_X9_activeOne N t0 h x1).bind (fun z => B_X9_writingOne_5 N t0 z.1 z.2)
theorem mb_X9_writingOne_0 (N : Nat) (t0 : Nat) (h : Hp) (x1 : Int32) (hJ : B_X9_writingOne_0 N t0 h x1 = some (hz, rz)) : Mo h hz := by
  unfold B_X9_writingOne_0 at hJ
  obtain ⟨⟨h3, r4⟩, e5, hJ⟩ := ob_some hJ
  exact (mo_X9_activeOne N t0 h x1 e5).tr (mb_X9_writingOne_5 N t0 _ _ hJ)
set_option maxRecDepth 100000 in
set_option maxHeartbeats 4000000 in
theorem sb_X9_writingOne_0 (C : Cx p s m args meth c cX9_writingOne 3 (some (.object "RingKeeper$Transaction")) RX9 D cs A h0.se) (hz2 : hz.nx ≤ h0.nx + mc ∧ hz.su ≤ h0.su + ms) (N : Nat) (t0 : Nat) (h : Hp) (x1 : Int32) (hJ : B_X9_writingOne_0 N t0 h x1 = some (hz, rz)) (hk0 : h.kd t0 = 12) {H : Heap} {locs : List Loc} {cells slots : Nat} (w : Wo D cs A s h0 h H locs cells slots) {ls : Array Slot} (hl : lv_has ls 3 [(0, .ref t0), (1, .int x1)]) : W p l e { frames := 5, cells := mc, slots := ms, locals := 150 } s m args below meth c H locs cells slots (MQ below (Zq D cs A hz rz) args s mc ms A) (F0 m 0 ls []) := by
  obtain ⟨hx, hb, hml, hown, hts, -⟩ := id C
  unfold B_X9_writingOne_0 at hJ
  refine lv_aload_n hx hb dX9_writingOne_0 rfl (lv_at hl 0 rfl) ?_
  refine lv_iload_n hx hb dX9_writingOne_1 rfl (lv_at hl 1 rfl) ?_
  obtain ⟨⟨h3, r4⟩, e5, hJ⟩ := ob_some hJ
  refine jc_Vq (As := [.int x1]) C w (cc_X9_activeOne N t0 h x1 hk0 e5) (mo_X9_activeOne N t0 h x1 e5) (mb_X9_writingOne_5 N t0 _ _ hJ) hz2 hk0 (by decide) rfl (fs := fs12 h t0) rfl rfl ⟨tw_5_114, tw_5_111, tw_5_113, ts_17, tw_1_1⟩ cd_X9_activeOne ⟨by decide, by decide⟩ hl.1 (by first | exact Nat.le_of_ble_eq_true rfl | simp [rf_cat, cat_i, cat_l, cat_r]) rfl dX9_writingOne_2 (fun H locs w1 => ?_)
  have hk6 := kd_keep w (mo_X9_activeOne N t0 h x1 e5) hk0 (by decide)
  have w := w1
  exact sb_X9_writingOne_5 C hz2 N t0 _ _ hJ hk6 w (lv_sub (l' := [(0, .ref t0)]) hl [0] rfl)
def J_X9_writingOne (N : Nat) (t0 : Nat) (h : Hp) (x1 : Int32) : Option (Hp × Option Nat) := B_X9_writingOne_0 N t0 h x1
theorem mo_X9_writingOne (N : Nat) (t0 : Nat) (h : Hp) (x1 : Int32) (hJ : J_X9_writingOne N t0 h x1 = some (hz, rz)) : Mo h hz := mb_X9_writingOne_0 N t0 h x1 hJ
theorem cd_X9_writingOne : Cd yX9_writingOne 1 := ⟨by decide +kernel, by decide +kernel, by decide +kernel⟩
theorem cc_X9_writingOne (N : Nat) (t0 : Nat) (h : Hp) (x1 : Int32) (hk0 : h.kd t0 = 12) (hJ : J_X9_writingOne N t0 h x1 = some (hz, rz)) : Cq l yX9_writingOne cX9_writingOne 3 (some (.object "RingKeeper$Transaction")) 5 150 D cs h hz [.ref t0, .int x1] rz := by
  intro mc ms g1 g2
  refine je_any (by decide) (by simp [lg_sl, rf_cat, cat_i, cat_l, cat_r]) ?_
  intro p e s m args below meth c C hin2 w ls hl
  have hl : lv_has ls 3 [(0, .ref t0), (1, .int x1)] := hl
  exact sb_X9_writingOne_0 C ⟨g1, g2⟩ N t0 h x1 hJ hk0 w hl
end G_X9_writingOne
section G_X9_write
variable {p : Program} {l : Launch} {e : Env} {s : State} {m : MethodId} {args : Array Value} {below : List Frame} {meth : Method} {c : Code} {D : va_G} {cs : C4} {A : Nat → Prop} {h0 hz : Hp} {mc ms : Nat} {rz : Int32}
def B_X9_write_38 (N : Nat) (t0 : Nat) (h : Hp) (y0 : Int32) : Option (Hp × Int32) := some (h, y0)
theorem mb_X9_write_38 (N : Nat) (t0 : Nat) (h : Hp) (y0 : Int32) (hJ : B_X9_write_38 N t0 h y0 = some (hz, rz)) : Mo h hz := by
  unfold B_X9_write_38 at hJ
  obtain ⟨rfl, -⟩ := rs2 hJ
  exact ⟨fun _ _ => rfl, Nat.le_refl _, Nat.le_refl _, rfl, fun _ _ => rfl⟩
set_option maxRecDepth 100000 in
set_option maxHeartbeats 4000000 in
theorem sb_X9_write_38 (C : Cx p s m args meth c cX9_write 7 (some .int) RX9 D cs A h0.se) (hz2 : hz.nx ≤ h0.nx + mc ∧ hz.su ≤ h0.su + ms) (N : Nat) (t0 : Nat) (h : Hp) (y0 : Int32) (hJ : B_X9_write_38 N t0 h y0 = some (hz, rz)) (hk0 : h.kd t0 = 12) {H : Heap} {locs : List Loc} {cells slots : Nat} (w : Wo D cs A s h0 h H locs cells slots) {ls : Array Slot} (hl : lv_has ls 7 [(0, .ref t0)]) : W p l e { frames := 10, cells := mc, slots := ms, locals := 320 } s m args below meth c H locs cells slots (MQ below (Zi D cs A hz rz) args s mc ms A) (F0 m 38 ls [.int y0]) := by
  obtain ⟨hx, hb, hml, hown, hts, -⟩ := id C
  unfold B_X9_write_38 at hJ
  obtain ⟨rfl, rfl⟩ := rs2 hJ
  exact jr_iret C w hz2 dX9_write_38
def B_X9_write_16 (N : Nat) (t0 : Nat) (h : Hp) (x3 : Int64) (x5 : Option Nat) (y0 : Option Nat) : Option (Hp × Int32) := dr h 5 y0 (fun a1 => (J_X9_carryOut N t0 ((h.sfi 504 a1 (1 : Int32)).sfl 505 a1 x3) x5 (some a1)).bind (fun z => B_X9_write_38 N t0 z.1 z.2))
theorem mb_X9_write_16 (N : Nat) (t0 : Nat) (h : Hp) (x3 : Int64) (x5 : Option Nat) (y0 : Option Nat) (hJ : B_X9_write_16 N t0 h x3 x5 y0 = some (hz, rz)) : Mo h hz := by
  unfold B_X9_write_16 at hJ
  obtain ⟨a1, ea1, -, hJ⟩ := dr_some hJ
  obtain ⟨⟨h2, r3⟩, e4, hJ⟩ := ob_some hJ
  exact (Mo.tr (show Mo h ((h.sfi 504 a1 (1 : Int32)).sfl 505 a1 x3) from ⟨fun _ _ => rfl, Nat.le_refl _, Nat.le_refl _, rfl, fun _ _ => rfl⟩) ((mo_X9_carryOut N t0 ((h.sfi 504 a1 (1 : Int32)).sfl 505 a1 x3) x5 (some a1) e4).tr (mb_X9_write_38 N t0 _ _ hJ)))
set_option maxRecDepth 100000 in
set_option maxHeartbeats 4000000 in
theorem sb_X9_write_16 (C : Cx p s m args meth c cX9_write 7 (some .int) RX9 D cs A h0.se) (hz2 : hz.nx ≤ h0.nx + mc ∧ hz.su ≤ h0.su + ms) (N : Nat) (t0 : Nat) (h : Hp) (x3 : Int64) (x5 : Option Nat) (y0 : Option Nat) (hJ : B_X9_write_16 N t0 h x3 x5 y0 = some (hz, rz)) (hk0 : h.kd t0 = 12) {H : Heap} {locs : List Loc} {cells slots : Nat} (w : Wo D cs A s h0 h H locs cells slots) {ls : Array Slot} (hl : lv_has ls 7 [(0, .ref t0), (3, .long x3), (5, va_rf x5)]) : W p l e { frames := 10, cells := mc, slots := ms, locals := 320 } s m args below meth c H locs cells slots (MQ below (Zi D cs A hz rz) args s mc ms A) (F0 m 16 ls [va_rf y0]) := by
  obtain ⟨hx, hb, hml, hown, hts, -⟩ := id C
  unfold B_X9_write_16 at hJ
  refine jv_astore (i := 6) (lv' := [(6, va_rf y0), (0, .ref t0), (3, .long x3), (5, va_rf x5)]) hx hb dX9_write_16 hl (by decide) (by simp [List.filter, rf_cat, cat_i, cat_l, cat_r]) (fun ls hl => ?_)
  refine jv_aload hx hb dX9_write_18 (lv_at hl 0 rfl) ?_
  refine lv_iconst (v := (1 : Int32)) hx hb dX9_write_20 (by decide) ?_
  obtain ⟨a1, ea1, hka1, hJ⟩ := dr_some hJ
  rw [ea1] at hl
  rw [ea1]
  refine fp_504 (x := (1 : Int32)) C w hka1 (Or.inr rfl) tw_5_145 dX9_write_21 (fun H locs w => ?_)
  refine lv_aload hx hb dX9_write_24 (lv_at hl 0 rfl) ?_
  refine lv_lload_n hx hb dX9_write_26 rfl (lv_at hl 2 rfl) ?_
  refine fp_505 (x := x3) C w hka1 tw_5_147 dX9_write_27 (fun H locs w => ?_)
  refine lv_aload_n hx hb dX9_write_30 rfl (lv_at hl 1 rfl) ?_
  refine jv_aload hx hb dX9_write_31 (lv_at hl 3 rfl) ?_
  refine lv_aload hx hb dX9_write_33 (lv_at hl 0 rfl) ?_
  obtain ⟨⟨h2, r3⟩, e4, hJ⟩ := ob_some hJ
  refine jc_Vi (As := [va_rf x5, .ref a1]) C w (cc_X9_carryOut N t0 ((h.sfi 504 a1 (1 : Int32)).sfl 505 a1 x3) x5 (some a1) hk0 e4) (mo_X9_carryOut N t0 ((h.sfi 504 a1 (1 : Int32)).sfl 505 a1 x3) x5 (some a1) e4) (mb_X9_write_38 N t0 _ _ hJ) hz2 hk0 (by decide) rfl (fs := fs12 ((h.sfi 504 a1 (1 : Int32)).sfl 505 a1 x3) t0) rfl rfl ⟨tw_5_169, tw_5_166, tw_5_168, ts_18, tw_1_1⟩ cd_X9_carryOut ⟨by decide, by decide⟩ hl.1 (by first | exact Nat.le_of_ble_eq_true rfl | simp [rf_cat, cat_i, cat_l, cat_r]) rfl dX9_write_35 (fun H locs w1 => ?_)
  have hk5 := kd_keep w (mo_X9_carryOut N t0 ((h.sfi 504 a1 (1 : Int32)).sfl 505 a1 x3) x5 (some a1) e4) hk0 (by decide)
  have w := w1
  exact sb_X9_write_38 C hz2 N t0 _ _ hJ hk5 w (lv_sub (l' := [(0, .ref t0)]) hl [1] rfl)
def B_X9_write_10 (N : Nat) (t0 : Nat) (h : Hp) (x2 : Int32) (x3 : Int64) (x5 : Option Nat) (y0 : Option Nat) : Option (Hp × Int32) := dr h 5 y0 (fun a6 => (J_X2_init N a6 h (3 : Int32) x2).bind (fun z => B_X9_write_16 N t0 z.1 x3 x5 (some a6)))
theorem mb_X9_write_10 (N : Nat) (t0 : Nat) (h : Hp) (x2 : Int32) (x3 : Int64) (x5 : Option Nat) (y0 : Option Nat) (hJ : B_X9_write_10 N t0 h x2 x3 x5 y0 = some (hz, rz)) : Mo h hz := by
  unfold B_X9_write_10 at hJ
  obtain ⟨a6, ea6, -, hJ⟩ := dr_some hJ
  obtain ⟨⟨h7, r8⟩, e9, hJ⟩ := ob_some hJ
  exact (mo_X2_init N a6 h (3 : Int32) x2 e9).tr (mb_X9_write_16 N t0 _ _ _ _ hJ)
set_option maxRecDepth 100000 in
set_option maxHeartbeats 4000000 in
theorem sb_X9_write_10 (C : Cx p s m args meth c cX9_write 7 (some .int) RX9 D cs A h0.se) (hz2 : hz.nx ≤ h0.nx + mc ∧ hz.su ≤ h0.su + ms) (N : Nat) (t0 : Nat) (h : Hp) (x2 : Int32) (x3 : Int64) (x5 : Option Nat) (y0 : Option Nat) (hJ : B_X9_write_10 N t0 h x2 x3 x5 y0 = some (hz, rz)) (hk0 : h.kd t0 = 12) {H : Heap} {locs : List Loc} {cells slots : Nat} (w : Wo D cs A s h0 h H locs cells slots) {ls : Array Slot} (hl : lv_has ls 7 [(0, .ref t0), (2, .int x2), (3, .long x3), (5, va_rf x5)]) : W p l e { frames := 10, cells := mc, slots := ms, locals := 320 } s m args below meth c H locs cells slots (MQ below (Zi D cs A hz rz) args s mc ms A) (F0 m 10 ls [va_rf y0]) := by
  obtain ⟨hx, hb, hml, hown, hts, -⟩ := id C
  unfold B_X9_write_10 at hJ
  refine lv_dup hx hb dX9_write_10 (rf_cat _) ?_
  refine lv_iconst (v := (3 : Int32)) hx hb dX9_write_11 (by decide) ?_
  refine lv_iload_n hx hb dX9_write_12 rfl (lv_at hl 1 rfl) ?_
  obtain ⟨a6, ea6, hka6, hJ⟩ := dr_some hJ
  rw [ea6]
  obtain ⟨⟨h7, r8⟩, e9, hJ⟩ := ob_some hJ
  refine jc_I (As := [.int (3 : Int32), .int x2]) C w (cc_X2_init N a6 h (3 : Int32) x2 hka6 e9) (mo_X2_init N a6 h (3 : Int32) x2 e9) (mb_X9_write_16 N t0 _ _ _ _ hJ) hz2 tw_5_135 tw_5_133 tw_5_134 tw_1_21 rfl cd_X2_init ⟨by decide, by decide⟩ hl.1 (by first | exact Nat.le_of_ble_eq_true rfl | simp [rf_cat, cat_i, cat_l, cat_r]) rfl dX9_write_13 (fun H locs w1 => ?_)
  have hk10 := kd_keep w (mo_X2_init N a6 h (3 : Int32) x2 e9) hk0 (by decide)
  have w := w1
  exact sb_X9_write_16 C hz2 N t0 _ _ _ _ hJ hk10 w (lv_sub (l' := [(0, .ref t0), (3, .long x3), (5, va_rf x5)]) hl [0, 2, 3] rfl)
def B_X9_write_5 (N : Nat) (t0 : Nat) (h : Hp) (x2 : Int32) (x3 : Int64) (y0 : Option Nat) : Option (Hp × Int32) := B_X9_write_10 N t0 (h.new 5 0 7) x2 x3 y0 (some h.nx)
theorem mb_X9_write_5 (N : Nat) (t0 : Nat) (h : Hp) (x2 : Int32) (x3 : Int64) (y0 : Option Nat) (hJ : B_X9_write_5 N t0 h x2 x3 y0 = some (hz, rz)) : Mo h hz := by
  unfold B_X9_write_5 at hJ
  exact (Mo.new h _ _ _).tr (mb_X9_write_10 N t0 _ _ _ _ _ hJ)
set_option maxRecDepth 100000 in
set_option maxHeartbeats 4000000 in
theorem sb_X9_write_5 (C : Cx p s m args meth c cX9_write 7 (some .int) RX9 D cs A h0.se) (hz2 : hz.nx ≤ h0.nx + mc ∧ hz.su ≤ h0.su + ms) (N : Nat) (t0 : Nat) (h : Hp) (x2 : Int32) (x3 : Int64) (y0 : Option Nat) (hJ : B_X9_write_5 N t0 h x2 x3 y0 = some (hz, rz)) (hk0 : h.kd t0 = 12) {H : Heap} {locs : List Loc} {cells slots : Nat} (w : Wo D cs A s h0 h H locs cells slots) {ls : Array Slot} (hl : lv_has ls 7 [(0, .ref t0), (2, .int x2), (3, .long x3)]) : W p l e { frames := 10, cells := mc, slots := ms, locals := 320 } s m args below meth c H locs cells slots (MQ below (Zi D cs A hz rz) args s mc ms A) (F0 m 5 ls [va_rf y0]) := by
  obtain ⟨hx, hb, hml, hown, hts, -⟩ := id C
  unfold B_X9_write_5 at hJ
  refine jv_astore (i := 5) (lv' := [(5, va_rf y0), (0, .ref t0), (2, .int x2), (3, .long x3)]) hx hb dX9_write_5 hl (by decide) rfl (fun ls hl => ?_)
  have w0 := w
  refine fn_5 C w (mb_X9_write_10 N t0 _ _ _ _ _ hJ) hz2 tw_5_131 dX9_write_7 (fun H w => ?_)
  have hk11 := kd_new (k := 5) (n := 0) (sl := 7) w0 hk0 (by decide)
  exact sb_X9_write_10 C hz2 N t0 _ _ _ _ _ hJ hk11 w (lv_sub (l' := [(0, .ref t0), (2, .int x2), (3, .long x3), (5, va_rf y0)]) hl [1, 2, 3, 0] rfl)
def B_X9_write_0 (N : Nat) (t0 : Nat) (h : Hp) (x1 : Int32) (x2 : Int32) (x3 : Int64) : Option (Hp × Int32) := (J_X9_writingOne N t0 h x1).bind (fun z => B_X9_write_5 N t0 z.1 x2 x3 z.2)
theorem mb_X9_write_0 (N : Nat) (t0 : Nat) (h : Hp) (x1 : Int32) (x2 : Int32) (x3 : Int64) (hJ : B_X9_write_0 N t0 h x1 x2 x3 = some (hz, rz)) : Mo h hz := by
  unfold B_X9_write_0 at hJ
  obtain ⟨⟨h12, r13⟩, e14, hJ⟩ := ob_some hJ
  exact (mo_X9_writingOne N t0 h x1 e14).tr (mb_X9_write_5 N t0 _ _ _ _ hJ)
set_option maxRecDepth 100000 in
set_option maxHeartbeats 4000000 in
theorem sb_X9_write_0 (C : Cx p s m args meth c cX9_write 7 (some .int) RX9 D cs A h0.se) (hz2 : hz.nx ≤ h0.nx + mc ∧ hz.su ≤ h0.su + ms) (N : Nat) (t0 : Nat) (h : Hp) (x1 : Int32) (x2 : Int32) (x3 : Int64) (hJ : B_X9_write_0 N t0 h x1 x2 x3 = some (hz, rz)) (hk0 : h.kd t0 = 12) {H : Heap} {locs : List Loc} {cells slots : Nat} (w : Wo D cs A s h0 h H locs cells slots) {ls : Array Slot} (hl : lv_has ls 7 [(0, .ref t0), (1, .int x1), (2, .int x2), (3, .long x3)]) : W p l e { frames := 10, cells := mc, slots := ms, locals := 320 } s m args below meth c H locs cells slots (MQ below (Zi D cs A hz rz) args s mc ms A) (F0 m 0 ls []) := by
  obtain ⟨hx, hb, hml, hown, hts, -⟩ := id C
  unfold B_X9_write_0 at hJ
  refine lv_aload_n hx hb dX9_write_0 rfl (lv_at hl 0 rfl) ?_
  refine lv_iload_n hx hb dX9_write_1 rfl (lv_at hl 1 rfl) ?_
  obtain ⟨⟨h12, r13⟩, e14, hJ⟩ := ob_some hJ
  refine jc_Vq (As := [.int x1]) C w (cc_X9_writingOne N t0 h x1 hk0 e14) (mo_X9_writingOne N t0 h x1 e14) (mb_X9_write_5 N t0 _ _ _ _ hJ) hz2 hk0 (by decide) rfl (fs := fs12 h t0) rfl rfl ⟨tw_6_69, tw_6_66, tw_6_68, ts_25, tw_1_1⟩ cd_X9_writingOne ⟨by decide, by decide⟩ hl.1 (by first | exact Nat.le_of_ble_eq_true rfl | simp [rf_cat, cat_i, cat_l, cat_r]) rfl dX9_write_2 (fun H locs w1 => ?_)
  have hk15 := kd_keep w (mo_X9_writingOne N t0 h x1 e14) hk0 (by decide)
  have w := w1
  exact sb_X9_write_5 C hz2 N t0 _ _ _ _ hJ hk15 w (lv_sub (l' := [(0, .ref t0), (2, .int x2), (3, .long x3)]) hl [0, 2, 3] rfl)
def J_X9_write (N : Nat) (t0 : Nat) (h : Hp) (x1 : Int32) (x2 : Int32) (x3 : Int64) : Option (Hp × Int32) := B_X9_write_0 N t0 h x1 x2 x3
theorem mo_X9_write (N : Nat) (t0 : Nat) (h : Hp) (x1 : Int32) (x2 : Int32) (x3 : Int64) (hJ : J_X9_write N t0 h x1 x2 x3 = some (hz, rz)) : Mo h hz := mb_X9_write_0 N t0 h x1 x2 x3 hJ
theorem cd_X9_write : Cd yX9_write 3 := ⟨by decide +kernel, by decide +kernel, by decide +kernel⟩
theorem cc_X9_write (N : Nat) (t0 : Nat) (h : Hp) (x1 : Int32) (x2 : Int32) (x3 : Int64) (hk0 : h.kd t0 = 12) (hJ : J_X9_write N t0 h x1 x2 x3 = some (hz, rz)) : Ci l yX9_write cX9_write 7 (some .int) 10 320 D cs h hz [.ref t0, .int x1, .int x2, .long x3] rz := by
  intro mc ms g1 g2
  refine je_any (by decide) (by simp [lg_sl, rf_cat, cat_i, cat_l, cat_r]) ?_
  intro p e s m args below meth c C hin2 w ls hl
  have hl : lv_has ls 7 [(0, .ref t0), (1, .int x1), (2, .int x2), (3, .long x3)] := hl
  exact sb_X9_write_0 C ⟨g1, g2⟩ N t0 h x1 x2 x3 hJ hk0 w hl
end G_X9_write
section G_X9_remove
variable {p : Program} {l : Launch} {e : Env} {s : State} {m : MethodId} {args : Array Value} {below : List Frame} {meth : Method} {c : Code} {D : va_G} {cs : C4} {A : Nat → Prop} {h0 hz : Hp} {mc ms : Nat} {rz : Int32}
def B_X9_remove_20 (N : Nat) (t0 : Nat) (h : Hp) (y0 : Int32) : Option (Hp × Int32) := some (h, y0)
theorem mb_X9_remove_20 (N : Nat) (t0 : Nat) (h : Hp) (y0 : Int32) (hJ : B_X9_remove_20 N t0 h y0 = some (hz, rz)) : Mo h hz := by
  unfold B_X9_remove_20 at hJ
  obtain ⟨rfl, -⟩ := rs2 hJ
  exact ⟨fun _ _ => rfl, Nat.le_refl _, Nat.le_refl _, rfl, fun _ _ => rfl⟩
set_option maxRecDepth 100000 in
set_option maxHeartbeats 4000000 in
theorem sb_X9_remove_20 (C : Cx p s m args meth c cX9_remove 4 (some .int) RX9 D cs A h0.se) (hz2 : hz.nx ≤ h0.nx + mc ∧ hz.su ≤ h0.su + ms) (N : Nat) (t0 : Nat) (h : Hp) (y0 : Int32) (hJ : B_X9_remove_20 N t0 h y0 = some (hz, rz)) (hk0 : h.kd t0 = 12) {H : Heap} {locs : List Loc} {cells slots : Nat} (w : Wo D cs A s h0 h H locs cells slots) {ls : Array Slot} (hl : lv_has ls 4 [(0, .ref t0)]) : W p l e { frames := 10, cells := mc, slots := ms, locals := 320 } s m args below meth c H locs cells slots (MQ below (Zi D cs A hz rz) args s mc ms A) (F0 m 20 ls [.int y0]) := by
  obtain ⟨hx, hb, hml, hown, hts, -⟩ := id C
  unfold B_X9_remove_20 at hJ
  obtain ⟨rfl, rfl⟩ := rs2 hJ
  exact jr_iret C w hz2 dX9_remove_20
def B_X9_remove_17 (N : Nat) (t0 : Nat) (h : Hp) (y0 : Option Nat) (y1 : Option Nat) (y2 : Option Nat) : Option (Hp × Int32) := dr h 12 y0 (fun a1 => (J_X9_carryOut N a1 h y1 y2).bind (fun z => B_X9_remove_20 N t0 z.1 z.2))
theorem mb_X9_remove_17 (N : Nat) (t0 : Nat) (h : Hp) (y0 : Option Nat) (y1 : Option Nat) (y2 : Option Nat) (hJ : B_X9_remove_17 N t0 h y0 y1 y2 = some (hz, rz)) : Mo h hz := by
  unfold B_X9_remove_17 at hJ
  obtain ⟨a1, ea1, -, hJ⟩ := dr_some hJ
  obtain ⟨⟨h2, r3⟩, e4, hJ⟩ := ob_some hJ
  exact (mo_X9_carryOut N a1 h y1 y2 e4).tr (mb_X9_remove_20 N t0 _ _ hJ)
set_option maxRecDepth 100000 in
set_option maxHeartbeats 4000000 in
theorem sb_X9_remove_17 (C : Cx p s m args meth c cX9_remove 4 (some .int) RX9 D cs A h0.se) (hz2 : hz.nx ≤ h0.nx + mc ∧ hz.su ≤ h0.su + ms) (N : Nat) (t0 : Nat) (h : Hp) (y0 : Option Nat) (y1 : Option Nat) (y2 : Option Nat) (hJ : B_X9_remove_17 N t0 h y0 y1 y2 = some (hz, rz)) (hk0 : h.kd t0 = 12) {H : Heap} {locs : List Loc} {cells slots : Nat} (w : Wo D cs A s h0 h H locs cells slots) {ls : Array Slot} (hl : lv_has ls 4 [(0, .ref t0)]) : W p l e { frames := 10, cells := mc, slots := ms, locals := 320 } s m args below meth c H locs cells slots (MQ below (Zi D cs A hz rz) args s mc ms A) (F0 m 17 ls [va_rf y2, va_rf y1, va_rf y0]) := by
  obtain ⟨hx, hb, hml, hown, hts, -⟩ := id C
  unfold B_X9_remove_17 at hJ
  obtain ⟨a1, ea1, hka1, hJ⟩ := dr_some hJ
  rw [ea1]
  obtain ⟨⟨h2, r3⟩, e4, hJ⟩ := ob_some hJ
  refine jc_Vi (As := [va_rf y1, va_rf y2]) C w (cc_X9_carryOut N a1 h y1 y2 hka1 e4) (mo_X9_carryOut N a1 h y1 y2 e4) (mb_X9_remove_20 N t0 _ _ hJ) hz2 hka1 (by decide) rfl (fs := fs12 h a1) rfl rfl ⟨tw_5_169, tw_5_166, tw_5_168, ts_18, tw_1_1⟩ cd_X9_carryOut ⟨by decide, by decide⟩ hl.1 (by first | exact Nat.le_of_ble_eq_true rfl | simp [rf_cat, cat_i, cat_l, cat_r]) rfl dX9_remove_17 (fun H locs w1 => ?_)
  have hk5 := kd_keep w (mo_X9_carryOut N a1 h y1 y2 e4) hk0 (by decide)
  have w := w1
  exact sb_X9_remove_20 C hz2 N t0 _ _ hJ hk5 w hl
def B_X9_remove_11 (N : Nat) (t0 : Nat) (h : Hp) (x2 : Int32) (y0 : Option Nat) (y1 : Option Nat) (y2 : Option Nat) : Option (Hp × Int32) := dr h 5 y2 (fun a6 => (J_X2_init N a6 h (3 : Int32) x2).bind (fun z => B_X9_remove_17 N t0 z.1 y0 y1 (some a6)))
theorem mb_X9_remove_11 (N : Nat) (t0 : Nat) (h : Hp) (x2 : Int32) (y0 : Option Nat) (y1 : Option Nat) (y2 : Option Nat) (hJ : B_X9_remove_11 N t0 h x2 y0 y1 y2 = some (hz, rz)) : Mo h hz := by
  unfold B_X9_remove_11 at hJ
  obtain ⟨a6, ea6, -, hJ⟩ := dr_some hJ
  obtain ⟨⟨h7, r8⟩, e9, hJ⟩ := ob_some hJ
  exact (mo_X2_init N a6 h (3 : Int32) x2 e9).tr (mb_X9_remove_17 N t0 _ _ _ _ hJ)
set_option maxRecDepth 100000 in
set_option maxHeartbeats 4000000 in
theorem sb_X9_remove_11 (C : Cx p s m args meth c cX9_remove 4 (some .int) RX9 D cs A h0.se) (hz2 : hz.nx ≤ h0.nx + mc ∧ hz.su ≤ h0.su + ms) (N : Nat) (t0 : Nat) (h : Hp) (x2 : Int32) (y0 : Option Nat) (y1 : Option Nat) (y2 : Option Nat) (hJ : B_X9_remove_11 N t0 h x2 y0 y1 y2 = some (hz, rz)) (hk0 : h.kd t0 = 12) {H : Heap} {locs : List Loc} {cells slots : Nat} (w : Wo D cs A s h0 h H locs cells slots) {ls : Array Slot} (hl : lv_has ls 4 [(0, .ref t0), (2, .int x2)]) : W p l e { frames := 10, cells := mc, slots := ms, locals := 320 } s m args below meth c H locs cells slots (MQ below (Zi D cs A hz rz) args s mc ms A) (F0 m 11 ls [va_rf y2, va_rf y1, va_rf y0]) := by
  obtain ⟨hx, hb, hml, hown, hts, -⟩ := id C
  unfold B_X9_remove_11 at hJ
  refine lv_dup hx hb dX9_remove_11 (rf_cat _) ?_
  refine lv_iconst (v := (3 : Int32)) hx hb dX9_remove_12 (by decide) ?_
  refine lv_iload_n hx hb dX9_remove_13 rfl (lv_at hl 1 rfl) ?_
  obtain ⟨a6, ea6, hka6, hJ⟩ := dr_some hJ
  rw [ea6]
  obtain ⟨⟨h7, r8⟩, e9, hJ⟩ := ob_some hJ
  refine jc_I (As := [.int (3 : Int32), .int x2]) C w (cc_X2_init N a6 h (3 : Int32) x2 hka6 e9) (mo_X2_init N a6 h (3 : Int32) x2 e9) (mb_X9_remove_17 N t0 _ _ _ _ hJ) hz2 tw_5_135 tw_5_133 tw_5_134 tw_1_21 rfl cd_X2_init ⟨by decide, by decide⟩ hl.1 (by first | exact Nat.le_of_ble_eq_true rfl | simp [rf_cat, cat_i, cat_l, cat_r]) rfl dX9_remove_14 (fun H locs w1 => ?_)
  have hk10 := kd_keep w (mo_X2_init N a6 h (3 : Int32) x2 e9) hk0 (by decide)
  have w := w1
  exact sb_X9_remove_17 C hz2 N t0 _ _ _ _ hJ hk10 w (lv_sub (l' := [(0, .ref t0)]) hl [0] rfl)
def B_X9_remove_5 (N : Nat) (t0 : Nat) (h : Hp) (x2 : Int32) (y0 : Option Nat) : Option (Hp × Int32) := B_X9_remove_11 N t0 (h.new 5 0 7) x2 (some t0) y0 (some h.nx)
theorem mb_X9_remove_5 (N : Nat) (t0 : Nat) (h : Hp) (x2 : Int32) (y0 : Option Nat) (hJ : B_X9_remove_5 N t0 h x2 y0 = some (hz, rz)) : Mo h hz := by
  unfold B_X9_remove_5 at hJ
  exact (Mo.new h _ _ _).tr (mb_X9_remove_11 N t0 _ _ _ _ _ hJ)
set_option maxRecDepth 100000 in
set_option maxHeartbeats 4000000 in
theorem sb_X9_remove_5 (C : Cx p s m args meth c cX9_remove 4 (some .int) RX9 D cs A h0.se) (hz2 : hz.nx ≤ h0.nx + mc ∧ hz.su ≤ h0.su + ms) (N : Nat) (t0 : Nat) (h : Hp) (x2 : Int32) (y0 : Option Nat) (hJ : B_X9_remove_5 N t0 h x2 y0 = some (hz, rz)) (hk0 : h.kd t0 = 12) {H : Heap} {locs : List Loc} {cells slots : Nat} (w : Wo D cs A s h0 h H locs cells slots) {ls : Array Slot} (hl : lv_has ls 4 [(0, .ref t0), (2, .int x2)]) : W p l e { frames := 10, cells := mc, slots := ms, locals := 320 } s m args below meth c H locs cells slots (MQ below (Zi D cs A hz rz) args s mc ms A) (F0 m 5 ls [va_rf y0]) := by
  obtain ⟨hx, hb, hml, hown, hts, -⟩ := id C
  unfold B_X9_remove_5 at hJ
  refine jv_astore_n (i := 3) (lv' := [(3, va_rf y0), (0, .ref t0), (2, .int x2)]) hx hb dX9_remove_5 rfl hl (by decide) rfl (fun ls hl => ?_)
  refine lv_aload_n hx hb dX9_remove_6 rfl (lv_at hl 1 rfl) ?_
  refine jv_aload_n hx hb dX9_remove_7 rfl (lv_at hl 0 rfl) ?_
  have w0 := w
  refine fn_5 C w (mb_X9_remove_11 N t0 _ _ _ _ _ hJ) hz2 tw_5_131 dX9_remove_8 (fun H w => ?_)
  have hk11 := kd_new (k := 5) (n := 0) (sl := 7) w0 hk0 (by decide)
  exact sb_X9_remove_11 C hz2 N t0 _ _ _ _ _ hJ hk11 w (lv_sub (l' := [(0, .ref t0), (2, .int x2)]) hl [1, 2] rfl)
def B_X9_remove_0 (N : Nat) (t0 : Nat) (h : Hp) (x1 : Int32) (x2 : Int32) : Option (Hp × Int32) := (J_X9_writingOne N t0 h x1).bind (fun z => B_X9_remove_5 N t0 z.1 x2 z.2)
theorem mb_X9_remove_0 (N : Nat) (t0 : Nat) (h : Hp) (x1 : Int32) (x2 : Int32) (hJ : B_X9_remove_0 N t0 h x1 x2 = some (hz, rz)) : Mo h hz := by
  unfold B_X9_remove_0 at hJ
  obtain ⟨⟨h12, r13⟩, e14, hJ⟩ := ob_some hJ
  exact (mo_X9_writingOne N t0 h x1 e14).tr (mb_X9_remove_5 N t0 _ _ _ hJ)
set_option maxRecDepth 100000 in
set_option maxHeartbeats 4000000 in
theorem sb_X9_remove_0 (C : Cx p s m args meth c cX9_remove 4 (some .int) RX9 D cs A h0.se) (hz2 : hz.nx ≤ h0.nx + mc ∧ hz.su ≤ h0.su + ms) (N : Nat) (t0 : Nat) (h : Hp) (x1 : Int32) (x2 : Int32) (hJ : B_X9_remove_0 N t0 h x1 x2 = some (hz, rz)) (hk0 : h.kd t0 = 12) {H : Heap} {locs : List Loc} {cells slots : Nat} (w : Wo D cs A s h0 h H locs cells slots) {ls : Array Slot} (hl : lv_has ls 4 [(0, .ref t0), (1, .int x1), (2, .int x2)]) : W p l e { frames := 10, cells := mc, slots := ms, locals := 320 } s m args below meth c H locs cells slots (MQ below (Zi D cs A hz rz) args s mc ms A) (F0 m 0 ls []) := by
  obtain ⟨hx, hb, hml, hown, hts, -⟩ := id C
  unfold B_X9_remove_0 at hJ
  refine lv_aload_n hx hb dX9_remove_0 rfl (lv_at hl 0 rfl) ?_
  refine lv_iload_n hx hb dX9_remove_1 rfl (lv_at hl 1 rfl) ?_
  obtain ⟨⟨h12, r13⟩, e14, hJ⟩ := ob_some hJ
  refine jc_Vq (As := [.int x1]) C w (cc_X9_writingOne N t0 h x1 hk0 e14) (mo_X9_writingOne N t0 h x1 e14) (mb_X9_remove_5 N t0 _ _ _ hJ) hz2 hk0 (by decide) rfl (fs := fs12 h t0) rfl rfl ⟨tw_6_69, tw_6_66, tw_6_68, ts_25, tw_1_1⟩ cd_X9_writingOne ⟨by decide, by decide⟩ hl.1 (by first | exact Nat.le_of_ble_eq_true rfl | simp [rf_cat, cat_i, cat_l, cat_r]) rfl dX9_remove_2 (fun H locs w1 => ?_)
  have hk15 := kd_keep w (mo_X9_writingOne N t0 h x1 e14) hk0 (by decide)
  have w := w1
  exact sb_X9_remove_5 C hz2 N t0 _ _ _ hJ hk15 w (lv_sub (l' := [(0, .ref t0), (2, .int x2)]) hl [0, 2] rfl)
def J_X9_remove (N : Nat) (t0 : Nat) (h : Hp) (x1 : Int32) (x2 : Int32) : Option (Hp × Int32) := B_X9_remove_0 N t0 h x1 x2
theorem mo_X9_remove (N : Nat) (t0 : Nat) (h : Hp) (x1 : Int32) (x2 : Int32) (hJ : J_X9_remove N t0 h x1 x2 = some (hz, rz)) : Mo h hz := mb_X9_remove_0 N t0 h x1 x2 hJ
theorem cd_X9_remove : Cd yX9_remove 2 := ⟨by decide +kernel, by decide +kernel, by decide +kernel⟩
theorem cc_X9_remove (N : Nat) (t0 : Nat) (h : Hp) (x1 : Int32) (x2 : Int32) (hk0 : h.kd t0 = 12) (hJ : J_X9_remove N t0 h x1 x2 = some (hz, rz)) : Ci l yX9_remove cX9_remove 4 (some .int) 10 320 D cs h hz [.ref t0, .int x1, .int x2] rz := by
  intro mc ms g1 g2
  refine je_any (by decide) (by simp [lg_sl, rf_cat, cat_i, cat_l, cat_r]) ?_
  intro p e s m args below meth c C hin2 w ls hl
  have hl : lv_has ls 4 [(0, .ref t0), (1, .int x1), (2, .int x2)] := hl
  exact sb_X9_remove_0 C ⟨g1, g2⟩ N t0 h x1 x2 hJ hk0 w hl
end G_X9_remove
section G_X9_save
variable {p : Program} {l : Launch} {e : Env} {s : State} {m : MethodId} {args : Array Value} {below : List Frame} {meth : Method} {c : Code} {D : va_G} {cs : C4} {A : Nat → Prop} {h0 hz : Hp} {mc ms : Nat} {rz : Int32}
def B_X9_save_20 (N : Nat) (t0 : Nat) (h : Hp) (y0 : Int32) : Option (Hp × Int32) := some (h, y0)
theorem mb_X9_save_20 (N : Nat) (t0 : Nat) (h : Hp) (y0 : Int32) (hJ : B_X9_save_20 N t0 h y0 = some (hz, rz)) : Mo h hz := by
  unfold B_X9_save_20 at hJ
  obtain ⟨rfl, -⟩ := rs2 hJ
  exact ⟨fun _ _ => rfl, Nat.le_refl _, Nat.le_refl _, rfl, fun _ _ => rfl⟩
set_option maxRecDepth 100000 in
set_option maxHeartbeats 4000000 in
theorem sb_X9_save_20 (C : Cx p s m args meth c cX9_save 3 (some .int) RX9 D cs A h0.se) (hz2 : hz.nx ≤ h0.nx + mc ∧ hz.su ≤ h0.su + ms) (N : Nat) (t0 : Nat) (h : Hp) (y0 : Int32) (hJ : B_X9_save_20 N t0 h y0 = some (hz, rz)) (hk0 : h.kd t0 = 12) {H : Heap} {locs : List Loc} {cells slots : Nat} (w : Wo D cs A s h0 h H locs cells slots) {ls : Array Slot} (hl : lv_has ls 3 [(0, .ref t0)]) : W p l e { frames := 10, cells := mc, slots := ms, locals := 320 } s m args below meth c H locs cells slots (MQ below (Zi D cs A hz rz) args s mc ms A) (F0 m 20 ls [.int y0]) := by
  obtain ⟨hx, hb, hml, hown, hts, -⟩ := id C
  unfold B_X9_save_20 at hJ
  obtain ⟨rfl, rfl⟩ := rs2 hJ
  exact jr_iret C w hz2 dX9_save_20
def B_X9_save_17 (N : Nat) (t0 : Nat) (h : Hp) (y0 : Option Nat) (y1 : Option Nat) (y2 : Option Nat) : Option (Hp × Int32) := dr h 12 y0 (fun a1 => (J_X9_carryOut N a1 h y1 y2).bind (fun z => B_X9_save_20 N t0 z.1 z.2))
theorem mb_X9_save_17 (N : Nat) (t0 : Nat) (h : Hp) (y0 : Option Nat) (y1 : Option Nat) (y2 : Option Nat) (hJ : B_X9_save_17 N t0 h y0 y1 y2 = some (hz, rz)) : Mo h hz := by
  unfold B_X9_save_17 at hJ
  obtain ⟨a1, ea1, -, hJ⟩ := dr_some hJ
  obtain ⟨⟨h2, r3⟩, e4, hJ⟩ := ob_some hJ
  exact (mo_X9_carryOut N a1 h y1 y2 e4).tr (mb_X9_save_20 N t0 _ _ hJ)
set_option maxRecDepth 100000 in
set_option maxHeartbeats 4000000 in
theorem sb_X9_save_17 (C : Cx p s m args meth c cX9_save 3 (some .int) RX9 D cs A h0.se) (hz2 : hz.nx ≤ h0.nx + mc ∧ hz.su ≤ h0.su + ms) (N : Nat) (t0 : Nat) (h : Hp) (y0 : Option Nat) (y1 : Option Nat) (y2 : Option Nat) (hJ : B_X9_save_17 N t0 h y0 y1 y2 = some (hz, rz)) (hk0 : h.kd t0 = 12) {H : Heap} {locs : List Loc} {cells slots : Nat} (w : Wo D cs A s h0 h H locs cells slots) {ls : Array Slot} (hl : lv_has ls 3 [(0, .ref t0)]) : W p l e { frames := 10, cells := mc, slots := ms, locals := 320 } s m args below meth c H locs cells slots (MQ below (Zi D cs A hz rz) args s mc ms A) (F0 m 17 ls [va_rf y2, va_rf y1, va_rf y0]) := by
  obtain ⟨hx, hb, hml, hown, hts, -⟩ := id C
  unfold B_X9_save_17 at hJ
  obtain ⟨a1, ea1, hka1, hJ⟩ := dr_some hJ
  rw [ea1]
  obtain ⟨⟨h2, r3⟩, e4, hJ⟩ := ob_some hJ
  refine jc_Vi (As := [va_rf y1, va_rf y2]) C w (cc_X9_carryOut N a1 h y1 y2 hka1 e4) (mo_X9_carryOut N a1 h y1 y2 e4) (mb_X9_save_20 N t0 _ _ hJ) hz2 hka1 (by decide) rfl (fs := fs12 h a1) rfl rfl ⟨tw_5_169, tw_5_166, tw_5_168, ts_18, tw_1_1⟩ cd_X9_carryOut ⟨by decide, by decide⟩ hl.1 (by first | exact Nat.le_of_ble_eq_true rfl | simp [rf_cat, cat_i, cat_l, cat_r]) rfl dX9_save_17 (fun H locs w1 => ?_)
  have hk5 := kd_keep w (mo_X9_carryOut N a1 h y1 y2 e4) hk0 (by decide)
  have w := w1
  exact sb_X9_save_20 C hz2 N t0 _ _ hJ hk5 w hl
def B_X9_save_11 (N : Nat) (t0 : Nat) (h : Hp) (y0 : Option Nat) (y1 : Option Nat) (y2 : Option Nat) : Option (Hp × Int32) := dr h 5 y2 (fun a6 => (J_X2_init N a6 h (4 : Int32) (0 : Int32)).bind (fun z => B_X9_save_17 N t0 z.1 y0 y1 (some a6)))
theorem mb_X9_save_11 (N : Nat) (t0 : Nat) (h : Hp) (y0 : Option Nat) (y1 : Option Nat) (y2 : Option Nat) (hJ : B_X9_save_11 N t0 h y0 y1 y2 = some (hz, rz)) : Mo h hz := by
  unfold B_X9_save_11 at hJ
  obtain ⟨a6, ea6, -, hJ⟩ := dr_some hJ
  obtain ⟨⟨h7, r8⟩, e9, hJ⟩ := ob_some hJ
  exact (mo_X2_init N a6 h (4 : Int32) (0 : Int32) e9).tr (mb_X9_save_17 N t0 _ _ _ _ hJ)
set_option maxRecDepth 100000 in
set_option maxHeartbeats 4000000 in
theorem sb_X9_save_11 (C : Cx p s m args meth c cX9_save 3 (some .int) RX9 D cs A h0.se) (hz2 : hz.nx ≤ h0.nx + mc ∧ hz.su ≤ h0.su + ms) (N : Nat) (t0 : Nat) (h : Hp) (y0 : Option Nat) (y1 : Option Nat) (y2 : Option Nat) (hJ : B_X9_save_11 N t0 h y0 y1 y2 = some (hz, rz)) (hk0 : h.kd t0 = 12) {H : Heap} {locs : List Loc} {cells slots : Nat} (w : Wo D cs A s h0 h H locs cells slots) {ls : Array Slot} (hl : lv_has ls 3 [(0, .ref t0)]) : W p l e { frames := 10, cells := mc, slots := ms, locals := 320 } s m args below meth c H locs cells slots (MQ below (Zi D cs A hz rz) args s mc ms A) (F0 m 11 ls [va_rf y2, va_rf y1, va_rf y0]) := by
  obtain ⟨hx, hb, hml, hown, hts, -⟩ := id C
  unfold B_X9_save_11 at hJ
  refine lv_dup hx hb dX9_save_11 (rf_cat _) ?_
  refine lv_iconst (v := (4 : Int32)) hx hb dX9_save_12 (by decide) ?_
  refine lv_iconst (v := (0 : Int32)) hx hb dX9_save_13 (by decide) ?_
  obtain ⟨a6, ea6, hka6, hJ⟩ := dr_some hJ
  rw [ea6]
  obtain ⟨⟨h7, r8⟩, e9, hJ⟩ := ob_some hJ
  refine jc_I (As := [.int (4 : Int32), .int (0 : Int32)]) C w (cc_X2_init N a6 h (4 : Int32) (0 : Int32) hka6 e9) (mo_X2_init N a6 h (4 : Int32) (0 : Int32) e9) (mb_X9_save_17 N t0 _ _ _ _ hJ) hz2 tw_5_135 tw_5_133 tw_5_134 tw_1_21 rfl cd_X2_init ⟨by decide, by decide⟩ hl.1 (by first | exact Nat.le_of_ble_eq_true rfl | simp [rf_cat, cat_i, cat_l, cat_r]) rfl dX9_save_14 (fun H locs w1 => ?_)
  have hk10 := kd_keep w (mo_X2_init N a6 h (4 : Int32) (0 : Int32) e9) hk0 (by decide)
  have w := w1
  exact sb_X9_save_17 C hz2 N t0 _ _ _ _ hJ hk10 w hl
def B_X9_save_5 (N : Nat) (t0 : Nat) (h : Hp) (y0 : Option Nat) : Option (Hp × Int32) := B_X9_save_11 N t0 (h.new 5 0 7) (some t0) y0 (some h.nx)
theorem mb_X9_save_5 (N : Nat) (t0 : Nat) (h : Hp) (y0 : Option Nat) (hJ : B_X9_save_5 N t0 h y0 = some (hz, rz)) : Mo h hz := by
  unfold B_X9_save_5 at hJ
  exact (Mo.new h _ _ _).tr (mb_X9_save_11 N t0 _ _ _ _ hJ)
set_option maxRecDepth 100000 in
set_option maxHeartbeats 4000000 in
theorem sb_X9_save_5 (C : Cx p s m args meth c cX9_save 3 (some .int) RX9 D cs A h0.se) (hz2 : hz.nx ≤ h0.nx + mc ∧ hz.su ≤ h0.su + ms) (N : Nat) (t0 : Nat) (h : Hp) (y0 : Option Nat) (hJ : B_X9_save_5 N t0 h y0 = some (hz, rz)) (hk0 : h.kd t0 = 12) {H : Heap} {locs : List Loc} {cells slots : Nat} (w : Wo D cs A s h0 h H locs cells slots) {ls : Array Slot} (hl : lv_has ls 3 [(0, .ref t0)]) : W p l e { frames := 10, cells := mc, slots := ms, locals := 320 } s m args below meth c H locs cells slots (MQ below (Zi D cs A hz rz) args s mc ms A) (F0 m 5 ls [va_rf y0]) := by
  obtain ⟨hx, hb, hml, hown, hts, -⟩ := id C
  unfold B_X9_save_5 at hJ
  refine jv_astore_n (i := 2) (lv' := [(2, va_rf y0), (0, .ref t0)]) hx hb dX9_save_5 rfl hl (by decide) rfl (fun ls hl => ?_)
  refine lv_aload_n hx hb dX9_save_6 rfl (lv_at hl 1 rfl) ?_
  refine jv_aload_n hx hb dX9_save_7 rfl (lv_at hl 0 rfl) ?_
  have w0 := w
  refine fn_5 C w (mb_X9_save_11 N t0 _ _ _ _ hJ) hz2 tw_5_131 dX9_save_8 (fun H w => ?_)
  have hk11 := kd_new (k := 5) (n := 0) (sl := 7) w0 hk0 (by decide)
  exact sb_X9_save_11 C hz2 N t0 _ _ _ _ hJ hk11 w (lv_sub (l' := [(0, .ref t0)]) hl [1] rfl)
def B_X9_save_0 (N : Nat) (t0 : Nat) (h : Hp) (x1 : Int32) : Option (Hp × Int32) := (J_X9_activeOne N t0 h x1).bind (fun z => B_X9_save_5 N t0 z.1 z.2)
theorem mb_X9_save_0 (N : Nat) (t0 : Nat) (h : Hp) (x1 : Int32) (hJ : B_X9_save_0 N t0 h x1 = some (hz, rz)) : Mo h hz := by
  unfold B_X9_save_0 at hJ
  obtain ⟨⟨h12, r13⟩, e14, hJ⟩ := ob_some hJ
  exact (mo_X9_activeOne N t0 h x1 e14).tr (mb_X9_save_5 N t0 _ _ hJ)
set_option maxRecDepth 100000 in
set_option maxHeartbeats 4000000 in
theorem sb_X9_save_0 (C : Cx p s m args meth c cX9_save 3 (some .int) RX9 D cs A h0.se) (hz2 : hz.nx ≤ h0.nx + mc ∧ hz.su ≤ h0.su + ms) (N : Nat) (t0 : Nat) (h : Hp) (x1 : Int32) (hJ : B_X9_save_0 N t0 h x1 = some (hz, rz)) (hk0 : h.kd t0 = 12) {H : Heap} {locs : List Loc} {cells slots : Nat} (w : Wo D cs A s h0 h H locs cells slots) {ls : Array Slot} (hl : lv_has ls 3 [(0, .ref t0), (1, .int x1)]) : W p l e { frames := 10, cells := mc, slots := ms, locals := 320 } s m args below meth c H locs cells slots (MQ below (Zi D cs A hz rz) args s mc ms A) (F0 m 0 ls []) := by
  obtain ⟨hx, hb, hml, hown, hts, -⟩ := id C
  unfold B_X9_save_0 at hJ
  refine lv_aload_n hx hb dX9_save_0 rfl (lv_at hl 0 rfl) ?_
  refine lv_iload_n hx hb dX9_save_1 rfl (lv_at hl 1 rfl) ?_
  obtain ⟨⟨h12, r13⟩, e14, hJ⟩ := ob_some hJ
  refine jc_Vq (As := [.int x1]) C w (cc_X9_activeOne N t0 h x1 hk0 e14) (mo_X9_activeOne N t0 h x1 e14) (mb_X9_save_5 N t0 _ _ hJ) hz2 hk0 (by decide) rfl (fs := fs12 h t0) rfl rfl ⟨tw_5_114, tw_5_111, tw_5_113, ts_17, tw_1_1⟩ cd_X9_activeOne ⟨by decide, by decide⟩ hl.1 (by first | exact Nat.le_of_ble_eq_true rfl | simp [rf_cat, cat_i, cat_l, cat_r]) rfl dX9_save_2 (fun H locs w1 => ?_)
  have hk15 := kd_keep w (mo_X9_activeOne N t0 h x1 e14) hk0 (by decide)
  have w := w1
  exact sb_X9_save_5 C hz2 N t0 _ _ hJ hk15 w (lv_sub (l' := [(0, .ref t0)]) hl [0] rfl)
def J_X9_save (N : Nat) (t0 : Nat) (h : Hp) (x1 : Int32) : Option (Hp × Int32) := B_X9_save_0 N t0 h x1
theorem mo_X9_save (N : Nat) (t0 : Nat) (h : Hp) (x1 : Int32) (hJ : J_X9_save N t0 h x1 = some (hz, rz)) : Mo h hz := mb_X9_save_0 N t0 h x1 hJ
theorem cd_X9_save : Cd yX9_save 1 := ⟨by decide +kernel, by decide +kernel, by decide +kernel⟩
theorem cc_X9_save (N : Nat) (t0 : Nat) (h : Hp) (x1 : Int32) (hk0 : h.kd t0 = 12) (hJ : J_X9_save N t0 h x1 = some (hz, rz)) : Ci l yX9_save cX9_save 3 (some .int) 10 320 D cs h hz [.ref t0, .int x1] rz := by
  intro mc ms g1 g2
  refine je_any (by decide) (by simp [lg_sl, rf_cat, cat_i, cat_l, cat_r]) ?_
  intro p e s m args below meth c C hin2 w ls hl
  have hl : lv_has ls 3 [(0, .ref t0), (1, .int x1)] := hl
  exact sb_X9_save_0 C ⟨g1, g2⟩ N t0 h x1 hJ hk0 w hl
end G_X9_save
section G_X9_undo
variable {p : Program} {l : Launch} {e : Env} {s : State} {m : MethodId} {args : Array Value} {below : List Frame} {meth : Method} {c : Code} {D : va_G} {cs : C4} {A : Nat → Prop} {h0 hz : Hp} {mc ms : Nat} {rz : Int32}
def B_X9_undo_51 (N : Nat) (t0 : Nat) (h : Hp) (y0 : Int32) : Option (Hp × Int32) := some (h, y0)
theorem mb_X9_undo_51 (N : Nat) (t0 : Nat) (h : Hp) (y0 : Int32) (hJ : B_X9_undo_51 N t0 h y0 = some (hz, rz)) : Mo h hz := by
  unfold B_X9_undo_51 at hJ
  obtain ⟨rfl, -⟩ := rs2 hJ
  exact ⟨fun _ _ => rfl, Nat.le_refl _, Nat.le_refl _, rfl, fun _ _ => rfl⟩
set_option maxRecDepth 100000 in
set_option maxHeartbeats 4000000 in
theorem sb_X9_undo_51 (C : Cx p s m args meth c cX9_undo 5 (some .int) RX9 D cs A h0.se) (hz2 : hz.nx ≤ h0.nx + mc ∧ hz.su ≤ h0.su + ms) (N : Nat) (t0 : Nat) (h : Hp) (y0 : Int32) (hJ : B_X9_undo_51 N t0 h y0 = some (hz, rz)) (hk0 : h.kd t0 = 12) {H : Heap} {locs : List Loc} {cells slots : Nat} (w : Wo D cs A s h0 h H locs cells slots) {ls : Array Slot} (hl : lv_has ls 5 [(0, .ref t0)]) : W p l e { frames := 10, cells := mc, slots := ms, locals := 320 } s m args below meth c H locs cells slots (MQ below (Zi D cs A hz rz) args s mc ms A) (F0 m 51 ls [.int y0]) := by
  obtain ⟨hx, hb, hml, hown, hts, -⟩ := id C
  unfold B_X9_undo_51 at hJ
  obtain ⟨rfl, rfl⟩ := rs2 hJ
  exact jr_iret C w hz2 dX9_undo_51
def B_X9_undo_36 (N : Nat) (t0 : Nat) (h : Hp) (x2 : Int32) (x3 : Option Nat) (y0 : Option Nat) : Option (Hp × Int32) := dr h 5 y0 (fun a1 => (J_X9_carryOut N t0 (h.sfi 503 a1 x2) x3 (some a1)).bind (fun z => B_X9_undo_51 N t0 z.1 z.2))
theorem mb_X9_undo_36 (N : Nat) (t0 : Nat) (h : Hp) (x2 : Int32) (x3 : Option Nat) (y0 : Option Nat) (hJ : B_X9_undo_36 N t0 h x2 x3 y0 = some (hz, rz)) : Mo h hz := by
  unfold B_X9_undo_36 at hJ
  obtain ⟨a1, ea1, -, hJ⟩ := dr_some hJ
  obtain ⟨⟨h2, r3⟩, e4, hJ⟩ := ob_some hJ
  exact (Mo.tr (show Mo h (h.sfi 503 a1 x2) from ⟨fun _ _ => rfl, Nat.le_refl _, Nat.le_refl _, rfl, fun _ _ => rfl⟩) ((mo_X9_carryOut N t0 (h.sfi 503 a1 x2) x3 (some a1) e4).tr (mb_X9_undo_51 N t0 _ _ hJ)))
set_option maxRecDepth 100000 in
set_option maxHeartbeats 4000000 in
theorem sb_X9_undo_36 (C : Cx p s m args meth c cX9_undo 5 (some .int) RX9 D cs A h0.se) (hz2 : hz.nx ≤ h0.nx + mc ∧ hz.su ≤ h0.su + ms) (N : Nat) (t0 : Nat) (h : Hp) (x2 : Int32) (x3 : Option Nat) (y0 : Option Nat) (hJ : B_X9_undo_36 N t0 h x2 x3 y0 = some (hz, rz)) (hk0 : h.kd t0 = 12) {H : Heap} {locs : List Loc} {cells slots : Nat} (w : Wo D cs A s h0 h H locs cells slots) {ls : Array Slot} (hl : lv_has ls 5 [(0, .ref t0), (2, .int x2), (3, va_rf x3)]) : W p l e { frames := 10, cells := mc, slots := ms, locals := 320 } s m args below meth c H locs cells slots (MQ below (Zi D cs A hz rz) args s mc ms A) (F0 m 36 ls [va_rf y0]) := by
  obtain ⟨hx, hb, hml, hown, hts, -⟩ := id C
  unfold B_X9_undo_36 at hJ
  refine jv_astore (i := 4) (lv' := [(4, va_rf y0), (0, .ref t0), (2, .int x2), (3, va_rf x3)]) hx hb dX9_undo_36 hl (by decide) (by simp [List.filter, rf_cat, cat_i, cat_l, cat_r]) (fun ls hl => ?_)
  refine jv_aload hx hb dX9_undo_38 (lv_at hl 0 rfl) ?_
  refine lv_iload_n hx hb dX9_undo_40 rfl (lv_at hl 2 rfl) ?_
  obtain ⟨a1, ea1, hka1, hJ⟩ := dr_some hJ
  rw [ea1] at hl
  rw [ea1]
  refine fp_503 (x := x2) C w hka1 tw_5_143 dX9_undo_41 (fun H locs w => ?_)
  refine lv_aload_n hx hb dX9_undo_44 rfl (lv_at hl 1 rfl) ?_
  refine jv_aload_n hx hb dX9_undo_45 rfl (lv_at hl 3 rfl) ?_
  refine lv_aload hx hb dX9_undo_46 (lv_at hl 0 rfl) ?_
  obtain ⟨⟨h2, r3⟩, e4, hJ⟩ := ob_some hJ
  refine jc_Vi (As := [va_rf x3, .ref a1]) C w (cc_X9_carryOut N t0 (h.sfi 503 a1 x2) x3 (some a1) hk0 e4) (mo_X9_carryOut N t0 (h.sfi 503 a1 x2) x3 (some a1) e4) (mb_X9_undo_51 N t0 _ _ hJ) hz2 hk0 (by decide) rfl (fs := fs12 (h.sfi 503 a1 x2) t0) rfl rfl ⟨tw_5_169, tw_5_166, tw_5_168, ts_18, tw_1_1⟩ cd_X9_carryOut ⟨by decide, by decide⟩ hl.1 (by first | exact Nat.le_of_ble_eq_true rfl | simp [rf_cat, cat_i, cat_l, cat_r]) rfl dX9_undo_48 (fun H locs w1 => ?_)
  have hk5 := kd_keep w (mo_X9_carryOut N t0 (h.sfi 503 a1 x2) x3 (some a1) e4) hk0 (by decide)
  have w := w1
  exact sb_X9_undo_51 C hz2 N t0 _ _ hJ hk5 w (lv_sub (l' := [(0, .ref t0)]) hl [1] rfl)
def B_X9_undo_30 (N : Nat) (t0 : Nat) (h : Hp) (x2 : Int32) (x3 : Option Nat) (y0 : Option Nat) : Option (Hp × Int32) := dr h 5 y0 (fun a6 => (J_X2_init N a6 h (5 : Int32) (0 : Int32)).bind (fun z => B_X9_undo_36 N t0 z.1 x2 x3 (some a6)))
theorem mb_X9_undo_30 (N : Nat) (t0 : Nat) (h : Hp) (x2 : Int32) (x3 : Option Nat) (y0 : Option Nat) (hJ : B_X9_undo_30 N t0 h x2 x3 y0 = some (hz, rz)) : Mo h hz := by
  unfold B_X9_undo_30 at hJ
  obtain ⟨a6, ea6, -, hJ⟩ := dr_some hJ
  obtain ⟨⟨h7, r8⟩, e9, hJ⟩ := ob_some hJ
  exact (mo_X2_init N a6 h (5 : Int32) (0 : Int32) e9).tr (mb_X9_undo_36 N t0 _ _ _ _ hJ)
set_option maxRecDepth 100000 in
set_option maxHeartbeats 4000000 in
theorem sb_X9_undo_30 (C : Cx p s m args meth c cX9_undo 5 (some .int) RX9 D cs A h0.se) (hz2 : hz.nx ≤ h0.nx + mc ∧ hz.su ≤ h0.su + ms) (N : Nat) (t0 : Nat) (h : Hp) (x2 : Int32) (x3 : Option Nat) (y0 : Option Nat) (hJ : B_X9_undo_30 N t0 h x2 x3 y0 = some (hz, rz)) (hk0 : h.kd t0 = 12) {H : Heap} {locs : List Loc} {cells slots : Nat} (w : Wo D cs A s h0 h H locs cells slots) {ls : Array Slot} (hl : lv_has ls 5 [(0, .ref t0), (2, .int x2), (3, va_rf x3)]) : W p l e { frames := 10, cells := mc, slots := ms, locals := 320 } s m args below meth c H locs cells slots (MQ below (Zi D cs A hz rz) args s mc ms A) (F0 m 30 ls [va_rf y0]) := by
  obtain ⟨hx, hb, hml, hown, hts, -⟩ := id C
  unfold B_X9_undo_30 at hJ
  refine lv_dup hx hb dX9_undo_30 (rf_cat _) ?_
  refine lv_iconst (v := (5 : Int32)) hx hb dX9_undo_31 (by decide) ?_
  refine lv_iconst (v := (0 : Int32)) hx hb dX9_undo_32 (by decide) ?_
  obtain ⟨a6, ea6, hka6, hJ⟩ := dr_some hJ
  rw [ea6]
  obtain ⟨⟨h7, r8⟩, e9, hJ⟩ := ob_some hJ
  refine jc_I (As := [.int (5 : Int32), .int (0 : Int32)]) C w (cc_X2_init N a6 h (5 : Int32) (0 : Int32) hka6 e9) (mo_X2_init N a6 h (5 : Int32) (0 : Int32) e9) (mb_X9_undo_36 N t0 _ _ _ _ hJ) hz2 tw_5_135 tw_5_133 tw_5_134 tw_1_21 rfl cd_X2_init ⟨by decide, by decide⟩ hl.1 (by first | exact Nat.le_of_ble_eq_true rfl | simp [rf_cat, cat_i, cat_l, cat_r]) rfl dX9_undo_33 (fun H locs w1 => ?_)
  have hk10 := kd_keep w (mo_X2_init N a6 h (5 : Int32) (0 : Int32) e9) hk0 (by decide)
  have w := w1
  exact sb_X9_undo_36 C hz2 N t0 _ _ _ _ hJ hk10 w hl
def B_X9_undo_14 (N : Nat) (t0 : Nat) (h : Hp) (x2 : Int32) (x3 : Option Nat) (y0 : Int32) : Option (Hp × Int32) := if y0 = 0 then (none) else (B_X9_undo_30 N t0 (h.new 5 0 7) x2 x3 (some h.nx))
theorem mb_X9_undo_14 (N : Nat) (t0 : Nat) (h : Hp) (x2 : Int32) (x3 : Option Nat) (y0 : Int32) (hJ : B_X9_undo_14 N t0 h x2 x3 y0 = some (hz, rz)) : Mo h hz := by
  unfold B_X9_undo_14 at hJ
  by_cases c11 : y0 = 0
  · have hJ := it_pos c11 hJ
    cases hJ
  · have hJ := it_neg c11 hJ
    exact (Mo.new h _ _ _).tr (mb_X9_undo_30 N t0 _ _ _ _ hJ)
set_option maxRecDepth 100000 in
set_option maxHeartbeats 4000000 in
theorem sb_X9_undo_14 (C : Cx p s m args meth c cX9_undo 5 (some .int) RX9 D cs A h0.se) (hz2 : hz.nx ≤ h0.nx + mc ∧ hz.su ≤ h0.su + ms) (N : Nat) (t0 : Nat) (h : Hp) (x2 : Int32) (x3 : Option Nat) (y0 : Int32) (hJ : B_X9_undo_14 N t0 h x2 x3 y0 = some (hz, rz)) (hk0 : h.kd t0 = 12) {H : Heap} {locs : List Loc} {cells slots : Nat} (w : Wo D cs A s h0 h H locs cells slots) {ls : Array Slot} (hl : lv_has ls 5 [(0, .ref t0), (2, .int x2), (3, va_rf x3)]) : W p l e { frames := 10, cells := mc, slots := ms, locals := 320 } s m args below meth c H locs cells slots (MQ below (Zi D cs A hz rz) args s mc ms A) (F0 m 14 ls [.int y0]) := by
  obtain ⟨hx, hb, hml, hown, hts, -⟩ := id C
  unfold B_X9_undo_14 at hJ
  refine lv_if_ne (tgt := 27) hx hb dX9_undo_14 (by decide) (fun c11 => ?_) (fun c11 => ?_)
  · have hJ := it_neg c11 hJ
    have w0 := w
    refine fn_5 C w (mb_X9_undo_30 N t0 _ _ _ _ hJ) hz2 tw_5_131 dX9_undo_27 (fun H w => ?_)
    have hk12 := kd_new (k := 5) (n := 0) (sl := 7) w0 hk0 (by decide)
    exact sb_X9_undo_30 C hz2 N t0 _ _ _ _ hJ hk12 w hl
  · have hJ := it_pos c11 hJ
    cases hJ
def B_X9_undo_5 (N : Nat) (t0 : Nat) (h : Hp) (x2 : Int32) (y0 : Option Nat) : Option (Hp × Int32) := dr h 10 y0 (fun a13 => dr h 11 (h.fr 1002 a13) (fun a14 => (J_X8_hasPlace N a14 h x2).bind (fun z => B_X9_undo_14 N t0 z.1 x2 (some a13) z.2)))
theorem mb_X9_undo_5 (N : Nat) (t0 : Nat) (h : Hp) (x2 : Int32) (y0 : Option Nat) (hJ : B_X9_undo_5 N t0 h x2 y0 = some (hz, rz)) : Mo h hz := by
  unfold B_X9_undo_5 at hJ
  obtain ⟨a13, ea13, -, hJ⟩ := dr_some hJ
  obtain ⟨a14, ea14, -, hJ⟩ := dr_some hJ
  obtain ⟨⟨h15, r16⟩, e17, hJ⟩ := ob_some hJ
  exact (mo_X8_hasPlace N a14 h x2 e17).tr (mb_X9_undo_14 N t0 _ _ _ _ hJ)
set_option maxRecDepth 100000 in
set_option maxHeartbeats 4000000 in
theorem sb_X9_undo_5 (C : Cx p s m args meth c cX9_undo 5 (some .int) RX9 D cs A h0.se) (hz2 : hz.nx ≤ h0.nx + mc ∧ hz.su ≤ h0.su + ms) (N : Nat) (t0 : Nat) (h : Hp) (x2 : Int32) (y0 : Option Nat) (hJ : B_X9_undo_5 N t0 h x2 y0 = some (hz, rz)) (hk0 : h.kd t0 = 12) {H : Heap} {locs : List Loc} {cells slots : Nat} (w : Wo D cs A s h0 h H locs cells slots) {ls : Array Slot} (hl : lv_has ls 5 [(0, .ref t0), (2, .int x2)]) : W p l e { frames := 10, cells := mc, slots := ms, locals := 320 } s m args below meth c H locs cells slots (MQ below (Zi D cs A hz rz) args s mc ms A) (F0 m 5 ls [va_rf y0]) := by
  obtain ⟨hx, hb, hml, hown, hts, -⟩ := id C
  unfold B_X9_undo_5 at hJ
  refine jv_astore_n (i := 3) (lv' := [(3, va_rf y0), (0, .ref t0), (2, .int x2)]) hx hb dX9_undo_5 rfl hl (by decide) rfl (fun ls hl => ?_)
  refine jv_aload_n hx hb dX9_undo_6 rfl (lv_at hl 0 rfl) ?_
  obtain ⟨a13, ea13, hka13, hJ⟩ := dr_some hJ
  rw [ea13] at hl
  rw [ea13]
  refine fg_1002 C w hka13 tw_2_16 dX9_undo_7 ?_
  refine lv_iload_n hx hb dX9_undo_10 rfl (lv_at hl 2 rfl) ?_
  obtain ⟨a14, ea14, hka14, hJ⟩ := dr_some hJ
  rw [ea14]
  obtain ⟨⟨h15, r16⟩, e17, hJ⟩ := ob_some hJ
  refine jc_Vi (As := [.int x2]) C w (cc_X8_hasPlace N a14 h x2 hka14 e17) (mo_X8_hasPlace N a14 h x2 e17) (mb_X9_undo_14 N t0 _ _ _ _ hJ) hz2 hka14 (by decide) rfl (fs := fs11 h a14) rfl rfl ⟨tw_5_55, tw_6_108, tw_5_53, tw_5_54, tw_1_8⟩ cd_X8_hasPlace ⟨by decide, by decide⟩ hl.1 (by first | exact Nat.le_of_ble_eq_true rfl | simp [rf_cat, cat_i, cat_l, cat_r]) rfl dX9_undo_11 (fun H locs w1 => ?_)
  have hk18 := kd_keep w (mo_X8_hasPlace N a14 h x2 e17) hk0 (by decide)
  have w := w1
  exact sb_X9_undo_14 C hz2 N t0 _ _ _ _ hJ hk18 w (lv_sub (l' := [(0, .ref t0), (2, .int x2), (3, .ref a13)]) hl [1, 2, 0] rfl)
def B_X9_undo_0 (N : Nat) (t0 : Nat) (h : Hp) (x1 : Int32) (x2 : Int32) : Option (Hp × Int32) := (J_X9_activeOne N t0 h x1).bind (fun z => B_X9_undo_5 N t0 z.1 x2 z.2)
theorem mb_X9_undo_0 (N : Nat) (t0 : Nat) (h : Hp) (x1 : Int32) (x2 : Int32) (hJ : B_X9_undo_0 N t0 h x1 x2 = some (hz, rz)) : Mo h hz := by
  unfold B_X9_undo_0 at hJ
  obtain ⟨⟨h19, r20⟩, e21, hJ⟩ := ob_some hJ
  exact (mo_X9_activeOne N t0 h x1 e21).tr (mb_X9_undo_5 N t0 _ _ _ hJ)
set_option maxRecDepth 100000 in
set_option maxHeartbeats 4000000 in
theorem sb_X9_undo_0 (C : Cx p s m args meth c cX9_undo 5 (some .int) RX9 D cs A h0.se) (hz2 : hz.nx ≤ h0.nx + mc ∧ hz.su ≤ h0.su + ms) (N : Nat) (t0 : Nat) (h : Hp) (x1 : Int32) (x2 : Int32) (hJ : B_X9_undo_0 N t0 h x1 x2 = some (hz, rz)) (hk0 : h.kd t0 = 12) {H : Heap} {locs : List Loc} {cells slots : Nat} (w : Wo D cs A s h0 h H locs cells slots) {ls : Array Slot} (hl : lv_has ls 5 [(0, .ref t0), (1, .int x1), (2, .int x2)]) : W p l e { frames := 10, cells := mc, slots := ms, locals := 320 } s m args below meth c H locs cells slots (MQ below (Zi D cs A hz rz) args s mc ms A) (F0 m 0 ls []) := by
  obtain ⟨hx, hb, hml, hown, hts, -⟩ := id C
  unfold B_X9_undo_0 at hJ
  refine lv_aload_n hx hb dX9_undo_0 rfl (lv_at hl 0 rfl) ?_
  refine lv_iload_n hx hb dX9_undo_1 rfl (lv_at hl 1 rfl) ?_
  obtain ⟨⟨h19, r20⟩, e21, hJ⟩ := ob_some hJ
  refine jc_Vq (As := [.int x1]) C w (cc_X9_activeOne N t0 h x1 hk0 e21) (mo_X9_activeOne N t0 h x1 e21) (mb_X9_undo_5 N t0 _ _ _ hJ) hz2 hk0 (by decide) rfl (fs := fs12 h t0) rfl rfl ⟨tw_5_114, tw_5_111, tw_5_113, ts_17, tw_1_1⟩ cd_X9_activeOne ⟨by decide, by decide⟩ hl.1 (by first | exact Nat.le_of_ble_eq_true rfl | simp [rf_cat, cat_i, cat_l, cat_r]) rfl dX9_undo_2 (fun H locs w1 => ?_)
  have hk22 := kd_keep w (mo_X9_activeOne N t0 h x1 e21) hk0 (by decide)
  have w := w1
  exact sb_X9_undo_5 C hz2 N t0 _ _ _ hJ hk22 w (lv_sub (l' := [(0, .ref t0), (2, .int x2)]) hl [0, 2] rfl)
def J_X9_undo (N : Nat) (t0 : Nat) (h : Hp) (x1 : Int32) (x2 : Int32) : Option (Hp × Int32) := B_X9_undo_0 N t0 h x1 x2
theorem mo_X9_undo (N : Nat) (t0 : Nat) (h : Hp) (x1 : Int32) (x2 : Int32) (hJ : J_X9_undo N t0 h x1 x2 = some (hz, rz)) : Mo h hz := mb_X9_undo_0 N t0 h x1 x2 hJ
theorem cd_X9_undo : Cd yX9_undo 2 := ⟨by decide +kernel, by decide +kernel, by decide +kernel⟩
theorem cc_X9_undo (N : Nat) (t0 : Nat) (h : Hp) (x1 : Int32) (x2 : Int32) (hk0 : h.kd t0 = 12) (hJ : J_X9_undo N t0 h x1 x2 = some (hz, rz)) : Ci l yX9_undo cX9_undo 5 (some .int) 10 320 D cs h hz [.ref t0, .int x1, .int x2] rz := by
  intro mc ms g1 g2
  refine je_any (by decide) (by simp [lg_sl, rf_cat, cat_i, cat_l, cat_r]) ?_
  intro p e s m args below meth c C hin2 w ls hl
  have hl : lv_has ls 5 [(0, .ref t0), (1, .int x1), (2, .int x2)] := hl
  exact sb_X9_undo_0 C ⟨g1, g2⟩ N t0 h x1 x2 hJ hk0 w hl
end G_X9_undo
section G_X9_gatherIfReader
variable {p : Program} {l : Launch} {e : Env} {s : State} {m : MethodId} {args : Array Value} {below : List Frame} {meth : Method} {c : Code} {D : va_G} {cs : C4} {A : Nat → Prop} {h0 hz : Hp} {mc ms : Nat}
def B_X9_gatherIfReader_9 (N : Nat) (t0 : Nat) (h : Hp) : Option (Hp × Unit) := some (h, ())
theorem mb_X9_gatherIfReader_9 (N : Nat) (t0 : Nat) (h : Hp) (hJ : B_X9_gatherIfReader_9 N t0 h = some (hz, ())) : Mo h hz := by
  unfold B_X9_gatherIfReader_9 at hJ
  obtain ⟨rfl, -⟩ := rs2 hJ
  exact ⟨fun _ _ => rfl, Nat.le_refl _, Nat.le_refl _, rfl, fun _ _ => rfl⟩
set_option maxRecDepth 100000 in
set_option maxHeartbeats 4000000 in
theorem sb_X9_gatherIfReader_9 (C : Cx p s m args meth c cX9_gatherIfReader 6 none RX9 D cs A h0.se) (hz2 : hz.nx ≤ h0.nx + mc ∧ hz.su ≤ h0.su + ms) (N : Nat) (t0 : Nat) (h : Hp) (hJ : B_X9_gatherIfReader_9 N t0 h = some (hz, ())) (hk0 : h.kd t0 = 12) {H : Heap} {locs : List Loc} {cells slots : Nat} (w : Wo D cs A s h0 h H locs cells slots) {ls : Array Slot} (hl : lv_has ls 6 [(0, .ref t0)]) : W p l e { frames := 7, cells := mc, slots := ms, locals := 230 } s m args below meth c H locs cells slots (MQ below (Zv D cs A hz) args s mc ms A) (F0 m 9 ls []) := by
  obtain ⟨hx, hb, hml, hown, hts, -⟩ := id C
  unfold B_X9_gatherIfReader_9 at hJ
  obtain ⟨rfl, -⟩ := rs2 hJ
  exact jr_vret C w hz2 dX9_gatherIfReader_9
def B_X9_gatherIfReader_63 (N : Nat) (t0 : Nat) (h : Hp) (y0 : Int32) : Option (Hp × Unit) := some (h, ())
theorem mb_X9_gatherIfReader_63 (N : Nat) (t0 : Nat) (h : Hp) (y0 : Int32) (hJ : B_X9_gatherIfReader_63 N t0 h y0 = some (hz, ())) : Mo h hz := by
  unfold B_X9_gatherIfReader_63 at hJ
  obtain ⟨rfl, -⟩ := rs2 hJ
  exact ⟨fun _ _ => rfl, Nat.le_refl _, Nat.le_refl _, rfl, fun _ _ => rfl⟩
set_option maxRecDepth 100000 in
set_option maxHeartbeats 4000000 in
theorem sb_X9_gatherIfReader_63 (C : Cx p s m args meth c cX9_gatherIfReader 6 none RX9 D cs A h0.se) (hz2 : hz.nx ≤ h0.nx + mc ∧ hz.su ≤ h0.su + ms) (N : Nat) (t0 : Nat) (h : Hp) (y0 : Int32) (hJ : B_X9_gatherIfReader_63 N t0 h y0 = some (hz, ())) (hk0 : h.kd t0 = 12) {H : Heap} {locs : List Loc} {cells slots : Nat} (w : Wo D cs A s h0 h H locs cells slots) {ls : Array Slot} (hl : lv_has ls 6 [(0, .ref t0)]) : W p l e { frames := 7, cells := mc, slots := ms, locals := 230 } s m args below meth c H locs cells slots (MQ below (Zv D cs A hz) args s mc ms A) (F0 m 63 ls [.int y0]) := by
  obtain ⟨hx, hb, hml, hown, hts, -⟩ := id C
  unfold B_X9_gatherIfReader_63 at hJ
  refine lv_pop hx hb dX9_gatherIfReader_63 rfl ?_
  obtain ⟨rfl, -⟩ := rs2 hJ
  exact jr_vret C w hz2 dX9_gatherIfReader_64
def B_X9_gatherIfReader_65 (N : Nat) (k21 : Hp → (Option Nat) → (Option Nat) → Int32 → Option (Hp × Unit)) (t0 : Nat) (h : Hp) (x1 : Option Nat) (x3 : Option Nat) (x4 : Int32) : Option (Hp × Unit) := k21 h x1 x3 (x4 + (1 : Int32))
theorem mb_X9_gatherIfReader_65 (N : Nat) (k21 : Hp → (Option Nat) → (Option Nat) → Int32 → Option (Hp × Unit)) (t0 : Nat) (h : Hp) (x1 : Option Nat) (x3 : Option Nat) (x4 : Int32) (m21 : ∀ (h : Hp) (x1 : Option Nat) (x3 : Option Nat) (x4 : Int32), k21 h x1 x3 x4 = some (hz, ()) → Mo h hz) (hJ : B_X9_gatherIfReader_65 N k21 t0 h x1 x3 x4 = some (hz, ())) : Mo h hz := by
  unfold B_X9_gatherIfReader_65 at hJ
  exact m21 _ _ _ _ hJ
set_option maxRecDepth 100000 in
set_option maxHeartbeats 4000000 in
theorem sb_X9_gatherIfReader_65 (C : Cx p s m args meth c cX9_gatherIfReader 6 none RX9 D cs A h0.se) (hz2 : hz.nx ≤ h0.nx + mc ∧ hz.su ≤ h0.su + ms) (N : Nat) (k21 : Hp → (Option Nat) → (Option Nat) → Int32 → Option (Hp × Unit)) (t0 : Nat) (m21 : ∀ (h : Hp) (x1 : Option Nat) (x3 : Option Nat) (x4 : Int32), k21 h x1 x3 x4 = some (hz, ()) → Mo h hz) (i21 : ∀ (h : Hp) (x1 : Option Nat) (x3 : Option Nat) (x4 : Int32) (H : Heap) (locs : List Loc) (cells slots : Nat) (ls : Array Slot), k21 h x1 x3 x4 = some (hz, ()) → h.kd t0 = 12 → Wo D cs A s h0 h H locs cells slots → lv_has ls 6 [(0, .ref t0), (1, va_rf x1), (3, va_rf x3), (4, .int x4)] → W p l e { frames := 7, cells := mc, slots := ms, locals := 230 } s m args below meth c H locs cells slots (MQ below (Zv D cs A hz) args s mc ms A) (F0 m 21 ls [])) (h : Hp) (x1 : Option Nat) (x3 : Option Nat) (x4 : Int32) (hJ : B_X9_gatherIfReader_65 N k21 t0 h x1 x3 x4 = some (hz, ())) (hk0 : h.kd t0 = 12) {H : Heap} {locs : List Loc} {cells slots : Nat} (w : Wo D cs A s h0 h H locs cells slots) {ls : Array Slot} (hl : lv_has ls 6 [(0, .ref t0), (1, va_rf x1), (3, va_rf x3), (4, .int x4)]) : W p l e { frames := 7, cells := mc, slots := ms, locals := 230 } s m args below meth c H locs cells slots (MQ below (Zv D cs A hz) args s mc ms A) (F0 m 65 ls []) := by
  obtain ⟨hx, hb, hml, hown, hts, -⟩ := id C
  unfold B_X9_gatherIfReader_65 at hJ
  refine lv_iinc (v := x4 + (1 : Int32)) (lv' := [(4, .int (x4 + (1 : Int32))), (0, .ref t0), (1, va_rf x1), (3, va_rf x3)]) hx hb dX9_gatherIfReader_65 hl (k := 3) rfl rfl (by decide) (by simp [List.filter, rf_cat, cat_i, cat_l, cat_r]) (fun ls hl => ?_)
  refine lv_goto (tgt := 21) hx hb dX9_gatherIfReader_68 (by decide) ?_
  exact i21 _ _ _ _ _ _ _ _ _ hJ hk0 w (lv_sub (l' := [(0, .ref t0), (1, va_rf x1), (3, va_rf x3), (4, .int (x4 + (1 : Int32)))]) hl [1, 2, 3, 0] rfl)
def B_X9_gatherIfReader_52 (N : Nat) (k21 : Hp → (Option Nat) → (Option Nat) → Int32 → Option (Hp × Unit)) (t0 : Nat) (h : Hp) (x1 : Option Nat) (x3 : Option Nat) (x4 : Int32) (y0 : Int32) : Option (Hp × Unit) := if y0 = 0 then (B_X9_gatherIfReader_65 N k21 t0 h x1 x3 x4) else (dr h 2 (h.fr 1207 t0) (fun a2 => (J_Jx4a65c_add_9ea2d N a2 h x1).bind (fun z => B_X9_gatherIfReader_63 N t0 z.1 z.2)))
theorem mb_X9_gatherIfReader_52 (N : Nat) (k21 : Hp → (Option Nat) → (Option Nat) → Int32 → Option (Hp × Unit)) (t0 : Nat) (h : Hp) (x1 : Option Nat) (x3 : Option Nat) (x4 : Int32) (y0 : Int32) (m21 : ∀ (h : Hp) (x1 : Option Nat) (x3 : Option Nat) (x4 : Int32), k21 h x1 x3 x4 = some (hz, ()) → Mo h hz) (hJ : B_X9_gatherIfReader_52 N k21 t0 h x1 x3 x4 y0 = some (hz, ())) : Mo h hz := by
  unfold B_X9_gatherIfReader_52 at hJ
  by_cases c1 : y0 = 0
  · have hJ := it_pos c1 hJ
    exact mb_X9_gatherIfReader_65 N k21 t0 _ _ _ _ m21 hJ
  · have hJ := it_neg c1 hJ
    obtain ⟨a2, ea2, -, hJ⟩ := dr_some hJ
    obtain ⟨⟨h3, r4⟩, e5, hJ⟩ := ob_some hJ
    exact (mo_Jx4a65c_add_9ea2d N a2 h x1 e5).tr (mb_X9_gatherIfReader_63 N t0 _ _ hJ)
set_option maxRecDepth 100000 in
set_option maxHeartbeats 4000000 in
theorem sb_X9_gatherIfReader_52 (C : Cx p s m args meth c cX9_gatherIfReader 6 none RX9 D cs A h0.se) (hz2 : hz.nx ≤ h0.nx + mc ∧ hz.su ≤ h0.su + ms) (N : Nat) (k21 : Hp → (Option Nat) → (Option Nat) → Int32 → Option (Hp × Unit)) (t0 : Nat) (m21 : ∀ (h : Hp) (x1 : Option Nat) (x3 : Option Nat) (x4 : Int32), k21 h x1 x3 x4 = some (hz, ()) → Mo h hz) (i21 : ∀ (h : Hp) (x1 : Option Nat) (x3 : Option Nat) (x4 : Int32) (H : Heap) (locs : List Loc) (cells slots : Nat) (ls : Array Slot), k21 h x1 x3 x4 = some (hz, ()) → h.kd t0 = 12 → Wo D cs A s h0 h H locs cells slots → lv_has ls 6 [(0, .ref t0), (1, va_rf x1), (3, va_rf x3), (4, .int x4)] → W p l e { frames := 7, cells := mc, slots := ms, locals := 230 } s m args below meth c H locs cells slots (MQ below (Zv D cs A hz) args s mc ms A) (F0 m 21 ls [])) (h : Hp) (x1 : Option Nat) (x3 : Option Nat) (x4 : Int32) (y0 : Int32) (hJ : B_X9_gatherIfReader_52 N k21 t0 h x1 x3 x4 y0 = some (hz, ())) (hk0 : h.kd t0 = 12) {H : Heap} {locs : List Loc} {cells slots : Nat} (w : Wo D cs A s h0 h H locs cells slots) {ls : Array Slot} (hl : lv_has ls 6 [(0, .ref t0), (1, va_rf x1), (3, va_rf x3), (4, .int x4)]) : W p l e { frames := 7, cells := mc, slots := ms, locals := 230 } s m args below meth c H locs cells slots (MQ below (Zv D cs A hz) args s mc ms A) (F0 m 52 ls [.int y0]) := by
  obtain ⟨hx, hb, hml, hown, hts, -⟩ := id C
  unfold B_X9_gatherIfReader_52 at hJ
  refine lv_if_eq (tgt := 65) hx hb dX9_gatherIfReader_52 (by decide) (fun c1 => ?_) (fun c1 => ?_)
  · have hJ := it_pos c1 hJ
    exact sb_X9_gatherIfReader_65 C hz2 N k21 t0 m21 i21 _ _ _ _ hJ hk0 w hl
  · have hJ := it_neg c1 hJ
    refine lv_aload_n hx hb dX9_gatherIfReader_55 rfl (lv_at hl 0 rfl) ?_
    refine fg_1207 C w hk0 tw_1_139 dX9_gatherIfReader_56 ?_
    refine jv_aload_n hx hb dX9_gatherIfReader_59 rfl (lv_at hl 1 rfl) ?_
    obtain ⟨a2, ea2, hka2, hJ⟩ := dr_some hJ
    rw [ea2]
    obtain ⟨⟨h3, r4⟩, e5, hJ⟩ := ob_some hJ
    refine jc_Vi (As := [va_rf x1]) C w (cc_Jx4a65c_add_9ea2d N a2 h x1 hka2 e5) (mo_Jx4a65c_add_9ea2d N a2 h x1 e5) (mb_X9_gatherIfReader_63 N t0 _ _ hJ) hz2 hka2 (by decide) rfl (fs := fs2 h a2) rfl rfl ⟨tw_2_87, tw_2_84, tw_2_85, tw_2_86, tw_1_5⟩ cd_Jx4a65c_add_9ea2d ⟨by decide, by decide⟩ hl.1 (by first | exact Nat.le_of_ble_eq_true rfl | simp [rf_cat, cat_i, cat_l, cat_r]) rfl dX9_gatherIfReader_60 (fun H locs w1 => ?_)
    have hk6 := kd_keep w (mo_Jx4a65c_add_9ea2d N a2 h x1 e5) hk0 (by decide)
    have w := w1
    exact sb_X9_gatherIfReader_63 C hz2 N t0 _ _ hJ hk6 w (lv_sub (l' := [(0, .ref t0)]) hl [0] rfl)
def B_X9_gatherIfReader_36 (N : Nat) (k21 : Hp → (Option Nat) → (Option Nat) → Int32 → Option (Hp × Unit)) (t0 : Nat) (h : Hp) (x1 : Option Nat) (x3 : Option Nat) (x4 : Int32) (y0 : Option Nat) : Option (Hp × Unit) := nl y0 (B_X9_gatherIfReader_65 N k21 t0 h x1 x3 x4) (fun a7 => ck (h.kd a7 = 6) (dr h 10 x1 (fun a9 => (J_X7_hasReadKey N a9 h (h.fi 600 a7)).bind (fun z => B_X9_gatherIfReader_52 N k21 t0 z.1 (some a9) x3 x4 z.2))))
theorem mb_X9_gatherIfReader_36 (N : Nat) (k21 : Hp → (Option Nat) → (Option Nat) → Int32 → Option (Hp × Unit)) (t0 : Nat) (h : Hp) (x1 : Option Nat) (x3 : Option Nat) (x4 : Int32) (y0 : Option Nat) (m21 : ∀ (h : Hp) (x1 : Option Nat) (x3 : Option Nat) (x4 : Int32), k21 h x1 x3 x4 = some (hz, ()) → Mo h hz) (hJ : B_X9_gatherIfReader_36 N k21 t0 h x1 x3 x4 y0 = some (hz, ())) : Mo h hz := by
  unfold B_X9_gatherIfReader_36 at hJ
  cases ea7 : y0 with
  | none =>
    have hJ := nl_none ea7 hJ
    exact mb_X9_gatherIfReader_65 N k21 t0 _ _ _ _ m21 hJ
  | some a7 =>
    have hJ := nl_some ea7 hJ
    obtain ⟨-, hJ⟩ := ck_some hJ
    obtain ⟨a9, ea9, -, hJ⟩ := dr_some hJ
    obtain ⟨⟨h10, r11⟩, e12, hJ⟩ := ob_some hJ
    exact (mo_X7_hasReadKey N a9 h (h.fi 600 a7) e12).tr (mb_X9_gatherIfReader_52 N k21 t0 _ _ _ _ _ m21 hJ)
set_option maxRecDepth 100000 in
set_option maxHeartbeats 4000000 in
theorem sb_X9_gatherIfReader_36 (C : Cx p s m args meth c cX9_gatherIfReader 6 none RX9 D cs A h0.se) (hz2 : hz.nx ≤ h0.nx + mc ∧ hz.su ≤ h0.su + ms) (N : Nat) (k21 : Hp → (Option Nat) → (Option Nat) → Int32 → Option (Hp × Unit)) (t0 : Nat) (m21 : ∀ (h : Hp) (x1 : Option Nat) (x3 : Option Nat) (x4 : Int32), k21 h x1 x3 x4 = some (hz, ()) → Mo h hz) (i21 : ∀ (h : Hp) (x1 : Option Nat) (x3 : Option Nat) (x4 : Int32) (H : Heap) (locs : List Loc) (cells slots : Nat) (ls : Array Slot), k21 h x1 x3 x4 = some (hz, ()) → h.kd t0 = 12 → Wo D cs A s h0 h H locs cells slots → lv_has ls 6 [(0, .ref t0), (1, va_rf x1), (3, va_rf x3), (4, .int x4)] → W p l e { frames := 7, cells := mc, slots := ms, locals := 230 } s m args below meth c H locs cells slots (MQ below (Zv D cs A hz) args s mc ms A) (F0 m 21 ls [])) (h : Hp) (x1 : Option Nat) (x3 : Option Nat) (x4 : Int32) (y0 : Option Nat) (hJ : B_X9_gatherIfReader_36 N k21 t0 h x1 x3 x4 y0 = some (hz, ())) (hk0 : h.kd t0 = 12) {H : Heap} {locs : List Loc} {cells slots : Nat} (w : Wo D cs A s h0 h H locs cells slots) {ls : Array Slot} (hl : lv_has ls 6 [(0, .ref t0), (1, va_rf x1), (3, va_rf x3), (4, .int x4)]) : W p l e { frames := 7, cells := mc, slots := ms, locals := 230 } s m args below meth c H locs cells slots (MQ below (Zv D cs A hz) args s mc ms A) (F0 m 36 ls [va_rf y0]) := by
  obtain ⟨hx, hb, hml, hown, hts, -⟩ := id C
  unfold B_X9_gatherIfReader_36 at hJ
  refine jv_astore (i := 5) (lv' := [(5, va_rf y0), (0, .ref t0), (1, va_rf x1), (3, va_rf x3), (4, .int x4)]) hx hb dX9_gatherIfReader_36 hl (by decide) rfl (fun ls hl => ?_)
  refine jv_aload hx hb dX9_gatherIfReader_38 (lv_at hl 0 rfl) ?_
  refine jv_ifnull (tgt := 65) hx hb dX9_gatherIfReader_40 (by decide) (fun ea7 => ?_) (fun a7 ea7 => ?_)
  · have hJ := nl_none ea7 hJ
    exact sb_X9_gatherIfReader_65 C hz2 N k21 t0 m21 i21 _ _ _ _ hJ hk0 w (lv_sub (l' := [(0, .ref t0), (1, va_rf x1), (3, va_rf x3), (4, .int x4)]) hl [1, 2, 3, 4] rfl)
  · have hJ := nl_some ea7 hJ
    rw [ea7] at hl
    refine jv_aload_n hx hb dX9_gatherIfReader_43 rfl (lv_at hl 2 rfl) ?_
    refine lv_aload hx hb dX9_gatherIfReader_44 (lv_at hl 0 rfl) ?_
    obtain ⟨hk8, hJ⟩ := ck_some hJ
    refine fg_600 C w hk8 tw_3_151 dX9_gatherIfReader_46 ?_
    obtain ⟨a9, ea9, hka9, hJ⟩ := dr_some hJ
    rw [ea9] at hl
    rw [ea9]
    obtain ⟨⟨h10, r11⟩, e12, hJ⟩ := ob_some hJ
    refine jc_Vi (As := [.int (h.fi 600 a7)]) C w (cc_X7_hasReadKey N a9 h (h.fi 600 a7) hka9 e12) (mo_X7_hasReadKey N a9 h (h.fi 600 a7) e12) (mb_X9_gatherIfReader_52 N k21 t0 _ _ _ _ _ m21 hJ) hz2 hka9 (by decide) rfl (fs := fs10 h a9) rfl rfl ⟨tw_6_135, tw_6_132, tw_6_133, tw_6_134, tw_1_9⟩ cd_X7_hasReadKey ⟨by decide, by decide⟩ hl.1 (by first | exact Nat.le_of_ble_eq_true rfl | simp [rf_cat, cat_i, cat_l, cat_r]) rfl dX9_gatherIfReader_49 (fun H locs w1 => ?_)
    have hk13 := kd_keep w (mo_X7_hasReadKey N a9 h (h.fi 600 a7) e12) hk0 (by decide)
    have w := w1
    exact sb_X9_gatherIfReader_52 C hz2 N k21 t0 m21 i21 _ _ _ _ _ hJ hk13 w (lv_sub (l' := [(0, .ref t0), (1, .ref a9), (3, va_rf x3), (4, .int x4)]) hl [1, 2, 3, 4] rfl)
def B_X9_gatherIfReader_27 (N : Nat) (k21 : Hp → (Option Nat) → (Option Nat) → Int32 → Option (Hp × Unit)) (t0 : Nat) (h : Hp) (x1 : Option Nat) (x3 : Option Nat) (x4 : Int32) (y0 : Int32) (y1 : Int32) : Option (Hp × Unit) := if y1 ≤ y0 then (some (h, ())) else (dr h 8 x3 (fun a15 => (J_X5_chainAt N a15 h x4).bind (fun z => B_X9_gatherIfReader_36 N k21 t0 z.1 x1 (some a15) x4 z.2)))
theorem mb_X9_gatherIfReader_27 (N : Nat) (k21 : Hp → (Option Nat) → (Option Nat) → Int32 → Option (Hp × Unit)) (t0 : Nat) (h : Hp) (x1 : Option Nat) (x3 : Option Nat) (x4 : Int32) (y0 : Int32) (y1 : Int32) (m21 : ∀ (h : Hp) (x1 : Option Nat) (x3 : Option Nat) (x4 : Int32), k21 h x1 x3 x4 = some (hz, ()) → Mo h hz) (hJ : B_X9_gatherIfReader_27 N k21 t0 h x1 x3 x4 y0 y1 = some (hz, ())) : Mo h hz := by
  unfold B_X9_gatherIfReader_27 at hJ
  by_cases c14 : y1 ≤ y0
  · have hJ := it_pos c14 hJ
    obtain ⟨rfl, -⟩ := rs2 hJ
    exact ⟨fun _ _ => rfl, Nat.le_refl _, Nat.le_refl _, rfl, fun _ _ => rfl⟩
  · have hJ := it_neg c14 hJ
    obtain ⟨a15, ea15, -, hJ⟩ := dr_some hJ
    obtain ⟨⟨h16, r17⟩, e18, hJ⟩ := ob_some hJ
    exact (mo_X5_chainAt N a15 h x4 e18).tr (mb_X9_gatherIfReader_36 N k21 t0 _ _ _ _ _ m21 hJ)
set_option maxRecDepth 100000 in
set_option maxHeartbeats 4000000 in
theorem sb_X9_gatherIfReader_27 (C : Cx p s m args meth c cX9_gatherIfReader 6 none RX9 D cs A h0.se) (hz2 : hz.nx ≤ h0.nx + mc ∧ hz.su ≤ h0.su + ms) (N : Nat) (k21 : Hp → (Option Nat) → (Option Nat) → Int32 → Option (Hp × Unit)) (t0 : Nat) (m21 : ∀ (h : Hp) (x1 : Option Nat) (x3 : Option Nat) (x4 : Int32), k21 h x1 x3 x4 = some (hz, ()) → Mo h hz) (i21 : ∀ (h : Hp) (x1 : Option Nat) (x3 : Option Nat) (x4 : Int32) (H : Heap) (locs : List Loc) (cells slots : Nat) (ls : Array Slot), k21 h x1 x3 x4 = some (hz, ()) → h.kd t0 = 12 → Wo D cs A s h0 h H locs cells slots → lv_has ls 6 [(0, .ref t0), (1, va_rf x1), (3, va_rf x3), (4, .int x4)] → W p l e { frames := 7, cells := mc, slots := ms, locals := 230 } s m args below meth c H locs cells slots (MQ below (Zv D cs A hz) args s mc ms A) (F0 m 21 ls [])) (h : Hp) (x1 : Option Nat) (x3 : Option Nat) (x4 : Int32) (y0 : Int32) (y1 : Int32) (hJ : B_X9_gatherIfReader_27 N k21 t0 h x1 x3 x4 y0 y1 = some (hz, ())) (hk0 : h.kd t0 = 12) {H : Heap} {locs : List Loc} {cells slots : Nat} (w : Wo D cs A s h0 h H locs cells slots) {ls : Array Slot} (hl : lv_has ls 6 [(0, .ref t0), (1, va_rf x1), (3, va_rf x3), (4, .int x4)]) : W p l e { frames := 7, cells := mc, slots := ms, locals := 230 } s m args below meth c H locs cells slots (MQ below (Zv D cs A hz) args s mc ms A) (F0 m 27 ls [.int y1, .int y0]) := by
  obtain ⟨hx, hb, hml, hown, hts, -⟩ := id C
  unfold B_X9_gatherIfReader_27 at hJ
  refine lv_icmp_ge (tgt := 71) hx hb dX9_gatherIfReader_27 (by decide) (fun c14 => ?_) (fun c14 => ?_)
  · have hJ := it_pos c14 hJ
    obtain ⟨rfl, -⟩ := rs2 hJ
    exact jr_vret C w hz2 dX9_gatherIfReader_71
  · have hJ := it_neg c14 hJ
    refine jv_aload_n hx hb dX9_gatherIfReader_30 rfl (lv_at hl 2 rfl) ?_
    refine lv_iload hx hb dX9_gatherIfReader_31 (lv_at hl 3 rfl) ?_
    obtain ⟨a15, ea15, hka15, hJ⟩ := dr_some hJ
    rw [ea15] at hl
    rw [ea15]
    obtain ⟨⟨h16, r17⟩, e18, hJ⟩ := ob_some hJ
    refine jc_Vq (As := [.int x4]) C w (cc_X5_chainAt N a15 h x4 hka15 e18) (mo_X5_chainAt N a15 h x4 e18) (mb_X9_gatherIfReader_36 N k21 t0 _ _ _ _ _ m21 hJ) hz2 hka15 (by decide) rfl (fs := fs8 h a15) rfl rfl ⟨tw_2_212, tw_2_237, tw_2_210, tw_2_211, tw_1_2⟩ cd_X5_chainAt ⟨by decide, by decide⟩ hl.1 (by first | exact Nat.le_of_ble_eq_true rfl | simp [rf_cat, cat_i, cat_l, cat_r]) rfl dX9_gatherIfReader_33 (fun H locs w1 => ?_)
    have hk19 := kd_keep w (mo_X5_chainAt N a15 h x4 e18) hk0 (by decide)
    have w := w1
    exact sb_X9_gatherIfReader_36 C hz2 N k21 t0 m21 i21 _ _ _ _ _ hJ hk19 w hl
def B_X9_gatherIfReader_21 (N : Nat) (k21 : Hp → (Option Nat) → (Option Nat) → Int32 → Option (Hp × Unit)) (t0 : Nat) (h : Hp) (x1 : Option Nat) (x3 : Option Nat) (x4 : Int32) : Option (Hp × Unit) := dr h 8 x3 (fun a20 => (J_X5_size N a20 h).bind (fun z => B_X9_gatherIfReader_27 N k21 t0 z.1 x1 (some a20) x4 x4 z.2))
theorem mb_X9_gatherIfReader_21 (N : Nat) (k21 : Hp → (Option Nat) → (Option Nat) → Int32 → Option (Hp × Unit)) (t0 : Nat) (h : Hp) (x1 : Option Nat) (x3 : Option Nat) (x4 : Int32) (m21 : ∀ (h : Hp) (x1 : Option Nat) (x3 : Option Nat) (x4 : Int32), k21 h x1 x3 x4 = some (hz, ()) → Mo h hz) (hJ : B_X9_gatherIfReader_21 N k21 t0 h x1 x3 x4 = some (hz, ())) : Mo h hz := by
  unfold B_X9_gatherIfReader_21 at hJ
  obtain ⟨a20, ea20, -, hJ⟩ := dr_some hJ
  obtain ⟨⟨h21, r22⟩, e23, hJ⟩ := ob_some hJ
  exact (mo_X5_size N a20 h e23).tr (mb_X9_gatherIfReader_27 N k21 t0 _ _ _ _ _ _ m21 hJ)
set_option maxRecDepth 100000 in
set_option maxHeartbeats 4000000 in
theorem sb_X9_gatherIfReader_21 (C : Cx p s m args meth c cX9_gatherIfReader 6 none RX9 D cs A h0.se) (hz2 : hz.nx ≤ h0.nx + mc ∧ hz.su ≤ h0.su + ms) (N : Nat) (k21 : Hp → (Option Nat) → (Option Nat) → Int32 → Option (Hp × Unit)) (t0 : Nat) (m21 : ∀ (h : Hp) (x1 : Option Nat) (x3 : Option Nat) (x4 : Int32), k21 h x1 x3 x4 = some (hz, ()) → Mo h hz) (i21 : ∀ (h : Hp) (x1 : Option Nat) (x3 : Option Nat) (x4 : Int32) (H : Heap) (locs : List Loc) (cells slots : Nat) (ls : Array Slot), k21 h x1 x3 x4 = some (hz, ()) → h.kd t0 = 12 → Wo D cs A s h0 h H locs cells slots → lv_has ls 6 [(0, .ref t0), (1, va_rf x1), (3, va_rf x3), (4, .int x4)] → W p l e { frames := 7, cells := mc, slots := ms, locals := 230 } s m args below meth c H locs cells slots (MQ below (Zv D cs A hz) args s mc ms A) (F0 m 21 ls [])) (h : Hp) (x1 : Option Nat) (x3 : Option Nat) (x4 : Int32) (hJ : B_X9_gatherIfReader_21 N k21 t0 h x1 x3 x4 = some (hz, ())) (hk0 : h.kd t0 = 12) {H : Heap} {locs : List Loc} {cells slots : Nat} (w : Wo D cs A s h0 h H locs cells slots) {ls : Array Slot} (hl : lv_has ls 6 [(0, .ref t0), (1, va_rf x1), (3, va_rf x3), (4, .int x4)]) : W p l e { frames := 7, cells := mc, slots := ms, locals := 230 } s m args below meth c H locs cells slots (MQ below (Zv D cs A hz) args s mc ms A) (F0 m 21 ls []) := by
  obtain ⟨hx, hb, hml, hown, hts, -⟩ := id C
  unfold B_X9_gatherIfReader_21 at hJ
  refine lv_iload hx hb dX9_gatherIfReader_21 (lv_at hl 3 rfl) ?_
  refine jv_aload_n hx hb dX9_gatherIfReader_23 rfl (lv_at hl 2 rfl) ?_
  obtain ⟨a20, ea20, hka20, hJ⟩ := dr_some hJ
  rw [ea20] at hl
  rw [ea20]
  obtain ⟨⟨h21, r22⟩, e23, hJ⟩ := ob_some hJ
  refine jc_Vi (As := []) C w (cc_X5_size N a20 h hka20 e23) (mo_X5_size N a20 h e23) (mb_X9_gatherIfReader_27 N k21 t0 _ _ _ _ _ _ m21 hJ) hz2 hka20 (by decide) rfl (fs := fs8 h a20) rfl rfl ⟨tw_2_181, tw_2_178, tw_2_179, tw_2_180, tw_1_2⟩ cd_X5_size ⟨by decide, by decide⟩ hl.1 (by first | exact Nat.le_of_ble_eq_true rfl | simp [rf_cat, cat_i, cat_l, cat_r]) rfl dX9_gatherIfReader_24 (fun H locs w1 => ?_)
  have hk24 := kd_keep w (mo_X5_size N a20 h e23) hk0 (by decide)
  have w := w1
  exact sb_X9_gatherIfReader_27 C hz2 N k21 t0 m21 i21 _ _ _ _ _ _ hJ hk24 w hl
def L_X9_gatherIfReader_21 (N : Nat) (t0 : Nat) : Nat → Hp → (Option Nat) → (Option Nat) → Int32 → Option (Hp × Unit)
  | 0 => fun _ _ _ _ => none
  | n + 1 => fun h x1 x3 x4 => B_X9_gatherIfReader_21 N (L_X9_gatherIfReader_21 N t0 n) t0 h x1 x3 x4
theorem ml_X9_gatherIfReader_21 (N : Nat) (t0 : Nat) : ∀ (n : Nat) (h : Hp) (x1 : Option Nat) (x3 : Option Nat) (x4 : Int32), L_X9_gatherIfReader_21 N t0 n h x1 x3 x4 = some (hz, ()) → Mo h hz := by
  intro n
  induction n with
  | zero => intro h x1 x3 x4 hJ; cases hJ
  | succ n ih => intro h x1 x3 x4 hJ; exact mb_X9_gatherIfReader_21 N (L_X9_gatherIfReader_21 N t0 n) t0 h x1 x3 x4 ih hJ
theorem sl_X9_gatherIfReader_21 (C : Cx p s m args meth c cX9_gatherIfReader 6 none RX9 D cs A h0.se) (hz2 : hz.nx ≤ h0.nx + mc ∧ hz.su ≤ h0.su + ms) (N : Nat) (t0 : Nat) : ∀ n : Nat, ∀ (h : Hp) (x1 : Option Nat) (x3 : Option Nat) (x4 : Int32) (H : Heap) (locs : List Loc) (cells slots : Nat) (ls : Array Slot), L_X9_gatherIfReader_21 N t0 n h x1 x3 x4 = some (hz, ()) → h.kd t0 = 12 → Wo D cs A s h0 h H locs cells slots → lv_has ls 6 [(0, .ref t0), (1, va_rf x1), (3, va_rf x3), (4, .int x4)] → W p l e { frames := 7, cells := mc, slots := ms, locals := 230 } s m args below meth c H locs cells slots (MQ below (Zv D cs A hz) args s mc ms A) (F0 m 21 ls []) := by
  intro n
  induction n with
  | zero => intro h x1 x3 x4 H locs cells slots ls hJ; cases hJ
  | succ n ih =>
    intro h x1 x3 x4 H locs cells slots ls hJ hk0 w hl
    exact sb_X9_gatherIfReader_21 C hz2 N (L_X9_gatherIfReader_21 N t0 n) t0 (ml_X9_gatherIfReader_21 N t0 n) ih h x1 x3 x4 hJ hk0 w hl
def B_X9_gatherIfReader_0 (N : Nat) (t0 : Nat) (h : Hp) (x1 : Option Nat) (x2 : Option Nat) : Option (Hp × Unit) := nl x1 (B_X9_gatherIfReader_9 N t0 h) (fun a25 => if (some a25) = x2 then (B_X9_gatherIfReader_9 N t0 h) else (dr h 10 x2 (fun a27 => dr h 11 (h.fr 1002 a27) (fun a28 => L_X9_gatherIfReader_21 N t0 N h (some a25) (h.fr 1103 a28) (0 : Int32)))))
theorem mb_X9_gatherIfReader_0 (N : Nat) (t0 : Nat) (h : Hp) (x1 : Option Nat) (x2 : Option Nat) (hJ : B_X9_gatherIfReader_0 N t0 h x1 x2 = some (hz, ())) : Mo h hz := by
  unfold B_X9_gatherIfReader_0 at hJ
  cases ea25 : x1 with
  | none =>
    have hJ := nl_none ea25 hJ
    exact mb_X9_gatherIfReader_9 N t0 _ hJ
  | some a25 =>
    have hJ := nl_some ea25 hJ
    by_cases c26 : (some a25) = x2
    · have hJ := it_pos c26 hJ
      exact mb_X9_gatherIfReader_9 N t0 _ hJ
    · have hJ := it_neg c26 hJ
      obtain ⟨a27, ea27, -, hJ⟩ := dr_some hJ
      obtain ⟨a28, ea28, -, hJ⟩ := dr_some hJ
      exact ml_X9_gatherIfReader_21 N t0 N _ _ _ _ hJ
set_option maxRecDepth 100000 in
set_option maxHeartbeats 4000000 in
theorem sb_X9_gatherIfReader_0 (C : Cx p s m args meth c cX9_gatherIfReader 6 none RX9 D cs A h0.se) (hz2 : hz.nx ≤ h0.nx + mc ∧ hz.su ≤ h0.su + ms) (N : Nat) (t0 : Nat) (h : Hp) (x1 : Option Nat) (x2 : Option Nat) (hJ : B_X9_gatherIfReader_0 N t0 h x1 x2 = some (hz, ())) (hk0 : h.kd t0 = 12) {H : Heap} {locs : List Loc} {cells slots : Nat} (w : Wo D cs A s h0 h H locs cells slots) {ls : Array Slot} (hl : lv_has ls 6 [(0, .ref t0), (1, va_rf x1), (2, va_rf x2)]) : W p l e { frames := 7, cells := mc, slots := ms, locals := 230 } s m args below meth c H locs cells slots (MQ below (Zv D cs A hz) args s mc ms A) (F0 m 0 ls []) := by
  obtain ⟨hx, hb, hml, hown, hts, -⟩ := id C
  unfold B_X9_gatherIfReader_0 at hJ
  refine jv_aload_n hx hb dX9_gatherIfReader_0 rfl (lv_at hl 1 rfl) ?_
  refine jv_ifnull (tgt := 9) hx hb dX9_gatherIfReader_1 (by decide) (fun ea25 => ?_) (fun a25 ea25 => ?_)
  · have hJ := nl_none ea25 hJ
    exact sb_X9_gatherIfReader_9 C hz2 N t0 _ hJ hk0 w (lv_sub (l' := [(0, .ref t0)]) hl [0] rfl)
  · have hJ := nl_some ea25 hJ
    rw [ea25] at hl
    refine lv_aload_n hx hb dX9_gatherIfReader_4 rfl (lv_at hl 1 rfl) ?_
    refine jv_aload_n hx hb dX9_gatherIfReader_5 rfl (lv_at hl 2 rfl) ?_
    refine lv_acmp_ne (rx := (some a25)) (ry := x2) (tgt := 10) hx hb dX9_gatherIfReader_6 (by decide) (fun c26 => ?_) (fun c26 => ?_)
    · have hJ := it_neg c26 hJ
      refine jv_aload_n hx hb dX9_gatherIfReader_10 rfl (lv_at hl 2 rfl) ?_
      obtain ⟨a27, ea27, hka27, hJ⟩ := dr_some hJ
      rw [ea27] at hl
      rw [ea27]
      refine fg_1002 C w hka27 tw_2_16 dX9_gatherIfReader_11 ?_
      obtain ⟨a28, ea28, hka28, hJ⟩ := dr_some hJ
      rw [ea28]
      refine fg_1103 C w hka28 tw_1_201 dX9_gatherIfReader_14 ?_
      refine jv_astore_n (i := 3) (lv' := [(3, va_rf (h.fr 1103 a28)), (0, .ref t0), (1, .ref a25), (2, .ref a27)]) hx hb dX9_gatherIfReader_17 rfl hl (by decide) rfl (fun ls hl => ?_)
      refine lv_iconst (v := (0 : Int32)) hx hb dX9_gatherIfReader_18 (by decide) ?_
      refine lv_istore (i := 4) (lv' := [(4, .int (0 : Int32)), (3, va_rf (h.fr 1103 a28)), (0, .ref t0), (1, .ref a25), (2, .ref a27)]) hx hb dX9_gatherIfReader_19 hl (by decide) (by simp [List.filter, rf_cat, cat_i, cat_l, cat_r]) (fun ls hl => ?_)
      exact sl_X9_gatherIfReader_21 C hz2 N t0 N _ _ _ _ _ _ _ _ _ hJ hk0 w (lv_sub (l' := [(0, .ref t0), (1, .ref a25), (3, va_rf (h.fr 1103 a28)), (4, .int (0 : Int32))]) hl [2, 3, 1, 0] rfl)
    · have hJ := it_pos c26 hJ
      exact sb_X9_gatherIfReader_9 C hz2 N t0 _ hJ hk0 w (lv_sub (l' := [(0, .ref t0)]) hl [0] rfl)
def J_X9_gatherIfReader (N : Nat) (t0 : Nat) (h : Hp) (x1 : Option Nat) (x2 : Option Nat) : Option (Hp × Unit) := B_X9_gatherIfReader_0 N t0 h x1 x2
theorem mo_X9_gatherIfReader (N : Nat) (t0 : Nat) (h : Hp) (x1 : Option Nat) (x2 : Option Nat) (hJ : J_X9_gatherIfReader N t0 h x1 x2 = some (hz, ())) : Mo h hz := mb_X9_gatherIfReader_0 N t0 h x1 x2 hJ
theorem cd_X9_gatherIfReader : Cd yX9_gatherIfReader 2 := ⟨by decide +kernel, by decide +kernel, by decide +kernel⟩
theorem cc_X9_gatherIfReader (N : Nat) (t0 : Nat) (h : Hp) (x1 : Option Nat) (x2 : Option Nat) (hk0 : h.kd t0 = 12) (hJ : J_X9_gatherIfReader N t0 h x1 x2 = some (hz, ())) : Cv l yX9_gatherIfReader cX9_gatherIfReader 6 none 7 230 D cs h hz [.ref t0, va_rf x1, va_rf x2] := by
  intro mc ms g1 g2
  refine je_any (by decide) (by simp [lg_sl, rf_cat, cat_i, cat_l, cat_r]) ?_
  intro p e s m args below meth c C hin2 w ls hl
  have hl : lv_has ls 6 [(0, .ref t0), (1, va_rf x1), (2, va_rf x2)] := by simpa [lv_args, rf_cat, cat_i, cat_l, cat_r] using hl
  exact sb_X9_gatherIfReader_0 C ⟨g1, g2⟩ N t0 h x1 x2 hJ hk0 w hl
end G_X9_gatherIfReader
section G_X9_gatherReaders
variable {p : Program} {l : Launch} {e : Env} {s : State} {m : MethodId} {args : Array Value} {below : List Frame} {meth : Method} {c : Code} {D : va_G} {cs : C4} {A : Nat → Prop} {h0 hz : Hp} {mc ms : Nat}
def B_X9_gatherReaders_35 (N : Nat) (k14 : Hp → (Option Nat) → Int32 → Option (Hp × Unit)) (t0 : Nat) (h : Hp) (x1 : Option Nat) (x2 : Int32) : Option (Hp × Unit) := k14 h x1 (x2 + (1 : Int32))
theorem mb_X9_gatherReaders_35 (N : Nat) (k14 : Hp → (Option Nat) → Int32 → Option (Hp × Unit)) (t0 : Nat) (h : Hp) (x1 : Option Nat) (x2 : Int32) (m14 : ∀ (h : Hp) (x1 : Option Nat) (x2 : Int32), k14 h x1 x2 = some (hz, ()) → Mo h hz) (hJ : B_X9_gatherReaders_35 N k14 t0 h x1 x2 = some (hz, ())) : Mo h hz := by
  unfold B_X9_gatherReaders_35 at hJ
  exact m14 _ _ _ hJ
set_option maxRecDepth 100000 in
set_option maxHeartbeats 4000000 in
theorem sb_X9_gatherReaders_35 (C : Cx p s m args meth c cX9_gatherReaders 3 none RX9 D cs A h0.se) (hz2 : hz.nx ≤ h0.nx + mc ∧ hz.su ≤ h0.su + ms) (N : Nat) (k14 : Hp → (Option Nat) → Int32 → Option (Hp × Unit)) (t0 : Nat) (m14 : ∀ (h : Hp) (x1 : Option Nat) (x2 : Int32), k14 h x1 x2 = some (hz, ()) → Mo h hz) (i14 : ∀ (h : Hp) (x1 : Option Nat) (x2 : Int32) (H : Heap) (locs : List Loc) (cells slots : Nat) (ls : Array Slot), k14 h x1 x2 = some (hz, ()) → h.kd t0 = 12 → Wo D cs A s h0 h H locs cells slots → lv_has ls 3 [(0, .ref t0), (1, va_rf x1), (2, .int x2)] → W p l e { frames := 8, cells := mc, slots := ms, locals := 260 } s m args below meth c H locs cells slots (MQ below (Zv D cs A hz) args s mc ms A) (F0 m 14 ls [])) (h : Hp) (x1 : Option Nat) (x2 : Int32) (hJ : B_X9_gatherReaders_35 N k14 t0 h x1 x2 = some (hz, ())) (hk0 : h.kd t0 = 12) {H : Heap} {locs : List Loc} {cells slots : Nat} (w : Wo D cs A s h0 h H locs cells slots) {ls : Array Slot} (hl : lv_has ls 3 [(0, .ref t0), (1, va_rf x1), (2, .int x2)]) : W p l e { frames := 8, cells := mc, slots := ms, locals := 260 } s m args below meth c H locs cells slots (MQ below (Zv D cs A hz) args s mc ms A) (F0 m 35 ls []) := by
  obtain ⟨hx, hb, hml, hown, hts, -⟩ := id C
  unfold B_X9_gatherReaders_35 at hJ
  refine lv_iinc (v := x2 + (1 : Int32)) (lv' := [(2, .int (x2 + (1 : Int32))), (0, .ref t0), (1, va_rf x1)]) hx hb dX9_gatherReaders_35 hl (k := 2) rfl rfl (by decide) (by simp [List.filter, rf_cat, cat_i, cat_l, cat_r]) (fun ls hl => ?_)
  refine lv_goto (tgt := 14) hx hb dX9_gatherReaders_38 (by decide) ?_
  exact i14 _ _ _ _ _ _ _ _ hJ hk0 w (lv_sub (l' := [(0, .ref t0), (1, va_rf x1), (2, .int (x2 + (1 : Int32)))]) hl [1, 2, 0] rfl)
def B_X9_gatherReaders_31 (N : Nat) (k14 : Hp → (Option Nat) → Int32 → Option (Hp × Unit)) (t0 : Nat) (h : Hp) (x1 : Option Nat) (x2 : Int32) (y0 : Option Nat) (y1 : Option Nat) : Option (Hp × Unit) := dr h 12 y0 (fun a1 => (J_X9_gatherIfReader N a1 h y1 x1).bind (fun z => B_X9_gatherReaders_35 N k14 t0 z.1 x1 x2))
theorem mb_X9_gatherReaders_31 (N : Nat) (k14 : Hp → (Option Nat) → Int32 → Option (Hp × Unit)) (t0 : Nat) (h : Hp) (x1 : Option Nat) (x2 : Int32) (y0 : Option Nat) (y1 : Option Nat) (m14 : ∀ (h : Hp) (x1 : Option Nat) (x2 : Int32), k14 h x1 x2 = some (hz, ()) → Mo h hz) (hJ : B_X9_gatherReaders_31 N k14 t0 h x1 x2 y0 y1 = some (hz, ())) : Mo h hz := by
  unfold B_X9_gatherReaders_31 at hJ
  obtain ⟨a1, ea1, -, hJ⟩ := dr_some hJ
  obtain ⟨⟨h2, r3⟩, e4, hJ⟩ := ob_some hJ
  exact (mo_X9_gatherIfReader N a1 h y1 x1 e4).tr (mb_X9_gatherReaders_35 N k14 t0 _ _ _ m14 hJ)
set_option maxRecDepth 100000 in
set_option maxHeartbeats 4000000 in
theorem sb_X9_gatherReaders_31 (C : Cx p s m args meth c cX9_gatherReaders 3 none RX9 D cs A h0.se) (hz2 : hz.nx ≤ h0.nx + mc ∧ hz.su ≤ h0.su + ms) (N : Nat) (k14 : Hp → (Option Nat) → Int32 → Option (Hp × Unit)) (t0 : Nat) (m14 : ∀ (h : Hp) (x1 : Option Nat) (x2 : Int32), k14 h x1 x2 = some (hz, ()) → Mo h hz) (i14 : ∀ (h : Hp) (x1 : Option Nat) (x2 : Int32) (H : Heap) (locs : List Loc) (cells slots : Nat) (ls : Array Slot), k14 h x1 x2 = some (hz, ()) → h.kd t0 = 12 → Wo D cs A s h0 h H locs cells slots → lv_has ls 3 [(0, .ref t0), (1, va_rf x1), (2, .int x2)] → W p l e { frames := 8, cells := mc, slots := ms, locals := 260 } s m args below meth c H locs cells slots (MQ below (Zv D cs A hz) args s mc ms A) (F0 m 14 ls [])) (h : Hp) (x1 : Option Nat) (x2 : Int32) (y0 : Option Nat) (y1 : Option Nat) (hJ : B_X9_gatherReaders_31 N k14 t0 h x1 x2 y0 y1 = some (hz, ())) (hk0 : h.kd t0 = 12) {H : Heap} {locs : List Loc} {cells slots : Nat} (w : Wo D cs A s h0 h H locs cells slots) {ls : Array Slot} (hl : lv_has ls 3 [(0, .ref t0), (1, va_rf x1), (2, .int x2)]) : W p l e { frames := 8, cells := mc, slots := ms, locals := 260 } s m args below meth c H locs cells slots (MQ below (Zv D cs A hz) args s mc ms A) (F0 m 31 ls [va_rf y1, va_rf y0]) := by
  obtain ⟨hx, hb, hml, hown, hts, -⟩ := id C
  unfold B_X9_gatherReaders_31 at hJ
  refine jv_aload_n hx hb dX9_gatherReaders_31 rfl (lv_at hl 1 rfl) ?_
  obtain ⟨a1, ea1, hka1, hJ⟩ := dr_some hJ
  rw [ea1]
  obtain ⟨⟨h2, r3⟩, e4, hJ⟩ := ob_some hJ
  refine jc_Vv (As := [va_rf y1, va_rf x1]) C w (cc_X9_gatherIfReader N a1 h y1 x1 hka1 e4) (mo_X9_gatherIfReader N a1 h y1 x1 e4) (mb_X9_gatherReaders_35 N k14 t0 _ _ _ m14 hJ) hz2 hka1 (by decide) rfl (fs := fs12 h a1) rfl rfl ⟨tw_6_131, tw_6_128, tw_6_130, ts_28, tw_1_1⟩ cd_X9_gatherIfReader ⟨by decide, by decide⟩ hl.1 (by first | exact Nat.le_of_ble_eq_true rfl | simp [rf_cat, cat_i, cat_l, cat_r]) rfl dX9_gatherReaders_32 (fun H locs w1 => ?_)
  have hk5 := kd_keep w (mo_X9_gatherIfReader N a1 h y1 x1 e4) hk0 (by decide)
  have w := w1
  exact sb_X9_gatherReaders_35 C hz2 N k14 t0 m14 i14 _ _ _ hJ hk5 w hl
def B_X9_gatherReaders_70 (N : Nat) (k43 : Hp → (Option Nat) → Int32 → Option (Hp × Unit)) (t0 : Nat) (h : Hp) (x1 : Option Nat) (x2 : Int32) : Option (Hp × Unit) := k43 h x1 (x2 + (1 : Int32))
theorem mb_X9_gatherReaders_70 (N : Nat) (k43 : Hp → (Option Nat) → Int32 → Option (Hp × Unit)) (t0 : Nat) (h : Hp) (x1 : Option Nat) (x2 : Int32) (m43 : ∀ (h : Hp) (x1 : Option Nat) (x2 : Int32), k43 h x1 x2 = some (hz, ()) → Mo h hz) (hJ : B_X9_gatherReaders_70 N k43 t0 h x1 x2 = some (hz, ())) : Mo h hz := by
  unfold B_X9_gatherReaders_70 at hJ
  exact m43 _ _ _ hJ
set_option maxRecDepth 100000 in
set_option maxHeartbeats 4000000 in
theorem sb_X9_gatherReaders_70 (C : Cx p s m args meth c cX9_gatherReaders 3 none RX9 D cs A h0.se) (hz2 : hz.nx ≤ h0.nx + mc ∧ hz.su ≤ h0.su + ms) (N : Nat) (k43 : Hp → (Option Nat) → Int32 → Option (Hp × Unit)) (t0 : Nat) (m43 : ∀ (h : Hp) (x1 : Option Nat) (x2 : Int32), k43 h x1 x2 = some (hz, ()) → Mo h hz) (i43 : ∀ (h : Hp) (x1 : Option Nat) (x2 : Int32) (H : Heap) (locs : List Loc) (cells slots : Nat) (ls : Array Slot), k43 h x1 x2 = some (hz, ()) → h.kd t0 = 12 → Wo D cs A s h0 h H locs cells slots → lv_has ls 3 [(0, .ref t0), (1, va_rf x1), (2, .int x2)] → W p l e { frames := 8, cells := mc, slots := ms, locals := 260 } s m args below meth c H locs cells slots (MQ below (Zv D cs A hz) args s mc ms A) (F0 m 43 ls [])) (h : Hp) (x1 : Option Nat) (x2 : Int32) (hJ : B_X9_gatherReaders_70 N k43 t0 h x1 x2 = some (hz, ())) (hk0 : h.kd t0 = 12) {H : Heap} {locs : List Loc} {cells slots : Nat} (w : Wo D cs A s h0 h H locs cells slots) {ls : Array Slot} (hl : lv_has ls 3 [(0, .ref t0), (1, va_rf x1), (2, .int x2)]) : W p l e { frames := 8, cells := mc, slots := ms, locals := 260 } s m args below meth c H locs cells slots (MQ below (Zv D cs A hz) args s mc ms A) (F0 m 70 ls []) := by
  obtain ⟨hx, hb, hml, hown, hts, -⟩ := id C
  unfold B_X9_gatherReaders_70 at hJ
  refine lv_iinc (v := x2 + (1 : Int32)) (lv' := [(2, .int (x2 + (1 : Int32))), (0, .ref t0), (1, va_rf x1)]) hx hb dX9_gatherReaders_70 hl (k := 2) rfl rfl (by decide) (by simp [List.filter, rf_cat, cat_i, cat_l, cat_r]) (fun ls hl => ?_)
  refine lv_goto (tgt := 43) hx hb dX9_gatherReaders_73 (by decide) ?_
  exact i43 _ _ _ _ _ _ _ _ hJ hk0 w (lv_sub (l' := [(0, .ref t0), (1, va_rf x1), (2, .int (x2 + (1 : Int32)))]) hl [1, 2, 0] rfl)
def B_X9_gatherReaders_63 (N : Nat) (k43 : Hp → (Option Nat) → Int32 → Option (Hp × Unit)) (t0 : Nat) (h : Hp) (x1 : Option Nat) (x2 : Int32) (y0 : Option Nat) (y1 : Option Nat) : Option (Hp × Unit) := dr h 10 y1 (fun a6 => dr h 12 y0 (fun a7 => (J_X9_gatherIfReader N a7 h (some a6) x1).bind (fun z => B_X9_gatherReaders_70 N k43 t0 z.1 x1 x2)))
theorem mb_X9_gatherReaders_63 (N : Nat) (k43 : Hp → (Option Nat) → Int32 → Option (Hp × Unit)) (t0 : Nat) (h : Hp) (x1 : Option Nat) (x2 : Int32) (y0 : Option Nat) (y1 : Option Nat) (m43 : ∀ (h : Hp) (x1 : Option Nat) (x2 : Int32), k43 h x1 x2 = some (hz, ()) → Mo h hz) (hJ : B_X9_gatherReaders_63 N k43 t0 h x1 x2 y0 y1 = some (hz, ())) : Mo h hz := by
  unfold B_X9_gatherReaders_63 at hJ
  obtain ⟨a6, ea6, -, hJ⟩ := dr_some hJ
  obtain ⟨a7, ea7, -, hJ⟩ := dr_some hJ
  obtain ⟨⟨h8, r9⟩, e10, hJ⟩ := ob_some hJ
  exact (mo_X9_gatherIfReader N a7 h (some a6) x1 e10).tr (mb_X9_gatherReaders_70 N k43 t0 _ _ _ m43 hJ)
set_option maxRecDepth 100000 in
set_option maxHeartbeats 4000000 in
theorem sb_X9_gatherReaders_63 (C : Cx p s m args meth c cX9_gatherReaders 3 none RX9 D cs A h0.se) (hz2 : hz.nx ≤ h0.nx + mc ∧ hz.su ≤ h0.su + ms) (N : Nat) (k43 : Hp → (Option Nat) → Int32 → Option (Hp × Unit)) (t0 : Nat) (m43 : ∀ (h : Hp) (x1 : Option Nat) (x2 : Int32), k43 h x1 x2 = some (hz, ()) → Mo h hz) (i43 : ∀ (h : Hp) (x1 : Option Nat) (x2 : Int32) (H : Heap) (locs : List Loc) (cells slots : Nat) (ls : Array Slot), k43 h x1 x2 = some (hz, ()) → h.kd t0 = 12 → Wo D cs A s h0 h H locs cells slots → lv_has ls 3 [(0, .ref t0), (1, va_rf x1), (2, .int x2)] → W p l e { frames := 8, cells := mc, slots := ms, locals := 260 } s m args below meth c H locs cells slots (MQ below (Zv D cs A hz) args s mc ms A) (F0 m 43 ls [])) (h : Hp) (x1 : Option Nat) (x2 : Int32) (y0 : Option Nat) (y1 : Option Nat) (hJ : B_X9_gatherReaders_63 N k43 t0 h x1 x2 y0 y1 = some (hz, ())) (hk0 : h.kd t0 = 12) {H : Heap} {locs : List Loc} {cells slots : Nat} (w : Wo D cs A s h0 h H locs cells slots) {ls : Array Slot} (hl : lv_has ls 3 [(0, .ref t0), (1, va_rf x1), (2, .int x2)]) : W p l e { frames := 8, cells := mc, slots := ms, locals := 260 } s m args below meth c H locs cells slots (MQ below (Zv D cs A hz) args s mc ms A) (F0 m 63 ls [va_rf y1, va_rf y0]) := by
  obtain ⟨hx, hb, hml, hown, hts, -⟩ := id C
  unfold B_X9_gatherReaders_63 at hJ
  obtain ⟨a6, ea6, hka6, hJ⟩ := dr_some hJ
  rw [ea6]
  refine va_castS hx hb hown (hts _ tw_1_221) (C.2.2.2.2.2.1.1 10 _ rfl).2 (recv_at C w hka6 (by decide) rfl (fs := fs10 h a6) rfl) dX9_gatherReaders_63 ?_
  refine jv_aload_n hx hb dX9_gatherReaders_66 rfl (lv_at hl 1 rfl) ?_
  obtain ⟨a7, ea7, hka7, hJ⟩ := dr_some hJ
  rw [ea7]
  obtain ⟨⟨h8, r9⟩, e10, hJ⟩ := ob_some hJ
  refine jc_Vv (As := [.ref a6, va_rf x1]) C w (cc_X9_gatherIfReader N a7 h (some a6) x1 hka7 e10) (mo_X9_gatherIfReader N a7 h (some a6) x1 e10) (mb_X9_gatherReaders_70 N k43 t0 _ _ _ m43 hJ) hz2 hka7 (by decide) rfl (fs := fs12 h a7) rfl rfl ⟨tw_6_131, tw_6_128, tw_6_130, ts_28, tw_1_1⟩ cd_X9_gatherIfReader ⟨by decide, by decide⟩ hl.1 (by first | exact Nat.le_of_ble_eq_true rfl | simp [rf_cat, cat_i, cat_l, cat_r]) rfl dX9_gatherReaders_67 (fun H locs w1 => ?_)
  have hk11 := kd_keep w (mo_X9_gatherIfReader N a7 h (some a6) x1 e10) hk0 (by decide)
  have w := w1
  exact sb_X9_gatherReaders_70 C hz2 N k43 t0 m43 i43 _ _ _ hJ hk11 w hl
def B_X9_gatherReaders_51 (N : Nat) (k43 : Hp → (Option Nat) → Int32 → Option (Hp × Unit)) (t0 : Nat) (h : Hp) (x1 : Option Nat) (x2 : Int32) (y0 : Int32) (y1 : Int32) : Option (Hp × Unit) := if y1 ≤ y0 then (some (h, ())) else (dr h 2 (h.fr 1202 t0) (fun a13 => (J_Jx4a65c_get_915e3 N a13 h x2).bind (fun z => B_X9_gatherReaders_63 N k43 t0 z.1 x1 x2 (some t0) z.2)))
theorem mb_X9_gatherReaders_51 (N : Nat) (k43 : Hp → (Option Nat) → Int32 → Option (Hp × Unit)) (t0 : Nat) (h : Hp) (x1 : Option Nat) (x2 : Int32) (y0 : Int32) (y1 : Int32) (m43 : ∀ (h : Hp) (x1 : Option Nat) (x2 : Int32), k43 h x1 x2 = some (hz, ()) → Mo h hz) (hJ : B_X9_gatherReaders_51 N k43 t0 h x1 x2 y0 y1 = some (hz, ())) : Mo h hz := by
  unfold B_X9_gatherReaders_51 at hJ
  by_cases c12 : y1 ≤ y0
  · have hJ := it_pos c12 hJ
    obtain ⟨rfl, -⟩ := rs2 hJ
    exact ⟨fun _ _ => rfl, Nat.le_refl _, Nat.le_refl _, rfl, fun _ _ => rfl⟩
  · have hJ := it_neg c12 hJ
    obtain ⟨a13, ea13, -, hJ⟩ := dr_some hJ
    obtain ⟨⟨h14, r15⟩, e16, hJ⟩ := ob_some hJ
    exact (mo_Jx4a65c_get_915e3 N a13 h x2 e16).tr (mb_X9_gatherReaders_63 N k43 t0 _ _ _ _ _ m43 hJ)
set_option maxRecDepth 100000 in
set_option maxHeartbeats 4000000 in
theorem sb_X9_gatherReaders_51 (C : Cx p s m args meth c cX9_gatherReaders 3 none RX9 D cs A h0.se) (hz2 : hz.nx ≤ h0.nx + mc ∧ hz.su ≤ h0.su + ms) (N : Nat) (k43 : Hp → (Option Nat) → Int32 → Option (Hp × Unit)) (t0 : Nat) (m43 : ∀ (h : Hp) (x1 : Option Nat) (x2 : Int32), k43 h x1 x2 = some (hz, ()) → Mo h hz) (i43 : ∀ (h : Hp) (x1 : Option Nat) (x2 : Int32) (H : Heap) (locs : List Loc) (cells slots : Nat) (ls : Array Slot), k43 h x1 x2 = some (hz, ()) → h.kd t0 = 12 → Wo D cs A s h0 h H locs cells slots → lv_has ls 3 [(0, .ref t0), (1, va_rf x1), (2, .int x2)] → W p l e { frames := 8, cells := mc, slots := ms, locals := 260 } s m args below meth c H locs cells slots (MQ below (Zv D cs A hz) args s mc ms A) (F0 m 43 ls [])) (h : Hp) (x1 : Option Nat) (x2 : Int32) (y0 : Int32) (y1 : Int32) (hJ : B_X9_gatherReaders_51 N k43 t0 h x1 x2 y0 y1 = some (hz, ())) (hk0 : h.kd t0 = 12) {H : Heap} {locs : List Loc} {cells slots : Nat} (w : Wo D cs A s h0 h H locs cells slots) {ls : Array Slot} (hl : lv_has ls 3 [(0, .ref t0), (1, va_rf x1), (2, .int x2)]) : W p l e { frames := 8, cells := mc, slots := ms, locals := 260 } s m args below meth c H locs cells slots (MQ below (Zv D cs A hz) args s mc ms A) (F0 m 51 ls [.int y1, .int y0]) := by
  obtain ⟨hx, hb, hml, hown, hts, -⟩ := id C
  unfold B_X9_gatherReaders_51 at hJ
  refine lv_icmp_ge (tgt := 76) hx hb dX9_gatherReaders_51 (by decide) (fun c12 => ?_) (fun c12 => ?_)
  · have hJ := it_pos c12 hJ
    obtain ⟨rfl, -⟩ := rs2 hJ
    exact jr_vret C w hz2 dX9_gatherReaders_76
  · have hJ := it_neg c12 hJ
    refine lv_aload_n hx hb dX9_gatherReaders_54 rfl (lv_at hl 0 rfl) ?_
    refine lv_aload_n hx hb dX9_gatherReaders_55 rfl (lv_at hl 0 rfl) ?_
    refine fg_1202 C w hk0 tw_1_134 dX9_gatherReaders_56 ?_
    refine lv_iload_n hx hb dX9_gatherReaders_59 rfl (lv_at hl 2 rfl) ?_
    obtain ⟨a13, ea13, hka13, hJ⟩ := dr_some hJ
    rw [ea13]
    obtain ⟨⟨h14, r15⟩, e16, hJ⟩ := ob_some hJ
    refine jc_Vq (As := [.int x2]) C w (cc_Jx4a65c_get_915e3 N a13 h x2 hka13 e16) (mo_Jx4a65c_get_915e3 N a13 h x2 e16) (mb_X9_gatherReaders_63 N k43 t0 _ _ _ _ _ m43 hJ) hz2 hka13 (by decide) rfl (fs := fs2 h a13) rfl rfl ⟨tw_2_65, tw_2_62, tw_2_63, tw_2_64, tw_1_5⟩ cd_Jx4a65c_get_915e3 ⟨by decide, by decide⟩ hl.1 (by first | exact Nat.le_of_ble_eq_true rfl | simp [rf_cat, cat_i, cat_l, cat_r]) rfl dX9_gatherReaders_60 (fun H locs w1 => ?_)
    have hk17 := kd_keep w (mo_Jx4a65c_get_915e3 N a13 h x2 e16) hk0 (by decide)
    have w := w1
    exact sb_X9_gatherReaders_63 C hz2 N k43 t0 m43 i43 _ _ _ _ _ hJ hk17 w hl
def B_X9_gatherReaders_43 (N : Nat) (k43 : Hp → (Option Nat) → Int32 → Option (Hp × Unit)) (t0 : Nat) (h : Hp) (x1 : Option Nat) (x2 : Int32) : Option (Hp × Unit) := dr h 2 (h.fr 1202 t0) (fun a18 => (J_Jx4a65c_size_8abf5 N a18 h).bind (fun z => B_X9_gatherReaders_51 N k43 t0 z.1 x1 x2 x2 z.2))
theorem mb_X9_gatherReaders_43 (N : Nat) (k43 : Hp → (Option Nat) → Int32 → Option (Hp × Unit)) (t0 : Nat) (h : Hp) (x1 : Option Nat) (x2 : Int32) (m43 : ∀ (h : Hp) (x1 : Option Nat) (x2 : Int32), k43 h x1 x2 = some (hz, ()) → Mo h hz) (hJ : B_X9_gatherReaders_43 N k43 t0 h x1 x2 = some (hz, ())) : Mo h hz := by
  unfold B_X9_gatherReaders_43 at hJ
  obtain ⟨a18, ea18, -, hJ⟩ := dr_some hJ
  obtain ⟨⟨h19, r20⟩, e21, hJ⟩ := ob_some hJ
  exact (mo_Jx4a65c_size_8abf5 N a18 h e21).tr (mb_X9_gatherReaders_51 N k43 t0 _ _ _ _ _ m43 hJ)
set_option maxRecDepth 100000 in
set_option maxHeartbeats 4000000 in
theorem sb_X9_gatherReaders_43 (C : Cx p s m args meth c cX9_gatherReaders 3 none RX9 D cs A h0.se) (hz2 : hz.nx ≤ h0.nx + mc ∧ hz.su ≤ h0.su + ms) (N : Nat) (k43 : Hp → (Option Nat) → Int32 → Option (Hp × Unit)) (t0 : Nat) (m43 : ∀ (h : Hp) (x1 : Option Nat) (x2 : Int32), k43 h x1 x2 = some (hz, ()) → Mo h hz) (i43 : ∀ (h : Hp) (x1 : Option Nat) (x2 : Int32) (H : Heap) (locs : List Loc) (cells slots : Nat) (ls : Array Slot), k43 h x1 x2 = some (hz, ()) → h.kd t0 = 12 → Wo D cs A s h0 h H locs cells slots → lv_has ls 3 [(0, .ref t0), (1, va_rf x1), (2, .int x2)] → W p l e { frames := 8, cells := mc, slots := ms, locals := 260 } s m args below meth c H locs cells slots (MQ below (Zv D cs A hz) args s mc ms A) (F0 m 43 ls [])) (h : Hp) (x1 : Option Nat) (x2 : Int32) (hJ : B_X9_gatherReaders_43 N k43 t0 h x1 x2 = some (hz, ())) (hk0 : h.kd t0 = 12) {H : Heap} {locs : List Loc} {cells slots : Nat} (w : Wo D cs A s h0 h H locs cells slots) {ls : Array Slot} (hl : lv_has ls 3 [(0, .ref t0), (1, va_rf x1), (2, .int x2)]) : W p l e { frames := 8, cells := mc, slots := ms, locals := 260 } s m args below meth c H locs cells slots (MQ below (Zv D cs A hz) args s mc ms A) (F0 m 43 ls []) := by
  obtain ⟨hx, hb, hml, hown, hts, -⟩ := id C
  unfold B_X9_gatherReaders_43 at hJ
  refine lv_iload_n hx hb dX9_gatherReaders_43 rfl (lv_at hl 2 rfl) ?_
  refine lv_aload_n hx hb dX9_gatherReaders_44 rfl (lv_at hl 0 rfl) ?_
  refine fg_1202 C w hk0 tw_1_134 dX9_gatherReaders_45 ?_
  obtain ⟨a18, ea18, hka18, hJ⟩ := dr_some hJ
  rw [ea18]
  obtain ⟨⟨h19, r20⟩, e21, hJ⟩ := ob_some hJ
  refine jc_Vi (As := []) C w (cc_Jx4a65c_size_8abf5 N a18 h hka18 e21) (mo_Jx4a65c_size_8abf5 N a18 h e21) (mb_X9_gatherReaders_51 N k43 t0 _ _ _ _ _ m43 hJ) hz2 hka18 (by decide) rfl (fs := fs2 h a18) rfl rfl ⟨tw_1_182, tw_1_179, tw_1_180, tw_1_181, tw_1_5⟩ cd_Jx4a65c_size_8abf5 ⟨by decide, by decide⟩ hl.1 (by first | exact Nat.le_of_ble_eq_true rfl | simp [rf_cat, cat_i, cat_l, cat_r]) rfl dX9_gatherReaders_48 (fun H locs w1 => ?_)
  have hk22 := kd_keep w (mo_Jx4a65c_size_8abf5 N a18 h e21) hk0 (by decide)
  have w := w1
  exact sb_X9_gatherReaders_51 C hz2 N k43 t0 m43 i43 _ _ _ _ _ hJ hk22 w hl
def L_X9_gatherReaders_43 (N : Nat) (t0 : Nat) : Nat → Hp → (Option Nat) → Int32 → Option (Hp × Unit)
  | 0 => fun _ _ _ => none
  | n + 1 => fun h x1 x2 => B_X9_gatherReaders_43 N (L_X9_gatherReaders_43 N t0 n) t0 h x1 x2
theorem ml_X9_gatherReaders_43 (N : Nat) (t0 : Nat) : ∀ (n : Nat) (h : Hp) (x1 : Option Nat) (x2 : Int32), L_X9_gatherReaders_43 N t0 n h x1 x2 = some (hz, ()) → Mo h hz := by
  intro n
  induction n with
  | zero => intro h x1 x2 hJ; cases hJ
  | succ n ih => intro h x1 x2 hJ; exact mb_X9_gatherReaders_43 N (L_X9_gatherReaders_43 N t0 n) t0 h x1 x2 ih hJ
theorem sl_X9_gatherReaders_43 (C : Cx p s m args meth c cX9_gatherReaders 3 none RX9 D cs A h0.se) (hz2 : hz.nx ≤ h0.nx + mc ∧ hz.su ≤ h0.su + ms) (N : Nat) (t0 : Nat) : ∀ n : Nat, ∀ (h : Hp) (x1 : Option Nat) (x2 : Int32) (H : Heap) (locs : List Loc) (cells slots : Nat) (ls : Array Slot), L_X9_gatherReaders_43 N t0 n h x1 x2 = some (hz, ()) → h.kd t0 = 12 → Wo D cs A s h0 h H locs cells slots → lv_has ls 3 [(0, .ref t0), (1, va_rf x1), (2, .int x2)] → W p l e { frames := 8, cells := mc, slots := ms, locals := 260 } s m args below meth c H locs cells slots (MQ below (Zv D cs A hz) args s mc ms A) (F0 m 43 ls []) := by
  intro n
  induction n with
  | zero => intro h x1 x2 H locs cells slots ls hJ; cases hJ
  | succ n ih =>
    intro h x1 x2 H locs cells slots ls hJ hk0 w hl
    exact sb_X9_gatherReaders_43 C hz2 N (L_X9_gatherReaders_43 N t0 n) t0 (ml_X9_gatherReaders_43 N t0 n) ih h x1 x2 hJ hk0 w hl
def B_X9_gatherReaders_22 (N : Nat) (k14 : Hp → (Option Nat) → Int32 → Option (Hp × Unit)) (t0 : Nat) (h : Hp) (x1 : Option Nat) (x2 : Int32) (y0 : Int32) (y1 : Int32) : Option (Hp × Unit) := if y1 < y0 then (L_X9_gatherReaders_43 N t0 N h x1 (0 : Int32)) else ((J_X9_withMoment N t0 h x2).bind (fun z => B_X9_gatherReaders_31 N k14 t0 z.1 x1 x2 (some t0) z.2))
theorem mb_X9_gatherReaders_22 (N : Nat) (k14 : Hp → (Option Nat) → Int32 → Option (Hp × Unit)) (t0 : Nat) (h : Hp) (x1 : Option Nat) (x2 : Int32) (y0 : Int32) (y1 : Int32) (m14 : ∀ (h : Hp) (x1 : Option Nat) (x2 : Int32), k14 h x1 x2 = some (hz, ()) → Mo h hz) (hJ : B_X9_gatherReaders_22 N k14 t0 h x1 x2 y0 y1 = some (hz, ())) : Mo h hz := by
  unfold B_X9_gatherReaders_22 at hJ
  by_cases c23 : y1 < y0
  · have hJ := it_pos c23 hJ
    exact ml_X9_gatherReaders_43 N t0 N _ _ _ hJ
  · have hJ := it_neg c23 hJ
    obtain ⟨⟨h24, r25⟩, e26, hJ⟩ := ob_some hJ
    exact (mo_X9_withMoment N t0 h x2 e26).tr (mb_X9_gatherReaders_31 N k14 t0 _ _ _ _ _ m14 hJ)
set_option maxRecDepth 100000 in
set_option maxHeartbeats 4000000 in
theorem sb_X9_gatherReaders_22 (C : Cx p s m args meth c cX9_gatherReaders 3 none RX9 D cs A h0.se) (hz2 : hz.nx ≤ h0.nx + mc ∧ hz.su ≤ h0.su + ms) (N : Nat) (k14 : Hp → (Option Nat) → Int32 → Option (Hp × Unit)) (t0 : Nat) (m14 : ∀ (h : Hp) (x1 : Option Nat) (x2 : Int32), k14 h x1 x2 = some (hz, ()) → Mo h hz) (i14 : ∀ (h : Hp) (x1 : Option Nat) (x2 : Int32) (H : Heap) (locs : List Loc) (cells slots : Nat) (ls : Array Slot), k14 h x1 x2 = some (hz, ()) → h.kd t0 = 12 → Wo D cs A s h0 h H locs cells slots → lv_has ls 3 [(0, .ref t0), (1, va_rf x1), (2, .int x2)] → W p l e { frames := 8, cells := mc, slots := ms, locals := 260 } s m args below meth c H locs cells slots (MQ below (Zv D cs A hz) args s mc ms A) (F0 m 14 ls [])) (h : Hp) (x1 : Option Nat) (x2 : Int32) (y0 : Int32) (y1 : Int32) (hJ : B_X9_gatherReaders_22 N k14 t0 h x1 x2 y0 y1 = some (hz, ())) (hk0 : h.kd t0 = 12) {H : Heap} {locs : List Loc} {cells slots : Nat} (w : Wo D cs A s h0 h H locs cells slots) {ls : Array Slot} (hl : lv_has ls 3 [(0, .ref t0), (1, va_rf x1), (2, .int x2)]) : W p l e { frames := 8, cells := mc, slots := ms, locals := 260 } s m args below meth c H locs cells slots (MQ below (Zv D cs A hz) args s mc ms A) (F0 m 22 ls [.int y1, .int y0]) := by
  obtain ⟨hx, hb, hml, hown, hts, -⟩ := id C
  unfold B_X9_gatherReaders_22 at hJ
  refine lv_icmp_gt (tgt := 41) hx hb dX9_gatherReaders_22 (by decide) (fun c23 => ?_) (fun c23 => ?_)
  · have hJ := it_pos c23 hJ
    refine lv_iconst (v := (0 : Int32)) hx hb dX9_gatherReaders_41 (by decide) ?_
    refine lv_istore_n (i := 2) (lv' := [(2, .int (0 : Int32)), (0, .ref t0), (1, va_rf x1)]) hx hb dX9_gatherReaders_42 rfl hl (by decide) (by simp [List.filter, rf_cat, cat_i, cat_l, cat_r]) (fun ls hl => ?_)
    exact sl_X9_gatherReaders_43 C hz2 N t0 N _ _ _ _ _ _ _ _ hJ hk0 w (lv_sub (l' := [(0, .ref t0), (1, va_rf x1), (2, .int (0 : Int32))]) hl [1, 2, 0] rfl)
  · have hJ := it_neg c23 hJ
    refine lv_aload_n hx hb dX9_gatherReaders_25 rfl (lv_at hl 0 rfl) ?_
    refine lv_aload_n hx hb dX9_gatherReaders_26 rfl (lv_at hl 0 rfl) ?_
    refine lv_iload_n hx hb dX9_gatherReaders_27 rfl (lv_at hl 2 rfl) ?_
    obtain ⟨⟨h24, r25⟩, e26, hJ⟩ := ob_some hJ
    refine jc_Vq (As := [.int x2]) C w (cc_X9_withMoment N t0 h x2 hk0 e26) (mo_X9_withMoment N t0 h x2 e26) (mb_X9_gatherReaders_31 N k14 t0 _ _ _ _ _ m14 hJ) hz2 hk0 (by decide) rfl (fs := fs12 h t0) rfl rfl ⟨tw_2_232, tw_2_229, tw_2_231, ts_10, tw_1_1⟩ cd_X9_withMoment ⟨by decide, by decide⟩ hl.1 (by first | exact Nat.le_of_ble_eq_true rfl | simp [rf_cat, cat_i, cat_l, cat_r]) rfl dX9_gatherReaders_28 (fun H locs w1 => ?_)
    have hk27 := kd_keep w (mo_X9_withMoment N t0 h x2 e26) hk0 (by decide)
    have w := w1
    exact sb_X9_gatherReaders_31 C hz2 N k14 t0 m14 i14 _ _ _ _ _ hJ hk27 w hl
def B_X9_gatherReaders_14 (N : Nat) (k14 : Hp → (Option Nat) → Int32 → Option (Hp × Unit)) (t0 : Nat) (h : Hp) (x1 : Option Nat) (x2 : Int32) : Option (Hp × Unit) := dr h 2 (h.fr 1203 t0) (fun a28 => (J_Jx4a65c_size_8abf5 N a28 h).bind (fun z => B_X9_gatherReaders_22 N k14 t0 z.1 x1 x2 x2 z.2))
theorem mb_X9_gatherReaders_14 (N : Nat) (k14 : Hp → (Option Nat) → Int32 → Option (Hp × Unit)) (t0 : Nat) (h : Hp) (x1 : Option Nat) (x2 : Int32) (m14 : ∀ (h : Hp) (x1 : Option Nat) (x2 : Int32), k14 h x1 x2 = some (hz, ()) → Mo h hz) (hJ : B_X9_gatherReaders_14 N k14 t0 h x1 x2 = some (hz, ())) : Mo h hz := by
  unfold B_X9_gatherReaders_14 at hJ
  obtain ⟨a28, ea28, -, hJ⟩ := dr_some hJ
  obtain ⟨⟨h29, r30⟩, e31, hJ⟩ := ob_some hJ
  exact (mo_Jx4a65c_size_8abf5 N a28 h e31).tr (mb_X9_gatherReaders_22 N k14 t0 _ _ _ _ _ m14 hJ)
set_option maxRecDepth 100000 in
set_option maxHeartbeats 4000000 in
theorem sb_X9_gatherReaders_14 (C : Cx p s m args meth c cX9_gatherReaders 3 none RX9 D cs A h0.se) (hz2 : hz.nx ≤ h0.nx + mc ∧ hz.su ≤ h0.su + ms) (N : Nat) (k14 : Hp → (Option Nat) → Int32 → Option (Hp × Unit)) (t0 : Nat) (m14 : ∀ (h : Hp) (x1 : Option Nat) (x2 : Int32), k14 h x1 x2 = some (hz, ()) → Mo h hz) (i14 : ∀ (h : Hp) (x1 : Option Nat) (x2 : Int32) (H : Heap) (locs : List Loc) (cells slots : Nat) (ls : Array Slot), k14 h x1 x2 = some (hz, ()) → h.kd t0 = 12 → Wo D cs A s h0 h H locs cells slots → lv_has ls 3 [(0, .ref t0), (1, va_rf x1), (2, .int x2)] → W p l e { frames := 8, cells := mc, slots := ms, locals := 260 } s m args below meth c H locs cells slots (MQ below (Zv D cs A hz) args s mc ms A) (F0 m 14 ls [])) (h : Hp) (x1 : Option Nat) (x2 : Int32) (hJ : B_X9_gatherReaders_14 N k14 t0 h x1 x2 = some (hz, ())) (hk0 : h.kd t0 = 12) {H : Heap} {locs : List Loc} {cells slots : Nat} (w : Wo D cs A s h0 h H locs cells slots) {ls : Array Slot} (hl : lv_has ls 3 [(0, .ref t0), (1, va_rf x1), (2, .int x2)]) : W p l e { frames := 8, cells := mc, slots := ms, locals := 260 } s m args below meth c H locs cells slots (MQ below (Zv D cs A hz) args s mc ms A) (F0 m 14 ls []) := by
  obtain ⟨hx, hb, hml, hown, hts, -⟩ := id C
  unfold B_X9_gatherReaders_14 at hJ
  refine lv_iload_n hx hb dX9_gatherReaders_14 rfl (lv_at hl 2 rfl) ?_
  refine lv_aload_n hx hb dX9_gatherReaders_15 rfl (lv_at hl 0 rfl) ?_
  refine fg_1203 C w hk0 tw_1_135 dX9_gatherReaders_16 ?_
  obtain ⟨a28, ea28, hka28, hJ⟩ := dr_some hJ
  rw [ea28]
  obtain ⟨⟨h29, r30⟩, e31, hJ⟩ := ob_some hJ
  refine jc_Vi (As := []) C w (cc_Jx4a65c_size_8abf5 N a28 h hka28 e31) (mo_Jx4a65c_size_8abf5 N a28 h e31) (mb_X9_gatherReaders_22 N k14 t0 _ _ _ _ _ m14 hJ) hz2 hka28 (by decide) rfl (fs := fs2 h a28) rfl rfl ⟨tw_1_182, tw_1_179, tw_1_180, tw_1_181, tw_1_5⟩ cd_Jx4a65c_size_8abf5 ⟨by decide, by decide⟩ hl.1 (by first | exact Nat.le_of_ble_eq_true rfl | simp [rf_cat, cat_i, cat_l, cat_r]) rfl dX9_gatherReaders_19 (fun H locs w1 => ?_)
  have hk32 := kd_keep w (mo_Jx4a65c_size_8abf5 N a28 h e31) hk0 (by decide)
  have w := w1
  exact sb_X9_gatherReaders_22 C hz2 N k14 t0 m14 i14 _ _ _ _ _ hJ hk32 w hl
def L_X9_gatherReaders_14 (N : Nat) (t0 : Nat) : Nat → Hp → (Option Nat) → Int32 → Option (Hp × Unit)
  | 0 => fun _ _ _ => none
  | n + 1 => fun h x1 x2 => B_X9_gatherReaders_14 N (L_X9_gatherReaders_14 N t0 n) t0 h x1 x2
theorem ml_X9_gatherReaders_14 (N : Nat) (t0 : Nat) : ∀ (n : Nat) (h : Hp) (x1 : Option Nat) (x2 : Int32), L_X9_gatherReaders_14 N t0 n h x1 x2 = some (hz, ()) → Mo h hz := by
  intro n
  induction n with
  | zero => intro h x1 x2 hJ; cases hJ
  | succ n ih => intro h x1 x2 hJ; exact mb_X9_gatherReaders_14 N (L_X9_gatherReaders_14 N t0 n) t0 h x1 x2 ih hJ
theorem sl_X9_gatherReaders_14 (C : Cx p s m args meth c cX9_gatherReaders 3 none RX9 D cs A h0.se) (hz2 : hz.nx ≤ h0.nx + mc ∧ hz.su ≤ h0.su + ms) (N : Nat) (t0 : Nat) : ∀ n : Nat, ∀ (h : Hp) (x1 : Option Nat) (x2 : Int32) (H : Heap) (locs : List Loc) (cells slots : Nat) (ls : Array Slot), L_X9_gatherReaders_14 N t0 n h x1 x2 = some (hz, ()) → h.kd t0 = 12 → Wo D cs A s h0 h H locs cells slots → lv_has ls 3 [(0, .ref t0), (1, va_rf x1), (2, .int x2)] → W p l e { frames := 8, cells := mc, slots := ms, locals := 260 } s m args below meth c H locs cells slots (MQ below (Zv D cs A hz) args s mc ms A) (F0 m 14 ls []) := by
  intro n
  induction n with
  | zero => intro h x1 x2 H locs cells slots ls hJ; cases hJ
  | succ n ih =>
    intro h x1 x2 H locs cells slots ls hJ hk0 w hl
    exact sb_X9_gatherReaders_14 C hz2 N (L_X9_gatherReaders_14 N t0 n) t0 (ml_X9_gatherReaders_14 N t0 n) ih h x1 x2 hJ hk0 w hl
def B_X9_gatherReaders_7 (N : Nat) (t0 : Nat) (h : Hp) (x1 : Option Nat) : Option (Hp × Unit) := dr h 10 x1 (fun a33 => L_X9_gatherReaders_14 N t0 N h (some a33) ((h.fi 1001 a33) + (1 : Int32)))
theorem mb_X9_gatherReaders_7 (N : Nat) (t0 : Nat) (h : Hp) (x1 : Option Nat) (hJ : B_X9_gatherReaders_7 N t0 h x1 = some (hz, ())) : Mo h hz := by
  unfold B_X9_gatherReaders_7 at hJ
  obtain ⟨a33, ea33, -, hJ⟩ := dr_some hJ
  exact ml_X9_gatherReaders_14 N t0 N _ _ _ hJ
set_option maxRecDepth 100000 in
set_option maxHeartbeats 4000000 in
theorem sb_X9_gatherReaders_7 (C : Cx p s m args meth c cX9_gatherReaders 3 none RX9 D cs A h0.se) (hz2 : hz.nx ≤ h0.nx + mc ∧ hz.su ≤ h0.su + ms) (N : Nat) (t0 : Nat) (h : Hp) (x1 : Option Nat) (hJ : B_X9_gatherReaders_7 N t0 h x1 = some (hz, ())) (hk0 : h.kd t0 = 12) {H : Heap} {locs : List Loc} {cells slots : Nat} (w : Wo D cs A s h0 h H locs cells slots) {ls : Array Slot} (hl : lv_has ls 3 [(0, .ref t0), (1, va_rf x1)]) : W p l e { frames := 8, cells := mc, slots := ms, locals := 260 } s m args below meth c H locs cells slots (MQ below (Zv D cs A hz) args s mc ms A) (F0 m 7 ls []) := by
  obtain ⟨hx, hb, hml, hown, hts, -⟩ := id C
  unfold B_X9_gatherReaders_7 at hJ
  refine jv_aload_n hx hb dX9_gatherReaders_7 rfl (lv_at hl 1 rfl) ?_
  obtain ⟨a33, ea33, hka33, hJ⟩ := dr_some hJ
  rw [ea33] at hl
  rw [ea33]
  refine fg_1001 C w hka33 tw_2_14 dX9_gatherReaders_8 ?_
  refine lv_iconst (v := (1 : Int32)) hx hb dX9_gatherReaders_11 (by decide) ?_
  refine lv_iadd hx hb dX9_gatherReaders_12 ?_
  refine lv_istore_n (i := 2) (lv' := [(2, .int ((h.fi 1001 a33) + (1 : Int32))), (0, .ref t0), (1, .ref a33)]) hx hb dX9_gatherReaders_13 rfl hl (by decide) rfl (fun ls hl => ?_)
  exact sl_X9_gatherReaders_14 C hz2 N t0 N _ _ _ _ _ _ _ _ hJ hk0 w (lv_sub (l' := [(0, .ref t0), (1, .ref a33), (2, .int ((h.fi 1001 a33) + (1 : Int32)))]) hl [1, 2, 0] rfl)
def B_X9_gatherReaders_0 (N : Nat) (t0 : Nat) (h : Hp) (x1 : Option Nat) : Option (Hp × Unit) := dr h 2 (h.fr 1207 t0) (fun a34 => (J_Jx4a65c_clear_da8c8 N a34 h).bind (fun z => B_X9_gatherReaders_7 N t0 z.1 x1))
theorem mb_X9_gatherReaders_0 (N : Nat) (t0 : Nat) (h : Hp) (x1 : Option Nat) (hJ : B_X9_gatherReaders_0 N t0 h x1 = some (hz, ())) : Mo h hz := by
  unfold B_X9_gatherReaders_0 at hJ
  obtain ⟨a34, ea34, -, hJ⟩ := dr_some hJ
  obtain ⟨⟨h35, r36⟩, e37, hJ⟩ := ob_some hJ
  exact (mo_Jx4a65c_clear_da8c8 N a34 h e37).tr (mb_X9_gatherReaders_7 N t0 _ _ hJ)
set_option maxRecDepth 100000 in
set_option maxHeartbeats 4000000 in
theorem sb_X9_gatherReaders_0 (C : Cx p s m args meth c cX9_gatherReaders 3 none RX9 D cs A h0.se) (hz2 : hz.nx ≤ h0.nx + mc ∧ hz.su ≤ h0.su + ms) (N : Nat) (t0 : Nat) (h : Hp) (x1 : Option Nat) (hJ : B_X9_gatherReaders_0 N t0 h x1 = some (hz, ())) (hk0 : h.kd t0 = 12) {H : Heap} {locs : List Loc} {cells slots : Nat} (w : Wo D cs A s h0 h H locs cells slots) {ls : Array Slot} (hl : lv_has ls 3 [(0, .ref t0), (1, va_rf x1)]) : W p l e { frames := 8, cells := mc, slots := ms, locals := 260 } s m args below meth c H locs cells slots (MQ below (Zv D cs A hz) args s mc ms A) (F0 m 0 ls []) := by
  obtain ⟨hx, hb, hml, hown, hts, -⟩ := id C
  unfold B_X9_gatherReaders_0 at hJ
  refine lv_aload_n hx hb dX9_gatherReaders_0 rfl (lv_at hl 0 rfl) ?_
  refine fg_1207 C w hk0 tw_1_139 dX9_gatherReaders_1 ?_
  obtain ⟨a34, ea34, hka34, hJ⟩ := dr_some hJ
  rw [ea34]
  obtain ⟨⟨h35, r36⟩, e37, hJ⟩ := ob_some hJ
  refine jc_Vv (As := []) C w (cc_Jx4a65c_clear_da8c8 N a34 h hka34 e37) (mo_Jx4a65c_clear_da8c8 N a34 h e37) (mb_X9_gatherReaders_7 N t0 _ _ hJ) hz2 hka34 (by decide) rfl (fs := fs2 h a34) rfl rfl ⟨tw_5_182, tw_5_179, tw_5_180, tw_5_181, tw_1_5⟩ cd_Jx4a65c_clear_da8c8 ⟨by decide, by decide⟩ hl.1 (by first | exact Nat.le_of_ble_eq_true rfl | simp [rf_cat, cat_i, cat_l, cat_r]) rfl dX9_gatherReaders_4 (fun H locs w1 => ?_)
  have hk38 := kd_keep w (mo_Jx4a65c_clear_da8c8 N a34 h e37) hk0 (by decide)
  have w := w1
  exact sb_X9_gatherReaders_7 C hz2 N t0 _ _ hJ hk38 w hl
def J_X9_gatherReaders (N : Nat) (t0 : Nat) (h : Hp) (x1 : Option Nat) : Option (Hp × Unit) := B_X9_gatherReaders_0 N t0 h x1
theorem mo_X9_gatherReaders (N : Nat) (t0 : Nat) (h : Hp) (x1 : Option Nat) (hJ : J_X9_gatherReaders N t0 h x1 = some (hz, ())) : Mo h hz := mb_X9_gatherReaders_0 N t0 h x1 hJ
theorem cd_X9_gatherReaders : Cd yX9_gatherReaders 1 := ⟨by decide +kernel, by decide +kernel, by decide +kernel⟩
theorem cc_X9_gatherReaders (N : Nat) (t0 : Nat) (h : Hp) (x1 : Option Nat) (hk0 : h.kd t0 = 12) (hJ : J_X9_gatherReaders N t0 h x1 = some (hz, ())) : Cv l yX9_gatherReaders cX9_gatherReaders 3 none 8 260 D cs h hz [.ref t0, va_rf x1] := by
  intro mc ms g1 g2
  refine je_any (by decide) (by simp [lg_sl, rf_cat, cat_i, cat_l, cat_r]) ?_
  intro p e s m args below meth c C hin2 w ls hl
  have hl : lv_has ls 3 [(0, .ref t0), (1, va_rf x1)] := by simpa [lv_args, rf_cat, cat_i, cat_l, cat_r] using hl
  exact sb_X9_gatherReaders_0 C ⟨g1, g2⟩ N t0 h x1 hJ hk0 w hl
end G_X9_gatherReaders
section G_X9_isInConflict
variable {p : Program} {l : Launch} {e : Env} {s : State} {m : MethodId} {args : Array Value} {below : List Frame} {meth : Method} {c : Code} {D : va_G} {cs : C4} {A : Nat → Prop} {h0 hz : Hp} {mc ms : Nat} {rz : Int32}
def B_X9_isInConflict_93 (N : Nat) (k10 : Hp → (Option Nat) → (Option Nat) → Int32 → Option (Hp × Int32)) (t0 : Nat) (h : Hp) (x1 : Option Nat) (x2 : Option Nat) (x3 : Int32) : Option (Hp × Int32) := k10 h x1 x2 (x3 + (1 : Int32))
theorem mb_X9_isInConflict_93 (N : Nat) (k10 : Hp → (Option Nat) → (Option Nat) → Int32 → Option (Hp × Int32)) (t0 : Nat) (h : Hp) (x1 : Option Nat) (x2 : Option Nat) (x3 : Int32) (m10 : ∀ (h : Hp) (x1 : Option Nat) (x2 : Option Nat) (x3 : Int32), k10 h x1 x2 x3 = some (hz, rz) → Mo h hz) (hJ : B_X9_isInConflict_93 N k10 t0 h x1 x2 x3 = some (hz, rz)) : Mo h hz := by
  unfold B_X9_isInConflict_93 at hJ
  exact m10 _ _ _ _ hJ
set_option maxRecDepth 100000 in
set_option maxHeartbeats 4000000 in
theorem sb_X9_isInConflict_93 (C : Cx p s m args meth c cX9_isInConflict 7 (some .boolean) RX9 D cs A h0.se) (hz2 : hz.nx ≤ h0.nx + mc ∧ hz.su ≤ h0.su + ms) (N : Nat) (k10 : Hp → (Option Nat) → (Option Nat) → Int32 → Option (Hp × Int32)) (t0 : Nat) (m10 : ∀ (h : Hp) (x1 : Option Nat) (x2 : Option Nat) (x3 : Int32), k10 h x1 x2 x3 = some (hz, rz) → Mo h hz) (i10 : ∀ (h : Hp) (x1 : Option Nat) (x2 : Option Nat) (x3 : Int32) (H : Heap) (locs : List Loc) (cells slots : Nat) (ls : Array Slot), k10 h x1 x2 x3 = some (hz, rz) → h.kd t0 = 12 → Wo D cs A s h0 h H locs cells slots → lv_has ls 7 [(0, .ref t0), (1, va_rf x1), (2, va_rf x2), (3, .int x3)] → W p l e { frames := 5, cells := mc, slots := ms, locals := 150 } s m args below meth c H locs cells slots (MQ below (Zi D cs A hz rz) args s mc ms A) (F0 m 10 ls [])) (h : Hp) (x1 : Option Nat) (x2 : Option Nat) (x3 : Int32) (hJ : B_X9_isInConflict_93 N k10 t0 h x1 x2 x3 = some (hz, rz)) (hk0 : h.kd t0 = 12) {H : Heap} {locs : List Loc} {cells slots : Nat} (w : Wo D cs A s h0 h H locs cells slots) {ls : Array Slot} (hl : lv_has ls 7 [(0, .ref t0), (1, va_rf x1), (2, va_rf x2), (3, .int x3)]) : W p l e { frames := 5, cells := mc, slots := ms, locals := 150 } s m args below meth c H locs cells slots (MQ below (Zi D cs A hz rz) args s mc ms A) (F0 m 93 ls []) := by
  obtain ⟨hx, hb, hml, hown, hts, -⟩ := id C
  unfold B_X9_isInConflict_93 at hJ
  refine lv_iinc (v := x3 + (1 : Int32)) (lv' := [(3, .int (x3 + (1 : Int32))), (0, .ref t0), (1, va_rf x1), (2, va_rf x2)]) hx hb dX9_isInConflict_93 hl (k := 3) rfl rfl (by decide) (by simp [List.filter, rf_cat, cat_i, cat_l, cat_r]) (fun ls hl => ?_)
  refine lv_goto (tgt := 10) hx hb dX9_isInConflict_96 (by decide) ?_
  exact i10 _ _ _ _ _ _ _ _ _ hJ hk0 w (lv_sub (l' := [(0, .ref t0), (1, va_rf x1), (2, va_rf x2), (3, .int (x3 + (1 : Int32)))]) hl [1, 2, 3, 0] rfl)
def B_X9_isInConflict_91 (N : Nat) (t0 : Nat) (h : Hp) : Option (Hp × Int32) := some (h, (1 : Int32))
theorem mb_X9_isInConflict_91 (N : Nat) (t0 : Nat) (h : Hp) (hJ : B_X9_isInConflict_91 N t0 h = some (hz, rz)) : Mo h hz := by
  unfold B_X9_isInConflict_91 at hJ
  obtain ⟨rfl, -⟩ := rs2 hJ
  exact ⟨fun _ _ => rfl, Nat.le_refl _, Nat.le_refl _, rfl, fun _ _ => rfl⟩
set_option maxRecDepth 100000 in
set_option maxHeartbeats 4000000 in
theorem sb_X9_isInConflict_91 (C : Cx p s m args meth c cX9_isInConflict 7 (some .boolean) RX9 D cs A h0.se) (hz2 : hz.nx ≤ h0.nx + mc ∧ hz.su ≤ h0.su + ms) (N : Nat) (t0 : Nat) (h : Hp) (hJ : B_X9_isInConflict_91 N t0 h = some (hz, rz)) (hk0 : h.kd t0 = 12) {H : Heap} {locs : List Loc} {cells slots : Nat} (w : Wo D cs A s h0 h H locs cells slots) {ls : Array Slot} (hl : lv_has ls 7 [(0, .ref t0)]) : W p l e { frames := 5, cells := mc, slots := ms, locals := 150 } s m args below meth c H locs cells slots (MQ below (Zi D cs A hz rz) args s mc ms A) (F0 m 91 ls []) := by
  obtain ⟨hx, hb, hml, hown, hts, -⟩ := id C
  unfold B_X9_isInConflict_91 at hJ
  refine lv_iconst (v := (1 : Int32)) hx hb dX9_isInConflict_91 (by decide) ?_
  obtain ⟨rfl, rfl⟩ := rs2 hJ
  exact jr_zret C w (Or.inr rfl) hz2 dX9_isInConflict_92
def B_X9_isInConflict_65 (N : Nat) (k10 : Hp → (Option Nat) → (Option Nat) → Int32 → Option (Hp × Int32)) (t0 : Nat) (h : Hp) (x1 : Option Nat) (x2 : Option Nat) (x3 : Int32) (x4 : Option Nat) (y0 : Option Nat) : Option (Hp × Int32) := nl y0 (B_X9_isInConflict_93 N k10 t0 h x1 x2 x3) (fun a1 => dr h 10 x1 (fun a2 => ck (h.kd a1 = 7) (dr h 6 x4 (fun a4 => (J_X9_blame N t0 h (1 : Int32) (h.fi 1000 a2) (h.fi 701 a1) (h.fi 600 a4)).bind (fun z => B_X9_isInConflict_91 N t0 z.1)))))
theorem mb_X9_isInConflict_65 (N : Nat) (k10 : Hp → (Option Nat) → (Option Nat) → Int32 → Option (Hp × Int32)) (t0 : Nat) (h : Hp) (x1 : Option Nat) (x2 : Option Nat) (x3 : Int32) (x4 : Option Nat) (y0 : Option Nat) (m10 : ∀ (h : Hp) (x1 : Option Nat) (x2 : Option Nat) (x3 : Int32), k10 h x1 x2 x3 = some (hz, rz) → Mo h hz) (hJ : B_X9_isInConflict_65 N k10 t0 h x1 x2 x3 x4 y0 = some (hz, rz)) : Mo h hz := by
  unfold B_X9_isInConflict_65 at hJ
  cases ea1 : y0 with
  | none =>
    have hJ := nl_none ea1 hJ
    exact mb_X9_isInConflict_93 N k10 t0 _ _ _ _ m10 hJ
  | some a1 =>
    have hJ := nl_some ea1 hJ
    obtain ⟨a2, ea2, -, hJ⟩ := dr_some hJ
    obtain ⟨-, hJ⟩ := ck_some hJ
    obtain ⟨a4, ea4, -, hJ⟩ := dr_some hJ
    obtain ⟨⟨h5, r6⟩, e7, hJ⟩ := ob_some hJ
    exact (mo_X9_blame N t0 h (1 : Int32) (h.fi 1000 a2) (h.fi 701 a1) (h.fi 600 a4) e7).tr (mb_X9_isInConflict_91 N t0 _ hJ)
set_option maxRecDepth 100000 in
set_option maxHeartbeats 4000000 in
theorem sb_X9_isInConflict_65 (C : Cx p s m args meth c cX9_isInConflict 7 (some .boolean) RX9 D cs A h0.se) (hz2 : hz.nx ≤ h0.nx + mc ∧ hz.su ≤ h0.su + ms) (N : Nat) (k10 : Hp → (Option Nat) → (Option Nat) → Int32 → Option (Hp × Int32)) (t0 : Nat) (m10 : ∀ (h : Hp) (x1 : Option Nat) (x2 : Option Nat) (x3 : Int32), k10 h x1 x2 x3 = some (hz, rz) → Mo h hz) (i10 : ∀ (h : Hp) (x1 : Option Nat) (x2 : Option Nat) (x3 : Int32) (H : Heap) (locs : List Loc) (cells slots : Nat) (ls : Array Slot), k10 h x1 x2 x3 = some (hz, rz) → h.kd t0 = 12 → Wo D cs A s h0 h H locs cells slots → lv_has ls 7 [(0, .ref t0), (1, va_rf x1), (2, va_rf x2), (3, .int x3)] → W p l e { frames := 5, cells := mc, slots := ms, locals := 150 } s m args below meth c H locs cells slots (MQ below (Zi D cs A hz rz) args s mc ms A) (F0 m 10 ls [])) (h : Hp) (x1 : Option Nat) (x2 : Option Nat) (x3 : Int32) (x4 : Option Nat) (y0 : Option Nat) (hJ : B_X9_isInConflict_65 N k10 t0 h x1 x2 x3 x4 y0 = some (hz, rz)) (hk0 : h.kd t0 = 12) {H : Heap} {locs : List Loc} {cells slots : Nat} (w : Wo D cs A s h0 h H locs cells slots) {ls : Array Slot} (hl : lv_has ls 7 [(0, .ref t0), (1, va_rf x1), (2, va_rf x2), (3, .int x3), (4, va_rf x4)]) : W p l e { frames := 5, cells := mc, slots := ms, locals := 150 } s m args below meth c H locs cells slots (MQ below (Zi D cs A hz rz) args s mc ms A) (F0 m 65 ls [va_rf y0]) := by
  obtain ⟨hx, hb, hml, hown, hts, -⟩ := id C
  unfold B_X9_isInConflict_65 at hJ
  refine jv_astore (i := 6) (lv' := [(6, va_rf y0), (0, .ref t0), (1, va_rf x1), (2, va_rf x2), (3, .int x3), (4, va_rf x4)]) hx hb dX9_isInConflict_65 hl (by decide) rfl (fun ls hl => ?_)
  refine jv_aload hx hb dX9_isInConflict_67 (lv_at hl 0 rfl) ?_
  refine jv_ifnull (tgt := 93) hx hb dX9_isInConflict_69 (by decide) (fun ea1 => ?_) (fun a1 ea1 => ?_)
  · have hJ := nl_none ea1 hJ
    exact sb_X9_isInConflict_93 C hz2 N k10 t0 m10 i10 _ _ _ _ hJ hk0 w (lv_sub (l' := [(0, .ref t0), (1, va_rf x1), (2, va_rf x2), (3, .int x3)]) hl [1, 2, 3, 4] rfl)
  · have hJ := nl_some ea1 hJ
    rw [ea1] at hl
    refine lv_aload_n hx hb dX9_isInConflict_72 rfl (lv_at hl 1 rfl) ?_
    refine lv_iconst (v := (1 : Int32)) hx hb dX9_isInConflict_73 (by decide) ?_
    refine jv_aload_n hx hb dX9_isInConflict_74 rfl (lv_at hl 2 rfl) ?_
    obtain ⟨a2, ea2, hka2, hJ⟩ := dr_some hJ
    rw [ea2] at hl
    rw [ea2]
    refine fg_1000 C w hka2 tw_2_10 dX9_isInConflict_75 ?_
    refine lv_aload hx hb dX9_isInConflict_78 (lv_at hl 0 rfl) ?_
    obtain ⟨hk3, hJ⟩ := ck_some hJ
    refine fg_701 C w hk3 tw_5_19 dX9_isInConflict_80 ?_
    refine jv_aload hx hb dX9_isInConflict_83 (lv_at hl 5 rfl) ?_
    obtain ⟨a4, ea4, hka4, hJ⟩ := dr_some hJ
    rw [ea4] at hl
    rw [ea4]
    refine fg_600 C w hka4 tw_3_151 dX9_isInConflict_85 ?_
    obtain ⟨⟨h5, r6⟩, e7, hJ⟩ := ob_some hJ
    refine jc_Vv (As := [.int (1 : Int32), .int (h.fi 1000 a2), .int (h.fi 701 a1), .int (h.fi 600 a4)]) C w (cc_X9_blame N t0 h (1 : Int32) (h.fi 1000 a2) (h.fi 701 a1) (h.fi 600 a4) hk0 e7) (mo_X9_blame N t0 h (1 : Int32) (h.fi 1000 a2) (h.fi 701 a1) (h.fi 600 a4) e7) (mb_X9_isInConflict_91 N t0 _ hJ) hz2 hk0 (by decide) rfl (fs := fs12 h t0) rfl rfl ⟨tw_5_199, tw_5_196, tw_5_198, ts_23, tw_1_1⟩ cd_X9_blame ⟨by decide, by decide⟩ hl.1 (by first | exact Nat.le_of_ble_eq_true rfl | simp [rf_cat, cat_i, cat_l, cat_r]) rfl dX9_isInConflict_88 (fun H locs w1 => ?_)
    have hk8 := kd_keep w (mo_X9_blame N t0 h (1 : Int32) (h.fi 1000 a2) (h.fi 701 a1) (h.fi 600 a4) e7) hk0 (by decide)
    have w := w1
    exact sb_X9_isInConflict_91 C hz2 N t0 _ hJ hk8 w (lv_sub (l' := [(0, .ref t0)]) hl [1] rfl)
def B_X9_isInConflict_45 (N : Nat) (k10 : Hp → (Option Nat) → (Option Nat) → Int32 → Option (Hp × Int32)) (t0 : Nat) (h : Hp) (x1 : Option Nat) (x2 : Option Nat) (x3 : Int32) (x4 : Option Nat) (y0 : Option Nat) : Option (Hp × Int32) := nl y0 (B_X9_isInConflict_65 N k10 t0 h x1 x2 x3 x4 none) (fun a9 => dr h 10 x1 (fun a10 => ck (h.kd a9 = 6) ((J_X3_firstAfter N a9 h (h.fi 1001 a10)).bind (fun z => B_X9_isInConflict_65 N k10 t0 z.1 (some a10) x2 x3 x4 z.2))))
theorem mb_X9_isInConflict_45 (N : Nat) (k10 : Hp → (Option Nat) → (Option Nat) → Int32 → Option (Hp × Int32)) (t0 : Nat) (h : Hp) (x1 : Option Nat) (x2 : Option Nat) (x3 : Int32) (x4 : Option Nat) (y0 : Option Nat) (m10 : ∀ (h : Hp) (x1 : Option Nat) (x2 : Option Nat) (x3 : Int32), k10 h x1 x2 x3 = some (hz, rz) → Mo h hz) (hJ : B_X9_isInConflict_45 N k10 t0 h x1 x2 x3 x4 y0 = some (hz, rz)) : Mo h hz := by
  unfold B_X9_isInConflict_45 at hJ
  cases ea9 : y0 with
  | none =>
    have hJ := nl_none ea9 hJ
    exact mb_X9_isInConflict_65 N k10 t0 _ _ _ _ _ _ m10 hJ
  | some a9 =>
    have hJ := nl_some ea9 hJ
    obtain ⟨a10, ea10, -, hJ⟩ := dr_some hJ
    obtain ⟨-, hJ⟩ := ck_some hJ
    obtain ⟨⟨h12, r13⟩, e14, hJ⟩ := ob_some hJ
    exact (mo_X3_firstAfter N a9 h (h.fi 1001 a10) e14).tr (mb_X9_isInConflict_65 N k10 t0 _ _ _ _ _ _ m10 hJ)
set_option maxRecDepth 100000 in
set_option maxHeartbeats 4000000 in
theorem sb_X9_isInConflict_45 (C : Cx p s m args meth c cX9_isInConflict 7 (some .boolean) RX9 D cs A h0.se) (hz2 : hz.nx ≤ h0.nx + mc ∧ hz.su ≤ h0.su + ms) (N : Nat) (k10 : Hp → (Option Nat) → (Option Nat) → Int32 → Option (Hp × Int32)) (t0 : Nat) (m10 : ∀ (h : Hp) (x1 : Option Nat) (x2 : Option Nat) (x3 : Int32), k10 h x1 x2 x3 = some (hz, rz) → Mo h hz) (i10 : ∀ (h : Hp) (x1 : Option Nat) (x2 : Option Nat) (x3 : Int32) (H : Heap) (locs : List Loc) (cells slots : Nat) (ls : Array Slot), k10 h x1 x2 x3 = some (hz, rz) → h.kd t0 = 12 → Wo D cs A s h0 h H locs cells slots → lv_has ls 7 [(0, .ref t0), (1, va_rf x1), (2, va_rf x2), (3, .int x3)] → W p l e { frames := 5, cells := mc, slots := ms, locals := 150 } s m args below meth c H locs cells slots (MQ below (Zi D cs A hz rz) args s mc ms A) (F0 m 10 ls [])) (h : Hp) (x1 : Option Nat) (x2 : Option Nat) (x3 : Int32) (x4 : Option Nat) (y0 : Option Nat) (hJ : B_X9_isInConflict_45 N k10 t0 h x1 x2 x3 x4 y0 = some (hz, rz)) (hk0 : h.kd t0 = 12) {H : Heap} {locs : List Loc} {cells slots : Nat} (w : Wo D cs A s h0 h H locs cells slots) {ls : Array Slot} (hl : lv_has ls 7 [(0, .ref t0), (1, va_rf x1), (2, va_rf x2), (3, .int x3), (4, va_rf x4)]) : W p l e { frames := 5, cells := mc, slots := ms, locals := 150 } s m args below meth c H locs cells slots (MQ below (Zi D cs A hz rz) args s mc ms A) (F0 m 45 ls [va_rf y0]) := by
  obtain ⟨hx, hb, hml, hown, hts, -⟩ := id C
  unfold B_X9_isInConflict_45 at hJ
  refine jv_astore (i := 5) (lv' := [(5, va_rf y0), (0, .ref t0), (1, va_rf x1), (2, va_rf x2), (3, .int x3), (4, va_rf x4)]) hx hb dX9_isInConflict_45 hl (by decide) (by simp [List.filter, rf_cat, cat_i, cat_l, cat_r]) (fun ls hl => ?_)
  refine jv_aload hx hb dX9_isInConflict_47 (lv_at hl 0 rfl) ?_
  refine jv_ifnonnull (tgt := 56) hx hb dX9_isInConflict_49 (by decide) (fun a9 ea9 => ?_) (fun ea9 => ?_)
  · have hJ := nl_some ea9 hJ
    rw [ea9] at hl
    refine lv_aload hx hb dX9_isInConflict_56 (lv_at hl 0 rfl) ?_
    refine jv_aload_n hx hb dX9_isInConflict_58 rfl (lv_at hl 2 rfl) ?_
    obtain ⟨a10, ea10, hka10, hJ⟩ := dr_some hJ
    rw [ea10] at hl
    rw [ea10]
    refine fg_1001 C w hka10 tw_2_14 dX9_isInConflict_59 ?_
    obtain ⟨hk11, hJ⟩ := ck_some hJ
    obtain ⟨⟨h12, r13⟩, e14, hJ⟩ := ob_some hJ
    refine jc_Vq (As := [.int (h.fi 1001 a10)]) C w (cc_X3_firstAfter N a9 h (h.fi 1001 a10) hk11 e14) (mo_X3_firstAfter N a9 h (h.fi 1001 a10) e14) (mb_X9_isInConflict_65 N k10 t0 _ _ _ _ _ _ m10 hJ) hz2 hk11 (by decide) rfl (fs := fs6 h a9) rfl rfl ⟨tw_3_60, tw_6_123, tw_3_58, tw_3_59, tw_1_22⟩ cd_X3_firstAfter ⟨by decide, by decide⟩ hl.1 (by first | exact Nat.le_of_ble_eq_true rfl | simp [rf_cat, cat_i, cat_l, cat_r]) rfl dX9_isInConflict_62 (fun H locs w1 => ?_)
    have hk15 := kd_keep w (mo_X3_firstAfter N a9 h (h.fi 1001 a10) e14) hk0 (by decide)
    have w := w1
    exact sb_X9_isInConflict_65 C hz2 N k10 t0 m10 i10 _ _ _ _ _ _ hJ hk15 w (lv_sub (l' := [(0, .ref t0), (1, .ref a10), (2, va_rf x2), (3, .int x3), (4, va_rf x4)]) hl [1, 2, 3, 4, 5] rfl)
  · have hJ := nl_none ea9 hJ
    refine lv_null hx hb dX9_isInConflict_52 ?_
    change W _ _ _ _ _ _ _ _ _ _ _ _ _ _ _ (F0 m 53 ls [va_rf none])
    refine lv_goto (tgt := 65) hx hb dX9_isInConflict_53 (by decide) ?_
    exact sb_X9_isInConflict_65 C hz2 N k10 t0 m10 i10 _ _ _ _ _ _ hJ hk0 w (lv_sub (l' := [(0, .ref t0), (1, va_rf x1), (2, va_rf x2), (3, .int x3), (4, va_rf x4)]) hl [1, 2, 3, 4, 5] rfl)
def B_X9_isInConflict_23 (N : Nat) (k10 : Hp → (Option Nat) → (Option Nat) → Int32 → Option (Hp × Int32)) (t0 : Nat) (h : Hp) (x1 : Option Nat) (x2 : Option Nat) (x3 : Int32) (y0 : Option Nat) : Option (Hp × Int32) := nl y0 (B_X9_isInConflict_93 N k10 t0 h x1 x2 x3) (fun a16 => ck (h.kd a16 = 6) (dr h 8 (h.fr 1200 t0) (fun a18 => (J_X5_find N a18 h (h.fi 600 a16)).bind (fun z => B_X9_isInConflict_45 N k10 t0 z.1 x1 x2 x3 (some a16) z.2))))
theorem mb_X9_isInConflict_23 (N : Nat) (k10 : Hp → (Option Nat) → (Option Nat) → Int32 → Option (Hp × Int32)) (t0 : Nat) (h : Hp) (x1 : Option Nat) (x2 : Option Nat) (x3 : Int32) (y0 : Option Nat) (m10 : ∀ (h : Hp) (x1 : Option Nat) (x2 : Option Nat) (x3 : Int32), k10 h x1 x2 x3 = some (hz, rz) → Mo h hz) (hJ : B_X9_isInConflict_23 N k10 t0 h x1 x2 x3 y0 = some (hz, rz)) : Mo h hz := by
  unfold B_X9_isInConflict_23 at hJ
  cases ea16 : y0 with
  | none =>
    have hJ := nl_none ea16 hJ
    exact mb_X9_isInConflict_93 N k10 t0 _ _ _ _ m10 hJ
  | some a16 =>
    have hJ := nl_some ea16 hJ
    obtain ⟨-, hJ⟩ := ck_some hJ
    obtain ⟨a18, ea18, -, hJ⟩ := dr_some hJ
    obtain ⟨⟨h19, r20⟩, e21, hJ⟩ := ob_some hJ
    exact (mo_X5_find N a18 h (h.fi 600 a16) e21).tr (mb_X9_isInConflict_45 N k10 t0 _ _ _ _ _ _ m10 hJ)
set_option maxRecDepth 100000 in
set_option maxHeartbeats 4000000 in
theorem sb_X9_isInConflict_23 (C : Cx p s m args meth c cX9_isInConflict 7 (some .boolean) RX9 D cs A h0.se) (hz2 : hz.nx ≤ h0.nx + mc ∧ hz.su ≤ h0.su + ms) (N : Nat) (k10 : Hp → (Option Nat) → (Option Nat) → Int32 → Option (Hp × Int32)) (t0 : Nat) (m10 : ∀ (h : Hp) (x1 : Option Nat) (x2 : Option Nat) (x3 : Int32), k10 h x1 x2 x3 = some (hz, rz) → Mo h hz) (i10 : ∀ (h : Hp) (x1 : Option Nat) (x2 : Option Nat) (x3 : Int32) (H : Heap) (locs : List Loc) (cells slots : Nat) (ls : Array Slot), k10 h x1 x2 x3 = some (hz, rz) → h.kd t0 = 12 → Wo D cs A s h0 h H locs cells slots → lv_has ls 7 [(0, .ref t0), (1, va_rf x1), (2, va_rf x2), (3, .int x3)] → W p l e { frames := 5, cells := mc, slots := ms, locals := 150 } s m args below meth c H locs cells slots (MQ below (Zi D cs A hz rz) args s mc ms A) (F0 m 10 ls [])) (h : Hp) (x1 : Option Nat) (x2 : Option Nat) (x3 : Int32) (y0 : Option Nat) (hJ : B_X9_isInConflict_23 N k10 t0 h x1 x2 x3 y0 = some (hz, rz)) (hk0 : h.kd t0 = 12) {H : Heap} {locs : List Loc} {cells slots : Nat} (w : Wo D cs A s h0 h H locs cells slots) {ls : Array Slot} (hl : lv_has ls 7 [(0, .ref t0), (1, va_rf x1), (2, va_rf x2), (3, .int x3)]) : W p l e { frames := 5, cells := mc, slots := ms, locals := 150 } s m args below meth c H locs cells slots (MQ below (Zi D cs A hz rz) args s mc ms A) (F0 m 23 ls [va_rf y0]) := by
  obtain ⟨hx, hb, hml, hown, hts, -⟩ := id C
  unfold B_X9_isInConflict_23 at hJ
  refine jv_astore (i := 4) (lv' := [(4, va_rf y0), (0, .ref t0), (1, va_rf x1), (2, va_rf x2), (3, .int x3)]) hx hb dX9_isInConflict_23 hl (by decide) rfl (fun ls hl => ?_)
  refine jv_aload hx hb dX9_isInConflict_25 (lv_at hl 0 rfl) ?_
  refine jv_ifnonnull (tgt := 33) hx hb dX9_isInConflict_27 (by decide) (fun a16 ea16 => ?_) (fun ea16 => ?_)
  · have hJ := nl_some ea16 hJ
    rw [ea16] at hl
    refine lv_aload_n hx hb dX9_isInConflict_33 rfl (lv_at hl 1 rfl) ?_
    refine fg_1200 C w hk0 tw_1_132 dX9_isInConflict_34 ?_
    refine lv_aload hx hb dX9_isInConflict_37 (lv_at hl 0 rfl) ?_
    obtain ⟨hk17, hJ⟩ := ck_some hJ
    refine fg_600 C w hk17 tw_3_151 dX9_isInConflict_39 ?_
    obtain ⟨a18, ea18, hka18, hJ⟩ := dr_some hJ
    rw [ea18]
    obtain ⟨⟨h19, r20⟩, e21, hJ⟩ := ob_some hJ
    refine jc_Vq (As := [.int (h.fi 600 a16)]) C w (cc_X5_find N a18 h (h.fi 600 a16) hka18 e21) (mo_X5_find N a18 h (h.fi 600 a16) e21) (mb_X9_isInConflict_45 N k10 t0 _ _ _ _ _ _ m10 hJ) hz2 hka18 (by decide) rfl (fs := fs8 h a18) rfl rfl ⟨tw_2_202, tw_2_199, tw_2_200, tw_2_201, tw_1_2⟩ cd_X5_find ⟨by decide, by decide⟩ hl.1 (by first | exact Nat.le_of_ble_eq_true rfl | simp [rf_cat, cat_i, cat_l, cat_r]) rfl dX9_isInConflict_42 (fun H locs w1 => ?_)
    have hk22 := kd_keep w (mo_X5_find N a18 h (h.fi 600 a16) e21) hk0 (by decide)
    have w := w1
    exact sb_X9_isInConflict_45 C hz2 N k10 t0 m10 i10 _ _ _ _ _ _ hJ hk22 w (lv_sub (l' := [(0, .ref t0), (1, va_rf x1), (2, va_rf x2), (3, .int x3), (4, .ref a16)]) hl [1, 2, 3, 4, 0] rfl)
  · have hJ := nl_none ea16 hJ
    refine lv_goto (tgt := 93) hx hb dX9_isInConflict_30 (by decide) ?_
    exact sb_X9_isInConflict_93 C hz2 N k10 t0 m10 i10 _ _ _ _ hJ hk0 w (lv_sub (l' := [(0, .ref t0), (1, va_rf x1), (2, va_rf x2), (3, .int x3)]) hl [1, 2, 3, 4] rfl)
def B_X9_isInConflict_15 (N : Nat) (k10 : Hp → (Option Nat) → (Option Nat) → Int32 → Option (Hp × Int32)) (t0 : Nat) (h : Hp) (x1 : Option Nat) (x2 : Option Nat) (x3 : Int32) (y0 : Int32) (y1 : Int32) : Option (Hp × Int32) := if y1 ≤ y0 then (some (h, (0 : Int32))) else (dr h 8 x2 (fun a24 => (J_X5_chainAt N a24 h x3).bind (fun z => B_X9_isInConflict_23 N k10 t0 z.1 x1 (some a24) x3 z.2)))
theorem mb_X9_isInConflict_15 (N : Nat) (k10 : Hp → (Option Nat) → (Option Nat) → Int32 → Option (Hp × Int32)) (t0 : Nat) (h : Hp) (x1 : Option Nat) (x2 : Option Nat) (x3 : Int32) (y0 : Int32) (y1 : Int32) (m10 : ∀ (h : Hp) (x1 : Option Nat) (x2 : Option Nat) (x3 : Int32), k10 h x1 x2 x3 = some (hz, rz) → Mo h hz) (hJ : B_X9_isInConflict_15 N k10 t0 h x1 x2 x3 y0 y1 = some (hz, rz)) : Mo h hz := by
  unfold B_X9_isInConflict_15 at hJ
  by_cases c23 : y1 ≤ y0
  · have hJ := it_pos c23 hJ
    obtain ⟨rfl, -⟩ := rs2 hJ
    exact ⟨fun _ _ => rfl, Nat.le_refl _, Nat.le_refl _, rfl, fun _ _ => rfl⟩
  · have hJ := it_neg c23 hJ
    obtain ⟨a24, ea24, -, hJ⟩ := dr_some hJ
    obtain ⟨⟨h25, r26⟩, e27, hJ⟩ := ob_some hJ
    exact (mo_X5_chainAt N a24 h x3 e27).tr (mb_X9_isInConflict_23 N k10 t0 _ _ _ _ _ m10 hJ)
set_option maxRecDepth 100000 in
set_option maxHeartbeats 4000000 in
theorem sb_X9_isInConflict_15 (C : Cx p s m args meth c cX9_isInConflict 7 (some .boolean) RX9 D cs A h0.se) (hz2 : hz.nx ≤ h0.nx + mc ∧ hz.su ≤ h0.su + ms) (N : Nat) (k10 : Hp → (Option Nat) → (Option Nat) → Int32 → Option (Hp × Int32)) (t0 : Nat) (m10 : ∀ (h : Hp) (x1 : Option Nat) (x2 : Option Nat) (x3 : Int32), k10 h x1 x2 x3 = some (hz, rz) → Mo h hz) (i10 : ∀ (h : Hp) (x1 : Option Nat) (x2 : Option Nat) (x3 : Int32) (H : Heap) (locs : List Loc) (cells slots : Nat) (ls : Array Slot), k10 h x1 x2 x3 = some (hz, rz) → h.kd t0 = 12 → Wo D cs A s h0 h H locs cells slots → lv_has ls 7 [(0, .ref t0), (1, va_rf x1), (2, va_rf x2), (3, .int x3)] → W p l e { frames := 5, cells := mc, slots := ms, locals := 150 } s m args below meth c H locs cells slots (MQ below (Zi D cs A hz rz) args s mc ms A) (F0 m 10 ls [])) (h : Hp) (x1 : Option Nat) (x2 : Option Nat) (x3 : Int32) (y0 : Int32) (y1 : Int32) (hJ : B_X9_isInConflict_15 N k10 t0 h x1 x2 x3 y0 y1 = some (hz, rz)) (hk0 : h.kd t0 = 12) {H : Heap} {locs : List Loc} {cells slots : Nat} (w : Wo D cs A s h0 h H locs cells slots) {ls : Array Slot} (hl : lv_has ls 7 [(0, .ref t0), (1, va_rf x1), (2, va_rf x2), (3, .int x3)]) : W p l e { frames := 5, cells := mc, slots := ms, locals := 150 } s m args below meth c H locs cells slots (MQ below (Zi D cs A hz rz) args s mc ms A) (F0 m 15 ls [.int y1, .int y0]) := by
  obtain ⟨hx, hb, hml, hown, hts, -⟩ := id C
  unfold B_X9_isInConflict_15 at hJ
  refine lv_icmp_ge (tgt := 99) hx hb dX9_isInConflict_15 (by decide) (fun c23 => ?_) (fun c23 => ?_)
  · have hJ := it_pos c23 hJ
    refine lv_iconst (v := (0 : Int32)) hx hb dX9_isInConflict_99 (by decide) ?_
    obtain ⟨rfl, rfl⟩ := rs2 hJ
    exact jr_zret C w (Or.inl rfl) hz2 dX9_isInConflict_100
  · have hJ := it_neg c23 hJ
    refine jv_aload_n hx hb dX9_isInConflict_18 rfl (lv_at hl 2 rfl) ?_
    refine lv_iload_n hx hb dX9_isInConflict_19 rfl (lv_at hl 3 rfl) ?_
    obtain ⟨a24, ea24, hka24, hJ⟩ := dr_some hJ
    rw [ea24] at hl
    rw [ea24]
    obtain ⟨⟨h25, r26⟩, e27, hJ⟩ := ob_some hJ
    refine jc_Vq (As := [.int x3]) C w (cc_X5_chainAt N a24 h x3 hka24 e27) (mo_X5_chainAt N a24 h x3 e27) (mb_X9_isInConflict_23 N k10 t0 _ _ _ _ _ m10 hJ) hz2 hka24 (by decide) rfl (fs := fs8 h a24) rfl rfl ⟨tw_2_212, tw_2_237, tw_2_210, tw_2_211, tw_1_2⟩ cd_X5_chainAt ⟨by decide, by decide⟩ hl.1 (by first | exact Nat.le_of_ble_eq_true rfl | simp [rf_cat, cat_i, cat_l, cat_r]) rfl dX9_isInConflict_20 (fun H locs w1 => ?_)
    have hk28 := kd_keep w (mo_X5_chainAt N a24 h x3 e27) hk0 (by decide)
    have w := w1
    exact sb_X9_isInConflict_23 C hz2 N k10 t0 m10 i10 _ _ _ _ _ hJ hk28 w hl
def B_X9_isInConflict_10 (N : Nat) (k10 : Hp → (Option Nat) → (Option Nat) → Int32 → Option (Hp × Int32)) (t0 : Nat) (h : Hp) (x1 : Option Nat) (x2 : Option Nat) (x3 : Int32) : Option (Hp × Int32) := dr h 8 x2 (fun a29 => (J_X5_size N a29 h).bind (fun z => B_X9_isInConflict_15 N k10 t0 z.1 x1 (some a29) x3 x3 z.2))
theorem mb_X9_isInConflict_10 (N : Nat) (k10 : Hp → (Option Nat) → (Option Nat) → Int32 → Option (Hp × Int32)) (t0 : Nat) (h : Hp) (x1 : Option Nat) (x2 : Option Nat) (x3 : Int32) (m10 : ∀ (h : Hp) (x1 : Option Nat) (x2 : Option Nat) (x3 : Int32), k10 h x1 x2 x3 = some (hz, rz) → Mo h hz) (hJ : B_X9_isInConflict_10 N k10 t0 h x1 x2 x3 = some (hz, rz)) : Mo h hz := by
  unfold B_X9_isInConflict_10 at hJ
  obtain ⟨a29, ea29, -, hJ⟩ := dr_some hJ
  obtain ⟨⟨h30, r31⟩, e32, hJ⟩ := ob_some hJ
  exact (mo_X5_size N a29 h e32).tr (mb_X9_isInConflict_15 N k10 t0 _ _ _ _ _ _ m10 hJ)
set_option maxRecDepth 100000 in
set_option maxHeartbeats 4000000 in
theorem sb_X9_isInConflict_10 (C : Cx p s m args meth c cX9_isInConflict 7 (some .boolean) RX9 D cs A h0.se) (hz2 : hz.nx ≤ h0.nx + mc ∧ hz.su ≤ h0.su + ms) (N : Nat) (k10 : Hp → (Option Nat) → (Option Nat) → Int32 → Option (Hp × Int32)) (t0 : Nat) (m10 : ∀ (h : Hp) (x1 : Option Nat) (x2 : Option Nat) (x3 : Int32), k10 h x1 x2 x3 = some (hz, rz) → Mo h hz) (i10 : ∀ (h : Hp) (x1 : Option Nat) (x2 : Option Nat) (x3 : Int32) (H : Heap) (locs : List Loc) (cells slots : Nat) (ls : Array Slot), k10 h x1 x2 x3 = some (hz, rz) → h.kd t0 = 12 → Wo D cs A s h0 h H locs cells slots → lv_has ls 7 [(0, .ref t0), (1, va_rf x1), (2, va_rf x2), (3, .int x3)] → W p l e { frames := 5, cells := mc, slots := ms, locals := 150 } s m args below meth c H locs cells slots (MQ below (Zi D cs A hz rz) args s mc ms A) (F0 m 10 ls [])) (h : Hp) (x1 : Option Nat) (x2 : Option Nat) (x3 : Int32) (hJ : B_X9_isInConflict_10 N k10 t0 h x1 x2 x3 = some (hz, rz)) (hk0 : h.kd t0 = 12) {H : Heap} {locs : List Loc} {cells slots : Nat} (w : Wo D cs A s h0 h H locs cells slots) {ls : Array Slot} (hl : lv_has ls 7 [(0, .ref t0), (1, va_rf x1), (2, va_rf x2), (3, .int x3)]) : W p l e { frames := 5, cells := mc, slots := ms, locals := 150 } s m args below meth c H locs cells slots (MQ below (Zi D cs A hz rz) args s mc ms A) (F0 m 10 ls []) := by
  obtain ⟨hx, hb, hml, hown, hts, -⟩ := id C
  unfold B_X9_isInConflict_10 at hJ
  refine lv_iload_n hx hb dX9_isInConflict_10 rfl (lv_at hl 3 rfl) ?_
  refine jv_aload_n hx hb dX9_isInConflict_11 rfl (lv_at hl 2 rfl) ?_
  obtain ⟨a29, ea29, hka29, hJ⟩ := dr_some hJ
  rw [ea29] at hl
  rw [ea29]
  obtain ⟨⟨h30, r31⟩, e32, hJ⟩ := ob_some hJ
  refine jc_Vi (As := []) C w (cc_X5_size N a29 h hka29 e32) (mo_X5_size N a29 h e32) (mb_X9_isInConflict_15 N k10 t0 _ _ _ _ _ _ m10 hJ) hz2 hka29 (by decide) rfl (fs := fs8 h a29) rfl rfl ⟨tw_2_181, tw_2_178, tw_2_179, tw_2_180, tw_1_2⟩ cd_X5_size ⟨by decide, by decide⟩ hl.1 (by first | exact Nat.le_of_ble_eq_true rfl | simp [rf_cat, cat_i, cat_l, cat_r]) rfl dX9_isInConflict_12 (fun H locs w1 => ?_)
  have hk33 := kd_keep w (mo_X5_size N a29 h e32) hk0 (by decide)
  have w := w1
  exact sb_X9_isInConflict_15 C hz2 N k10 t0 m10 i10 _ _ _ _ _ _ hJ hk33 w hl
def L_X9_isInConflict_10 (N : Nat) (t0 : Nat) : Nat → Hp → (Option Nat) → (Option Nat) → Int32 → Option (Hp × Int32)
  | 0 => fun _ _ _ _ => none
  | n + 1 => fun h x1 x2 x3 => B_X9_isInConflict_10 N (L_X9_isInConflict_10 N t0 n) t0 h x1 x2 x3
theorem ml_X9_isInConflict_10 (N : Nat) (t0 : Nat) : ∀ (n : Nat) (h : Hp) (x1 : Option Nat) (x2 : Option Nat) (x3 : Int32), L_X9_isInConflict_10 N t0 n h x1 x2 x3 = some (hz, rz) → Mo h hz := by
  intro n
  induction n with
  | zero => intro h x1 x2 x3 hJ; cases hJ
  | succ n ih => intro h x1 x2 x3 hJ; exact mb_X9_isInConflict_10 N (L_X9_isInConflict_10 N t0 n) t0 h x1 x2 x3 ih hJ
theorem sl_X9_isInConflict_10 (C : Cx p s m args meth c cX9_isInConflict 7 (some .boolean) RX9 D cs A h0.se) (hz2 : hz.nx ≤ h0.nx + mc ∧ hz.su ≤ h0.su + ms) (N : Nat) (t0 : Nat) : ∀ n : Nat, ∀ (h : Hp) (x1 : Option Nat) (x2 : Option Nat) (x3 : Int32) (H : Heap) (locs : List Loc) (cells slots : Nat) (ls : Array Slot), L_X9_isInConflict_10 N t0 n h x1 x2 x3 = some (hz, rz) → h.kd t0 = 12 → Wo D cs A s h0 h H locs cells slots → lv_has ls 7 [(0, .ref t0), (1, va_rf x1), (2, va_rf x2), (3, .int x3)] → W p l e { frames := 5, cells := mc, slots := ms, locals := 150 } s m args below meth c H locs cells slots (MQ below (Zi D cs A hz rz) args s mc ms A) (F0 m 10 ls []) := by
  intro n
  induction n with
  | zero => intro h x1 x2 x3 H locs cells slots ls hJ; cases hJ
  | succ n ih =>
    intro h x1 x2 x3 H locs cells slots ls hJ hk0 w hl
    exact sb_X9_isInConflict_10 C hz2 N (L_X9_isInConflict_10 N t0 n) t0 (ml_X9_isInConflict_10 N t0 n) ih h x1 x2 x3 hJ hk0 w hl
def B_X9_isInConflict_0 (N : Nat) (t0 : Nat) (h : Hp) (x1 : Option Nat) : Option (Hp × Int32) := dr h 10 x1 (fun a34 => dr h 11 (h.fr 1002 a34) (fun a35 => L_X9_isInConflict_10 N t0 N h (some a34) (h.fr 1103 a35) (0 : Int32)))
theorem mb_X9_isInConflict_0 (N : Nat) (t0 : Nat) (h : Hp) (x1 : Option Nat) (hJ : B_X9_isInConflict_0 N t0 h x1 = some (hz, rz)) : Mo h hz := by
  unfold B_X9_isInConflict_0 at hJ
  obtain ⟨a34, ea34, -, hJ⟩ := dr_some hJ
  obtain ⟨a35, ea35, -, hJ⟩ := dr_some hJ
  exact ml_X9_isInConflict_10 N t0 N _ _ _ _ hJ
set_option maxRecDepth 100000 in
set_option maxHeartbeats 4000000 in
theorem sb_X9_isInConflict_0 (C : Cx p s m args meth c cX9_isInConflict 7 (some .boolean) RX9 D cs A h0.se) (hz2 : hz.nx ≤ h0.nx + mc ∧ hz.su ≤ h0.su + ms) (N : Nat) (t0 : Nat) (h : Hp) (x1 : Option Nat) (hJ : B_X9_isInConflict_0 N t0 h x1 = some (hz, rz)) (hk0 : h.kd t0 = 12) {H : Heap} {locs : List Loc} {cells slots : Nat} (w : Wo D cs A s h0 h H locs cells slots) {ls : Array Slot} (hl : lv_has ls 7 [(0, .ref t0), (1, va_rf x1)]) : W p l e { frames := 5, cells := mc, slots := ms, locals := 150 } s m args below meth c H locs cells slots (MQ below (Zi D cs A hz rz) args s mc ms A) (F0 m 0 ls []) := by
  obtain ⟨hx, hb, hml, hown, hts, -⟩ := id C
  unfold B_X9_isInConflict_0 at hJ
  refine jv_aload_n hx hb dX9_isInConflict_0 rfl (lv_at hl 1 rfl) ?_
  obtain ⟨a34, ea34, hka34, hJ⟩ := dr_some hJ
  rw [ea34] at hl
  rw [ea34]
  refine fg_1002 C w hka34 tw_2_16 dX9_isInConflict_1 ?_
  obtain ⟨a35, ea35, hka35, hJ⟩ := dr_some hJ
  rw [ea35]
  refine fg_1103 C w hka35 tw_1_201 dX9_isInConflict_4 ?_
  refine jv_astore_n (i := 2) (lv' := [(2, va_rf (h.fr 1103 a35)), (0, .ref t0), (1, .ref a34)]) hx hb dX9_isInConflict_7 rfl hl (by decide) rfl (fun ls hl => ?_)
  refine lv_iconst (v := (0 : Int32)) hx hb dX9_isInConflict_8 (by decide) ?_
  refine lv_istore_n (i := 3) (lv' := [(3, .int (0 : Int32)), (2, va_rf (h.fr 1103 a35)), (0, .ref t0), (1, .ref a34)]) hx hb dX9_isInConflict_9 rfl hl (by decide) (by simp [List.filter, rf_cat, cat_i, cat_l, cat_r]) (fun ls hl => ?_)
  exact sl_X9_isInConflict_10 C hz2 N t0 N _ _ _ _ _ _ _ _ _ hJ hk0 w (lv_sub (l' := [(0, .ref t0), (1, .ref a34), (2, va_rf (h.fr 1103 a35)), (3, .int (0 : Int32))]) hl [2, 3, 1, 0] rfl)
def J_X9_isInConflict (N : Nat) (t0 : Nat) (h : Hp) (x1 : Option Nat) : Option (Hp × Int32) := B_X9_isInConflict_0 N t0 h x1
theorem mo_X9_isInConflict (N : Nat) (t0 : Nat) (h : Hp) (x1 : Option Nat) (hJ : J_X9_isInConflict N t0 h x1 = some (hz, rz)) : Mo h hz := mb_X9_isInConflict_0 N t0 h x1 hJ
theorem cd_X9_isInConflict : Cd yX9_isInConflict 1 := ⟨by decide +kernel, by decide +kernel, by decide +kernel⟩
theorem cc_X9_isInConflict (N : Nat) (t0 : Nat) (h : Hp) (x1 : Option Nat) (hk0 : h.kd t0 = 12) (hJ : J_X9_isInConflict N t0 h x1 = some (hz, rz)) : Ci l yX9_isInConflict cX9_isInConflict 7 (some .boolean) 5 150 D cs h hz [.ref t0, va_rf x1] rz := by
  intro mc ms g1 g2
  refine je_any (by decide) (by simp [lg_sl, rf_cat, cat_i, cat_l, cat_r]) ?_
  intro p e s m args below meth c C hin2 w ls hl
  have hl : lv_has ls 7 [(0, .ref t0), (1, va_rf x1)] := by simpa [lv_args, rf_cat, cat_i, cat_l, cat_r] using hl
  exact sb_X9_isInConflict_0 C ⟨g1, g2⟩ N t0 h x1 hJ hk0 w hl
end G_X9_isInConflict
section G_X9_isInDanger
variable {p : Program} {l : Launch} {e : Env} {s : State} {m : MethodId} {args : Array Value} {below : List Frame} {meth : Method} {c : Code} {D : va_G} {cs : C4} {A : Nat → Prop} {h0 hz : Hp} {mc ms : Nat} {rz : Int32}
def B_X9_isInDanger_59 (N : Nat) (k4 : Hp → (Option Nat) → (Option Nat) → Int32 → Option (Hp × Int32)) (t0 : Nat) (h : Hp) (x1 : Option Nat) (x2 : Option Nat) (x3 : Int32) : Option (Hp × Int32) := k4 h x1 x2 (x3 + (1 : Int32))
theorem mb_X9_isInDanger_59 (N : Nat) (k4 : Hp → (Option Nat) → (Option Nat) → Int32 → Option (Hp × Int32)) (t0 : Nat) (h : Hp) (x1 : Option Nat) (x2 : Option Nat) (x3 : Int32) (m4 : ∀ (h : Hp) (x1 : Option Nat) (x2 : Option Nat) (x3 : Int32), k4 h x1 x2 x3 = some (hz, rz) → Mo h hz) (hJ : B_X9_isInDanger_59 N k4 t0 h x1 x2 x3 = some (hz, rz)) : Mo h hz := by
  unfold B_X9_isInDanger_59 at hJ
  exact m4 _ _ _ _ hJ
set_option maxRecDepth 100000 in
set_option maxHeartbeats 4000000 in
theorem sb_X9_isInDanger_59 (C : Cx p s m args meth c cX9_isInDanger 5 (some .boolean) RX9 D cs A h0.se) (hz2 : hz.nx ≤ h0.nx + mc ∧ hz.su ≤ h0.su + ms) (N : Nat) (k4 : Hp → (Option Nat) → (Option Nat) → Int32 → Option (Hp × Int32)) (t0 : Nat) (m4 : ∀ (h : Hp) (x1 : Option Nat) (x2 : Option Nat) (x3 : Int32), k4 h x1 x2 x3 = some (hz, rz) → Mo h hz) (i4 : ∀ (h : Hp) (x1 : Option Nat) (x2 : Option Nat) (x3 : Int32) (H : Heap) (locs : List Loc) (cells slots : Nat) (ls : Array Slot), k4 h x1 x2 x3 = some (hz, rz) → h.kd t0 = 12 → Wo D cs A s h0 h H locs cells slots → lv_has ls 5 [(0, .ref t0), (1, va_rf x1), (2, va_rf x2), (3, .int x3)] → W p l e { frames := 5, cells := mc, slots := ms, locals := 150 } s m args below meth c H locs cells slots (MQ below (Zi D cs A hz rz) args s mc ms A) (F0 m 4 ls [])) (h : Hp) (x1 : Option Nat) (x2 : Option Nat) (x3 : Int32) (hJ : B_X9_isInDanger_59 N k4 t0 h x1 x2 x3 = some (hz, rz)) (hk0 : h.kd t0 = 12) {H : Heap} {locs : List Loc} {cells slots : Nat} (w : Wo D cs A s h0 h H locs cells slots) {ls : Array Slot} (hl : lv_has ls 5 [(0, .ref t0), (1, va_rf x1), (2, va_rf x2), (3, .int x3)]) : W p l e { frames := 5, cells := mc, slots := ms, locals := 150 } s m args below meth c H locs cells slots (MQ below (Zi D cs A hz rz) args s mc ms A) (F0 m 59 ls []) := by
  obtain ⟨hx, hb, hml, hown, hts, -⟩ := id C
  unfold B_X9_isInDanger_59 at hJ
  refine lv_iinc (v := x3 + (1 : Int32)) (lv' := [(3, .int (x3 + (1 : Int32))), (0, .ref t0), (1, va_rf x1), (2, va_rf x2)]) hx hb dX9_isInDanger_59 hl (k := 3) rfl rfl (by decide) (by simp [List.filter, rf_cat, cat_i, cat_l, cat_r]) (fun ls hl => ?_)
  refine lv_goto (tgt := 4) hx hb dX9_isInDanger_62 (by decide) ?_
  exact i4 _ _ _ _ _ _ _ _ _ hJ hk0 w (lv_sub (l' := [(0, .ref t0), (1, va_rf x1), (2, va_rf x2), (3, .int (x3 + (1 : Int32)))]) hl [1, 2, 3, 0] rfl)
def B_X9_isInDanger_56 (N : Nat) (k4 : Hp → (Option Nat) → (Option Nat) → Int32 → Option (Hp × Int32)) (t0 : Nat) (h : Hp) (x1 : Option Nat) (x3 : Int32) (x4 : Option Nat) : Option (Hp × Int32) := B_X9_isInDanger_59 N k4 t0 h x1 x4 x3
theorem mb_X9_isInDanger_56 (N : Nat) (k4 : Hp → (Option Nat) → (Option Nat) → Int32 → Option (Hp × Int32)) (t0 : Nat) (h : Hp) (x1 : Option Nat) (x3 : Int32) (x4 : Option Nat) (m4 : ∀ (h : Hp) (x1 : Option Nat) (x2 : Option Nat) (x3 : Int32), k4 h x1 x2 x3 = some (hz, rz) → Mo h hz) (hJ : B_X9_isInDanger_56 N k4 t0 h x1 x3 x4 = some (hz, rz)) : Mo h hz := by
  unfold B_X9_isInDanger_56 at hJ
  exact mb_X9_isInDanger_59 N k4 t0 _ _ _ _ m4 hJ
set_option maxRecDepth 100000 in
set_option maxHeartbeats 4000000 in
theorem sb_X9_isInDanger_56 (C : Cx p s m args meth c cX9_isInDanger 5 (some .boolean) RX9 D cs A h0.se) (hz2 : hz.nx ≤ h0.nx + mc ∧ hz.su ≤ h0.su + ms) (N : Nat) (k4 : Hp → (Option Nat) → (Option Nat) → Int32 → Option (Hp × Int32)) (t0 : Nat) (m4 : ∀ (h : Hp) (x1 : Option Nat) (x2 : Option Nat) (x3 : Int32), k4 h x1 x2 x3 = some (hz, rz) → Mo h hz) (i4 : ∀ (h : Hp) (x1 : Option Nat) (x2 : Option Nat) (x3 : Int32) (H : Heap) (locs : List Loc) (cells slots : Nat) (ls : Array Slot), k4 h x1 x2 x3 = some (hz, rz) → h.kd t0 = 12 → Wo D cs A s h0 h H locs cells slots → lv_has ls 5 [(0, .ref t0), (1, va_rf x1), (2, va_rf x2), (3, .int x3)] → W p l e { frames := 5, cells := mc, slots := ms, locals := 150 } s m args below meth c H locs cells slots (MQ below (Zi D cs A hz rz) args s mc ms A) (F0 m 4 ls [])) (h : Hp) (x1 : Option Nat) (x3 : Int32) (x4 : Option Nat) (hJ : B_X9_isInDanger_56 N k4 t0 h x1 x3 x4 = some (hz, rz)) (hk0 : h.kd t0 = 12) {H : Heap} {locs : List Loc} {cells slots : Nat} (w : Wo D cs A s h0 h H locs cells slots) {ls : Array Slot} (hl : lv_has ls 5 [(0, .ref t0), (1, va_rf x1), (3, .int x3), (4, va_rf x4)]) : W p l e { frames := 5, cells := mc, slots := ms, locals := 150 } s m args below meth c H locs cells slots (MQ below (Zi D cs A hz rz) args s mc ms A) (F0 m 56 ls []) := by
  obtain ⟨hx, hb, hml, hown, hts, -⟩ := id C
  unfold B_X9_isInDanger_56 at hJ
  refine jv_aload hx hb dX9_isInDanger_56 (lv_at hl 3 rfl) ?_
  refine jv_astore_n (i := 2) (lv' := [(2, va_rf x4), (0, .ref t0), (1, va_rf x1), (3, .int x3), (4, va_rf x4)]) hx hb dX9_isInDanger_58 rfl hl (by decide) (by simp [List.filter, rf_cat, cat_i, cat_l, cat_r]) (fun ls hl => ?_)
  exact sb_X9_isInDanger_59 C hz2 N k4 t0 m4 i4 _ _ _ _ hJ hk0 w (lv_sub (l' := [(0, .ref t0), (1, va_rf x1), (2, va_rf x4), (3, .int x3)]) hl [1, 2, 0, 3] rfl)
def B_X9_isInDanger_37 (N : Nat) (k4 : Hp → (Option Nat) → (Option Nat) → Int32 → Option (Hp × Int32)) (t0 : Nat) (h : Hp) (x1 : Option Nat) (x2 : Option Nat) (x3 : Int32) (x4 : Option Nat) (y0 : Int32) : Option (Hp × Int32) := if y0 = 0 then (B_X9_isInDanger_59 N k4 t0 h x1 x2 x3) else (nl x2 (B_X9_isInDanger_56 N k4 t0 h x1 x3 x4) (fun a2 => dr h 10 x4 (fun a3 => ck (h.kd a2 = 10) (if (h.fi 1000 a2) ≤ (h.fi 1000 a3) then (B_X9_isInDanger_59 N k4 t0 h x1 (some a2) x3) else (B_X9_isInDanger_56 N k4 t0 h x1 x3 (some a3))))))
theorem mb_X9_isInDanger_37 (N : Nat) (k4 : Hp → (Option Nat) → (Option Nat) → Int32 → Option (Hp × Int32)) (t0 : Nat) (h : Hp) (x1 : Option Nat) (x2 : Option Nat) (x3 : Int32) (x4 : Option Nat) (y0 : Int32) (m4 : ∀ (h : Hp) (x1 : Option Nat) (x2 : Option Nat) (x3 : Int32), k4 h x1 x2 x3 = some (hz, rz) → Mo h hz) (hJ : B_X9_isInDanger_37 N k4 t0 h x1 x2 x3 x4 y0 = some (hz, rz)) : Mo h hz := by
  unfold B_X9_isInDanger_37 at hJ
  by_cases c1 : y0 = 0
  · have hJ := it_pos c1 hJ
    exact mb_X9_isInDanger_59 N k4 t0 _ _ _ _ m4 hJ
  · have hJ := it_neg c1 hJ
    cases ea2 : x2 with
    | none =>
      have hJ := nl_none ea2 hJ
      exact mb_X9_isInDanger_56 N k4 t0 _ _ _ _ m4 hJ
    | some a2 =>
      have hJ := nl_some ea2 hJ
      obtain ⟨a3, ea3, -, hJ⟩ := dr_some hJ
      obtain ⟨-, hJ⟩ := ck_some hJ
      by_cases c5 : (h.fi 1000 a2) ≤ (h.fi 1000 a3)
      · have hJ := it_pos c5 hJ
        exact mb_X9_isInDanger_59 N k4 t0 _ _ _ _ m4 hJ
      · have hJ := it_neg c5 hJ
        exact mb_X9_isInDanger_56 N k4 t0 _ _ _ _ m4 hJ
set_option maxRecDepth 100000 in
set_option maxHeartbeats 4000000 in
theorem sb_X9_isInDanger_37 (C : Cx p s m args meth c cX9_isInDanger 5 (some .boolean) RX9 D cs A h0.se) (hz2 : hz.nx ≤ h0.nx + mc ∧ hz.su ≤ h0.su + ms) (N : Nat) (k4 : Hp → (Option Nat) → (Option Nat) → Int32 → Option (Hp × Int32)) (t0 : Nat) (m4 : ∀ (h : Hp) (x1 : Option Nat) (x2 : Option Nat) (x3 : Int32), k4 h x1 x2 x3 = some (hz, rz) → Mo h hz) (i4 : ∀ (h : Hp) (x1 : Option Nat) (x2 : Option Nat) (x3 : Int32) (H : Heap) (locs : List Loc) (cells slots : Nat) (ls : Array Slot), k4 h x1 x2 x3 = some (hz, rz) → h.kd t0 = 12 → Wo D cs A s h0 h H locs cells slots → lv_has ls 5 [(0, .ref t0), (1, va_rf x1), (2, va_rf x2), (3, .int x3)] → W p l e { frames := 5, cells := mc, slots := ms, locals := 150 } s m args below meth c H locs cells slots (MQ below (Zi D cs A hz rz) args s mc ms A) (F0 m 4 ls [])) (h : Hp) (x1 : Option Nat) (x2 : Option Nat) (x3 : Int32) (x4 : Option Nat) (y0 : Int32) (hJ : B_X9_isInDanger_37 N k4 t0 h x1 x2 x3 x4 y0 = some (hz, rz)) (hk0 : h.kd t0 = 12) {H : Heap} {locs : List Loc} {cells slots : Nat} (w : Wo D cs A s h0 h H locs cells slots) {ls : Array Slot} (hl : lv_has ls 5 [(0, .ref t0), (1, va_rf x1), (2, va_rf x2), (3, .int x3), (4, va_rf x4)]) : W p l e { frames := 5, cells := mc, slots := ms, locals := 150 } s m args below meth c H locs cells slots (MQ below (Zi D cs A hz rz) args s mc ms A) (F0 m 37 ls [.int y0]) := by
  obtain ⟨hx, hb, hml, hown, hts, -⟩ := id C
  unfold B_X9_isInDanger_37 at hJ
  refine lv_if_eq (tgt := 59) hx hb dX9_isInDanger_37 (by decide) (fun c1 => ?_) (fun c1 => ?_)
  · have hJ := it_pos c1 hJ
    exact sb_X9_isInDanger_59 C hz2 N k4 t0 m4 i4 _ _ _ _ hJ hk0 w (lv_sub (l' := [(0, .ref t0), (1, va_rf x1), (2, va_rf x2), (3, .int x3)]) hl [0, 1, 2, 3] rfl)
  · have hJ := it_neg c1 hJ
    refine jv_aload_n hx hb dX9_isInDanger_40 rfl (lv_at hl 2 rfl) ?_
    refine jv_ifnull (tgt := 56) hx hb dX9_isInDanger_41 (by decide) (fun ea2 => ?_) (fun a2 ea2 => ?_)
    · have hJ := nl_none ea2 hJ
      exact sb_X9_isInDanger_56 C hz2 N k4 t0 m4 i4 _ _ _ _ hJ hk0 w (lv_sub (l' := [(0, .ref t0), (1, va_rf x1), (3, .int x3), (4, va_rf x4)]) hl [0, 1, 3, 4] rfl)
    · have hJ := nl_some ea2 hJ
      rw [ea2] at hl
      refine jv_aload hx hb dX9_isInDanger_44 (lv_at hl 4 rfl) ?_
      obtain ⟨a3, ea3, hka3, hJ⟩ := dr_some hJ
      rw [ea3] at hl
      rw [ea3]
      refine fg_1000 C w hka3 tw_2_10 dX9_isInDanger_46 ?_
      refine lv_aload_n hx hb dX9_isInDanger_49 rfl (lv_at hl 2 rfl) ?_
      obtain ⟨hk4, hJ⟩ := ck_some hJ
      refine fg_1000 C w hk4 tw_2_10 dX9_isInDanger_50 ?_
      refine lv_icmp_ge (tgt := 59) hx hb dX9_isInDanger_53 (by decide) (fun c5 => ?_) (fun c5 => ?_)
      · have hJ := it_pos c5 hJ
        exact sb_X9_isInDanger_59 C hz2 N k4 t0 m4 i4 _ _ _ _ hJ hk0 w (lv_sub (l' := [(0, .ref t0), (1, va_rf x1), (2, .ref a2), (3, .int x3)]) hl [0, 1, 2, 3] rfl)
      · have hJ := it_neg c5 hJ
        exact sb_X9_isInDanger_56 C hz2 N k4 t0 m4 i4 _ _ _ _ hJ hk0 w (lv_sub (l' := [(0, .ref t0), (1, va_rf x1), (3, .int x3), (4, .ref a3)]) hl [0, 1, 3, 4] rfl)
def B_X9_isInDanger_23 (N : Nat) (k4 : Hp → (Option Nat) → (Option Nat) → Int32 → Option (Hp × Int32)) (t0 : Nat) (h : Hp) (x1 : Option Nat) (x2 : Option Nat) (x3 : Int32) (y0 : Option Nat) : Option (Hp × Int32) := dr h 10 y0 (fun a6 => dr h 10 x1 (fun a7 => (J_X7_mayNotPrecede N a6 h (h.fi 1008 a7)).bind (fun z => B_X9_isInDanger_37 N k4 t0 z.1 (some a7) x2 x3 (some a6) z.2)))
theorem mb_X9_isInDanger_23 (N : Nat) (k4 : Hp → (Option Nat) → (Option Nat) → Int32 → Option (Hp × Int32)) (t0 : Nat) (h : Hp) (x1 : Option Nat) (x2 : Option Nat) (x3 : Int32) (y0 : Option Nat) (m4 : ∀ (h : Hp) (x1 : Option Nat) (x2 : Option Nat) (x3 : Int32), k4 h x1 x2 x3 = some (hz, rz) → Mo h hz) (hJ : B_X9_isInDanger_23 N k4 t0 h x1 x2 x3 y0 = some (hz, rz)) : Mo h hz := by
  unfold B_X9_isInDanger_23 at hJ
  obtain ⟨a6, ea6, -, hJ⟩ := dr_some hJ
  obtain ⟨a7, ea7, -, hJ⟩ := dr_some hJ
  obtain ⟨⟨h8, r9⟩, e10, hJ⟩ := ob_some hJ
  exact (mo_X7_mayNotPrecede N a6 h (h.fi 1008 a7) e10).tr (mb_X9_isInDanger_37 N k4 t0 _ _ _ _ _ _ m4 hJ)
set_option maxRecDepth 100000 in
set_option maxHeartbeats 4000000 in
theorem sb_X9_isInDanger_23 (C : Cx p s m args meth c cX9_isInDanger 5 (some .boolean) RX9 D cs A h0.se) (hz2 : hz.nx ≤ h0.nx + mc ∧ hz.su ≤ h0.su + ms) (N : Nat) (k4 : Hp → (Option Nat) → (Option Nat) → Int32 → Option (Hp × Int32)) (t0 : Nat) (m4 : ∀ (h : Hp) (x1 : Option Nat) (x2 : Option Nat) (x3 : Int32), k4 h x1 x2 x3 = some (hz, rz) → Mo h hz) (i4 : ∀ (h : Hp) (x1 : Option Nat) (x2 : Option Nat) (x3 : Int32) (H : Heap) (locs : List Loc) (cells slots : Nat) (ls : Array Slot), k4 h x1 x2 x3 = some (hz, rz) → h.kd t0 = 12 → Wo D cs A s h0 h H locs cells slots → lv_has ls 5 [(0, .ref t0), (1, va_rf x1), (2, va_rf x2), (3, .int x3)] → W p l e { frames := 5, cells := mc, slots := ms, locals := 150 } s m args below meth c H locs cells slots (MQ below (Zi D cs A hz rz) args s mc ms A) (F0 m 4 ls [])) (h : Hp) (x1 : Option Nat) (x2 : Option Nat) (x3 : Int32) (y0 : Option Nat) (hJ : B_X9_isInDanger_23 N k4 t0 h x1 x2 x3 y0 = some (hz, rz)) (hk0 : h.kd t0 = 12) {H : Heap} {locs : List Loc} {cells slots : Nat} (w : Wo D cs A s h0 h H locs cells slots) {ls : Array Slot} (hl : lv_has ls 5 [(0, .ref t0), (1, va_rf x1), (2, va_rf x2), (3, .int x3)]) : W p l e { frames := 5, cells := mc, slots := ms, locals := 150 } s m args below meth c H locs cells slots (MQ below (Zi D cs A hz rz) args s mc ms A) (F0 m 23 ls [va_rf y0]) := by
  obtain ⟨hx, hb, hml, hown, hts, -⟩ := id C
  unfold B_X9_isInDanger_23 at hJ
  obtain ⟨a6, ea6, hka6, hJ⟩ := dr_some hJ
  rw [ea6]
  refine va_castS hx hb hown (hts _ tw_1_221) (C.2.2.2.2.2.1.1 10 _ rfl).2 (recv_at C w hka6 (by decide) rfl (fs := fs10 h a6) rfl) dX9_isInDanger_23 ?_
  refine lv_astore (i := 4) (lv' := [(4, .ref a6), (0, .ref t0), (1, va_rf x1), (2, va_rf x2), (3, .int x3)]) hx hb dX9_isInDanger_26 hl (by decide) rfl (fun ls hl => ?_)
  refine lv_aload hx hb dX9_isInDanger_28 (lv_at hl 0 rfl) ?_
  refine jv_aload_n hx hb dX9_isInDanger_30 rfl (lv_at hl 2 rfl) ?_
  obtain ⟨a7, ea7, hka7, hJ⟩ := dr_some hJ
  rw [ea7] at hl
  rw [ea7]
  refine fg_1008 C w hka7 tw_2_31 dX9_isInDanger_31 ?_
  obtain ⟨⟨h8, r9⟩, e10, hJ⟩ := ob_some hJ
  refine jc_Vi (As := [.int (h.fi 1008 a7)]) C w (cc_X7_mayNotPrecede N a6 h (h.fi 1008 a7) hka6 e10) (mo_X7_mayNotPrecede N a6 h (h.fi 1008 a7) e10) (mb_X9_isInDanger_37 N k4 t0 _ _ _ _ _ _ m4 hJ) hz2 hka6 (by decide) rfl (fs := fs10 h a6) rfl rfl ⟨tw_5_191, tw_5_188, tw_5_189, tw_5_190, tw_1_9⟩ cd_X7_mayNotPrecede ⟨by decide, by decide⟩ hl.1 (by first | exact Nat.le_of_ble_eq_true rfl | simp [rf_cat, cat_i, cat_l, cat_r]) rfl dX9_isInDanger_34 (fun H locs w1 => ?_)
  have hk11 := kd_keep w (mo_X7_mayNotPrecede N a6 h (h.fi 1008 a7) e10) hk0 (by decide)
  have w := w1
  exact sb_X9_isInDanger_37 C hz2 N k4 t0 m4 i4 _ _ _ _ _ _ hJ hk11 w (lv_sub (l' := [(0, .ref t0), (1, .ref a7), (2, va_rf x2), (3, .int x3), (4, .ref a6)]) hl [1, 2, 3, 4, 0] rfl)
def B_X9_isInDanger_77 (N : Nat) (t0 : Nat) (h : Hp) : Option (Hp × Int32) := some (h, (1 : Int32))
theorem mb_X9_isInDanger_77 (N : Nat) (t0 : Nat) (h : Hp) (hJ : B_X9_isInDanger_77 N t0 h = some (hz, rz)) : Mo h hz := by
  unfold B_X9_isInDanger_77 at hJ
  obtain ⟨rfl, -⟩ := rs2 hJ
  exact ⟨fun _ _ => rfl, Nat.le_refl _, Nat.le_refl _, rfl, fun _ _ => rfl⟩
set_option maxRecDepth 100000 in
set_option maxHeartbeats 4000000 in
theorem sb_X9_isInDanger_77 (C : Cx p s m args meth c cX9_isInDanger 5 (some .boolean) RX9 D cs A h0.se) (hz2 : hz.nx ≤ h0.nx + mc ∧ hz.su ≤ h0.su + ms) (N : Nat) (t0 : Nat) (h : Hp) (hJ : B_X9_isInDanger_77 N t0 h = some (hz, rz)) (hk0 : h.kd t0 = 12) {H : Heap} {locs : List Loc} {cells slots : Nat} (w : Wo D cs A s h0 h H locs cells slots) {ls : Array Slot} (hl : lv_has ls 5 [(0, .ref t0)]) : W p l e { frames := 5, cells := mc, slots := ms, locals := 150 } s m args below meth c H locs cells slots (MQ below (Zi D cs A hz rz) args s mc ms A) (F0 m 77 ls []) := by
  obtain ⟨hx, hb, hml, hown, hts, -⟩ := id C
  unfold B_X9_isInDanger_77 at hJ
  refine lv_iconst (v := (1 : Int32)) hx hb dX9_isInDanger_77 (by decide) ?_
  obtain ⟨rfl, rfl⟩ := rs2 hJ
  exact jr_zret C w (Or.inr rfl) hz2 dX9_isInDanger_78
def B_X9_isInDanger_12 (N : Nat) (k4 : Hp → (Option Nat) → (Option Nat) → Int32 → Option (Hp × Int32)) (t0 : Nat) (h : Hp) (x1 : Option Nat) (x2 : Option Nat) (x3 : Int32) (y0 : Int32) (y1 : Int32) : Option (Hp × Int32) := if y1 ≤ y0 then (nl x2 (some (h, (0 : Int32))) (fun a13 => (J_X9_blameDanger N t0 h (some a13) x1).bind (fun z => B_X9_isInDanger_77 N t0 z.1))) else (dr h 2 (h.fr 1207 t0) (fun a18 => (J_Jx4a65c_get_915e3 N a18 h x3).bind (fun z => B_X9_isInDanger_23 N k4 t0 z.1 x1 x2 x3 z.2)))
theorem mb_X9_isInDanger_12 (N : Nat) (k4 : Hp → (Option Nat) → (Option Nat) → Int32 → Option (Hp × Int32)) (t0 : Nat) (h : Hp) (x1 : Option Nat) (x2 : Option Nat) (x3 : Int32) (y0 : Int32) (y1 : Int32) (m4 : ∀ (h : Hp) (x1 : Option Nat) (x2 : Option Nat) (x3 : Int32), k4 h x1 x2 x3 = some (hz, rz) → Mo h hz) (hJ : B_X9_isInDanger_12 N k4 t0 h x1 x2 x3 y0 y1 = some (hz, rz)) : Mo h hz := by
  unfold B_X9_isInDanger_12 at hJ
  by_cases c12 : y1 ≤ y0
  · have hJ := it_pos c12 hJ
    cases ea13 : x2 with
    | none =>
      have hJ := nl_none ea13 hJ
      obtain ⟨rfl, -⟩ := rs2 hJ
      exact ⟨fun _ _ => rfl, Nat.le_refl _, Nat.le_refl _, rfl, fun _ _ => rfl⟩
    | some a13 =>
      have hJ := nl_some ea13 hJ
      obtain ⟨⟨h14, r15⟩, e16, hJ⟩ := ob_some hJ
      exact (mo_X9_blameDanger N t0 h (some a13) x1 e16).tr (mb_X9_isInDanger_77 N t0 _ hJ)
  · have hJ := it_neg c12 hJ
    obtain ⟨a18, ea18, -, hJ⟩ := dr_some hJ
    obtain ⟨⟨h19, r20⟩, e21, hJ⟩ := ob_some hJ
    exact (mo_Jx4a65c_get_915e3 N a18 h x3 e21).tr (mb_X9_isInDanger_23 N k4 t0 _ _ _ _ _ m4 hJ)
set_option maxRecDepth 100000 in
set_option maxHeartbeats 4000000 in
theorem sb_X9_isInDanger_12 (C : Cx p s m args meth c cX9_isInDanger 5 (some .boolean) RX9 D cs A h0.se) (hz2 : hz.nx ≤ h0.nx + mc ∧ hz.su ≤ h0.su + ms) (N : Nat) (k4 : Hp → (Option Nat) → (Option Nat) → Int32 → Option (Hp × Int32)) (t0 : Nat) (m4 : ∀ (h : Hp) (x1 : Option Nat) (x2 : Option Nat) (x3 : Int32), k4 h x1 x2 x3 = some (hz, rz) → Mo h hz) (i4 : ∀ (h : Hp) (x1 : Option Nat) (x2 : Option Nat) (x3 : Int32) (H : Heap) (locs : List Loc) (cells slots : Nat) (ls : Array Slot), k4 h x1 x2 x3 = some (hz, rz) → h.kd t0 = 12 → Wo D cs A s h0 h H locs cells slots → lv_has ls 5 [(0, .ref t0), (1, va_rf x1), (2, va_rf x2), (3, .int x3)] → W p l e { frames := 5, cells := mc, slots := ms, locals := 150 } s m args below meth c H locs cells slots (MQ below (Zi D cs A hz rz) args s mc ms A) (F0 m 4 ls [])) (h : Hp) (x1 : Option Nat) (x2 : Option Nat) (x3 : Int32) (y0 : Int32) (y1 : Int32) (hJ : B_X9_isInDanger_12 N k4 t0 h x1 x2 x3 y0 y1 = some (hz, rz)) (hk0 : h.kd t0 = 12) {H : Heap} {locs : List Loc} {cells slots : Nat} (w : Wo D cs A s h0 h H locs cells slots) {ls : Array Slot} (hl : lv_has ls 5 [(0, .ref t0), (1, va_rf x1), (2, va_rf x2), (3, .int x3)]) : W p l e { frames := 5, cells := mc, slots := ms, locals := 150 } s m args below meth c H locs cells slots (MQ below (Zi D cs A hz rz) args s mc ms A) (F0 m 12 ls [.int y1, .int y0]) := by
  obtain ⟨hx, hb, hml, hown, hts, -⟩ := id C
  unfold B_X9_isInDanger_12 at hJ
  refine lv_icmp_ge (tgt := 65) hx hb dX9_isInDanger_12 (by decide) (fun c12 => ?_) (fun c12 => ?_)
  · have hJ := it_pos c12 hJ
    refine jv_aload_n hx hb dX9_isInDanger_65 rfl (lv_at hl 2 rfl) ?_
    refine jv_ifnonnull (tgt := 71) hx hb dX9_isInDanger_66 (by decide) (fun a13 ea13 => ?_) (fun ea13 => ?_)
    · have hJ := nl_some ea13 hJ
      rw [ea13] at hl
      refine lv_aload_n hx hb dX9_isInDanger_71 rfl (lv_at hl 0 rfl) ?_
      refine lv_aload_n hx hb dX9_isInDanger_72 rfl (lv_at hl 2 rfl) ?_
      refine jv_aload_n hx hb dX9_isInDanger_73 rfl (lv_at hl 1 rfl) ?_
      obtain ⟨⟨h14, r15⟩, e16, hJ⟩ := ob_some hJ
      refine jc_Vv (As := [.ref a13, va_rf x1]) C w (cc_X9_blameDanger N t0 h (some a13) x1 hk0 e16) (mo_X9_blameDanger N t0 h (some a13) x1 e16) (mb_X9_isInDanger_77 N t0 _ hJ) hz2 hk0 (by decide) rfl (fs := fs12 h t0) rfl rfl ⟨tw_5_195, tw_5_192, tw_5_194, ts_22, tw_1_1⟩ cd_X9_blameDanger ⟨by decide, by decide⟩ hl.1 (by first | exact Nat.le_of_ble_eq_true rfl | simp [rf_cat, cat_i, cat_l, cat_r]) rfl dX9_isInDanger_74 (fun H locs w1 => ?_)
      have hk17 := kd_keep w (mo_X9_blameDanger N t0 h (some a13) x1 e16) hk0 (by decide)
      have w := w1
      exact sb_X9_isInDanger_77 C hz2 N t0 _ hJ hk17 w (lv_sub (l' := [(0, .ref t0)]) hl [0] rfl)
    · have hJ := nl_none ea13 hJ
      refine lv_iconst (v := (0 : Int32)) hx hb dX9_isInDanger_69 (by decide) ?_
      obtain ⟨rfl, rfl⟩ := rs2 hJ
      exact jr_zret C w (Or.inl rfl) hz2 dX9_isInDanger_70
  · have hJ := it_neg c12 hJ
    refine lv_aload_n hx hb dX9_isInDanger_15 rfl (lv_at hl 0 rfl) ?_
    refine fg_1207 C w hk0 tw_1_139 dX9_isInDanger_16 ?_
    refine lv_iload_n hx hb dX9_isInDanger_19 rfl (lv_at hl 3 rfl) ?_
    obtain ⟨a18, ea18, hka18, hJ⟩ := dr_some hJ
    rw [ea18]
    obtain ⟨⟨h19, r20⟩, e21, hJ⟩ := ob_some hJ
    refine jc_Vq (As := [.int x3]) C w (cc_Jx4a65c_get_915e3 N a18 h x3 hka18 e21) (mo_Jx4a65c_get_915e3 N a18 h x3 e21) (mb_X9_isInDanger_23 N k4 t0 _ _ _ _ _ m4 hJ) hz2 hka18 (by decide) rfl (fs := fs2 h a18) rfl rfl ⟨tw_2_65, tw_2_62, tw_2_63, tw_2_64, tw_1_5⟩ cd_Jx4a65c_get_915e3 ⟨by decide, by decide⟩ hl.1 (by first | exact Nat.le_of_ble_eq_true rfl | simp [rf_cat, cat_i, cat_l, cat_r]) rfl dX9_isInDanger_20 (fun H locs w1 => ?_)
    have hk22 := kd_keep w (mo_Jx4a65c_get_915e3 N a18 h x3 e21) hk0 (by decide)
    have w := w1
    exact sb_X9_isInDanger_23 C hz2 N k4 t0 m4 i4 _ _ _ _ _ hJ hk22 w hl
def B_X9_isInDanger_4 (N : Nat) (k4 : Hp → (Option Nat) → (Option Nat) → Int32 → Option (Hp × Int32)) (t0 : Nat) (h : Hp) (x1 : Option Nat) (x2 : Option Nat) (x3 : Int32) : Option (Hp × Int32) := dr h 2 (h.fr 1207 t0) (fun a23 => (J_Jx4a65c_size_8abf5 N a23 h).bind (fun z => B_X9_isInDanger_12 N k4 t0 z.1 x1 x2 x3 x3 z.2))
theorem mb_X9_isInDanger_4 (N : Nat) (k4 : Hp → (Option Nat) → (Option Nat) → Int32 → Option (Hp × Int32)) (t0 : Nat) (h : Hp) (x1 : Option Nat) (x2 : Option Nat) (x3 : Int32) (m4 : ∀ (h : Hp) (x1 : Option Nat) (x2 : Option Nat) (x3 : Int32), k4 h x1 x2 x3 = some (hz, rz) → Mo h hz) (hJ : B_X9_isInDanger_4 N k4 t0 h x1 x2 x3 = some (hz, rz)) : Mo h hz := by
  unfold B_X9_isInDanger_4 at hJ
  obtain ⟨a23, ea23, -, hJ⟩ := dr_some hJ
  obtain ⟨⟨h24, r25⟩, e26, hJ⟩ := ob_some hJ
  exact (mo_Jx4a65c_size_8abf5 N a23 h e26).tr (mb_X9_isInDanger_12 N k4 t0 _ _ _ _ _ _ m4 hJ)
set_option maxRecDepth 100000 in
set_option maxHeartbeats 4000000 in
theorem sb_X9_isInDanger_4 (C : Cx p s m args meth c cX9_isInDanger 5 (some .boolean) RX9 D cs A h0.se) (hz2 : hz.nx ≤ h0.nx + mc ∧ hz.su ≤ h0.su + ms) (N : Nat) (k4 : Hp → (Option Nat) → (Option Nat) → Int32 → Option (Hp × Int32)) (t0 : Nat) (m4 : ∀ (h : Hp) (x1 : Option Nat) (x2 : Option Nat) (x3 : Int32), k4 h x1 x2 x3 = some (hz, rz) → Mo h hz) (i4 : ∀ (h : Hp) (x1 : Option Nat) (x2 : Option Nat) (x3 : Int32) (H : Heap) (locs : List Loc) (cells slots : Nat) (ls : Array Slot), k4 h x1 x2 x3 = some (hz, rz) → h.kd t0 = 12 → Wo D cs A s h0 h H locs cells slots → lv_has ls 5 [(0, .ref t0), (1, va_rf x1), (2, va_rf x2), (3, .int x3)] → W p l e { frames := 5, cells := mc, slots := ms, locals := 150 } s m args below meth c H locs cells slots (MQ below (Zi D cs A hz rz) args s mc ms A) (F0 m 4 ls [])) (h : Hp) (x1 : Option Nat) (x2 : Option Nat) (x3 : Int32) (hJ : B_X9_isInDanger_4 N k4 t0 h x1 x2 x3 = some (hz, rz)) (hk0 : h.kd t0 = 12) {H : Heap} {locs : List Loc} {cells slots : Nat} (w : Wo D cs A s h0 h H locs cells slots) {ls : Array Slot} (hl : lv_has ls 5 [(0, .ref t0), (1, va_rf x1), (2, va_rf x2), (3, .int x3)]) : W p l e { frames := 5, cells := mc, slots := ms, locals := 150 } s m args below meth c H locs cells slots (MQ below (Zi D cs A hz rz) args s mc ms A) (F0 m 4 ls []) := by
  obtain ⟨hx, hb, hml, hown, hts, -⟩ := id C
  unfold B_X9_isInDanger_4 at hJ
  refine lv_iload_n hx hb dX9_isInDanger_4 rfl (lv_at hl 3 rfl) ?_
  refine lv_aload_n hx hb dX9_isInDanger_5 rfl (lv_at hl 0 rfl) ?_
  refine fg_1207 C w hk0 tw_1_139 dX9_isInDanger_6 ?_
  obtain ⟨a23, ea23, hka23, hJ⟩ := dr_some hJ
  rw [ea23]
  obtain ⟨⟨h24, r25⟩, e26, hJ⟩ := ob_some hJ
  refine jc_Vi (As := []) C w (cc_Jx4a65c_size_8abf5 N a23 h hka23 e26) (mo_Jx4a65c_size_8abf5 N a23 h e26) (mb_X9_isInDanger_12 N k4 t0 _ _ _ _ _ _ m4 hJ) hz2 hka23 (by decide) rfl (fs := fs2 h a23) rfl rfl ⟨tw_1_182, tw_1_179, tw_1_180, tw_1_181, tw_1_5⟩ cd_Jx4a65c_size_8abf5 ⟨by decide, by decide⟩ hl.1 (by first | exact Nat.le_of_ble_eq_true rfl | simp [rf_cat, cat_i, cat_l, cat_r]) rfl dX9_isInDanger_9 (fun H locs w1 => ?_)
  have hk27 := kd_keep w (mo_Jx4a65c_size_8abf5 N a23 h e26) hk0 (by decide)
  have w := w1
  exact sb_X9_isInDanger_12 C hz2 N k4 t0 m4 i4 _ _ _ _ _ _ hJ hk27 w hl
def L_X9_isInDanger_4 (N : Nat) (t0 : Nat) : Nat → Hp → (Option Nat) → (Option Nat) → Int32 → Option (Hp × Int32)
  | 0 => fun _ _ _ _ => none
  | n + 1 => fun h x1 x2 x3 => B_X9_isInDanger_4 N (L_X9_isInDanger_4 N t0 n) t0 h x1 x2 x3
theorem ml_X9_isInDanger_4 (N : Nat) (t0 : Nat) : ∀ (n : Nat) (h : Hp) (x1 : Option Nat) (x2 : Option Nat) (x3 : Int32), L_X9_isInDanger_4 N t0 n h x1 x2 x3 = some (hz, rz) → Mo h hz := by
  intro n
  induction n with
  | zero => intro h x1 x2 x3 hJ; cases hJ
  | succ n ih => intro h x1 x2 x3 hJ; exact mb_X9_isInDanger_4 N (L_X9_isInDanger_4 N t0 n) t0 h x1 x2 x3 ih hJ
theorem sl_X9_isInDanger_4 (C : Cx p s m args meth c cX9_isInDanger 5 (some .boolean) RX9 D cs A h0.se) (hz2 : hz.nx ≤ h0.nx + mc ∧ hz.su ≤ h0.su + ms) (N : Nat) (t0 : Nat) : ∀ n : Nat, ∀ (h : Hp) (x1 : Option Nat) (x2 : Option Nat) (x3 : Int32) (H : Heap) (locs : List Loc) (cells slots : Nat) (ls : Array Slot), L_X9_isInDanger_4 N t0 n h x1 x2 x3 = some (hz, rz) → h.kd t0 = 12 → Wo D cs A s h0 h H locs cells slots → lv_has ls 5 [(0, .ref t0), (1, va_rf x1), (2, va_rf x2), (3, .int x3)] → W p l e { frames := 5, cells := mc, slots := ms, locals := 150 } s m args below meth c H locs cells slots (MQ below (Zi D cs A hz rz) args s mc ms A) (F0 m 4 ls []) := by
  intro n
  induction n with
  | zero => intro h x1 x2 x3 H locs cells slots ls hJ; cases hJ
  | succ n ih =>
    intro h x1 x2 x3 H locs cells slots ls hJ hk0 w hl
    exact sb_X9_isInDanger_4 C hz2 N (L_X9_isInDanger_4 N t0 n) t0 (ml_X9_isInDanger_4 N t0 n) ih h x1 x2 x3 hJ hk0 w hl
def B_X9_isInDanger_0 (N : Nat) (t0 : Nat) (h : Hp) (x1 : Option Nat) : Option (Hp × Int32) := L_X9_isInDanger_4 N t0 N h x1 none (0 : Int32)
theorem mb_X9_isInDanger_0 (N : Nat) (t0 : Nat) (h : Hp) (x1 : Option Nat) (hJ : B_X9_isInDanger_0 N t0 h x1 = some (hz, rz)) : Mo h hz := by
  unfold B_X9_isInDanger_0 at hJ
  exact ml_X9_isInDanger_4 N t0 N _ _ _ _ hJ
set_option maxRecDepth 100000 in
set_option maxHeartbeats 4000000 in
theorem sb_X9_isInDanger_0 (C : Cx p s m args meth c cX9_isInDanger 5 (some .boolean) RX9 D cs A h0.se) (hz2 : hz.nx ≤ h0.nx + mc ∧ hz.su ≤ h0.su + ms) (N : Nat) (t0 : Nat) (h : Hp) (x1 : Option Nat) (hJ : B_X9_isInDanger_0 N t0 h x1 = some (hz, rz)) (hk0 : h.kd t0 = 12) {H : Heap} {locs : List Loc} {cells slots : Nat} (w : Wo D cs A s h0 h H locs cells slots) {ls : Array Slot} (hl : lv_has ls 5 [(0, .ref t0), (1, va_rf x1)]) : W p l e { frames := 5, cells := mc, slots := ms, locals := 150 } s m args below meth c H locs cells slots (MQ below (Zi D cs A hz rz) args s mc ms A) (F0 m 0 ls []) := by
  obtain ⟨hx, hb, hml, hown, hts, -⟩ := id C
  unfold B_X9_isInDanger_0 at hJ
  refine lv_null hx hb dX9_isInDanger_0 ?_
  change W _ _ _ _ _ _ _ _ _ _ _ _ _ _ _ (F0 m 1 ls [va_rf none])
  refine jv_astore_n (i := 2) (lv' := [(2, va_rf none), (0, .ref t0), (1, va_rf x1)]) hx hb dX9_isInDanger_1 rfl hl (by decide) (by simp [List.filter, rf_cat, cat_i, cat_l, cat_r]) (fun ls hl => ?_)
  refine lv_iconst (v := (0 : Int32)) hx hb dX9_isInDanger_2 (by decide) ?_
  refine lv_istore_n (i := 3) (lv' := [(3, .int (0 : Int32)), (2, va_rf none), (0, .ref t0), (1, va_rf x1)]) hx hb dX9_isInDanger_3 rfl hl (by decide) (by simp [List.filter, rf_cat, cat_i, cat_l, cat_r]) (fun ls hl => ?_)
  exact sl_X9_isInDanger_4 C hz2 N t0 N _ _ _ _ _ _ _ _ _ hJ hk0 w (lv_sub (l' := [(0, .ref t0), (1, va_rf x1), (2, va_rf none), (3, .int (0 : Int32))]) hl [2, 3, 1, 0] rfl)
def J_X9_isInDanger (N : Nat) (t0 : Nat) (h : Hp) (x1 : Option Nat) : Option (Hp × Int32) := B_X9_isInDanger_0 N t0 h x1
theorem mo_X9_isInDanger (N : Nat) (t0 : Nat) (h : Hp) (x1 : Option Nat) (hJ : J_X9_isInDanger N t0 h x1 = some (hz, rz)) : Mo h hz := mb_X9_isInDanger_0 N t0 h x1 hJ
theorem cd_X9_isInDanger : Cd yX9_isInDanger 1 := ⟨by decide +kernel, by decide +kernel, by decide +kernel⟩
theorem cc_X9_isInDanger (N : Nat) (t0 : Nat) (h : Hp) (x1 : Option Nat) (hk0 : h.kd t0 = 12) (hJ : J_X9_isInDanger N t0 h x1 = some (hz, rz)) : Ci l yX9_isInDanger cX9_isInDanger 5 (some .boolean) 5 150 D cs h hz [.ref t0, va_rf x1] rz := by
  intro mc ms g1 g2
  refine je_any (by decide) (by simp [lg_sl, rf_cat, cat_i, cat_l, cat_r]) ?_
  intro p e s m args below meth c C hin2 w ls hl
  have hl : lv_has ls 5 [(0, .ref t0), (1, va_rf x1)] := by simpa [lv_args, rf_cat, cat_i, cat_l, cat_r] using hl
  exact sb_X9_isInDanger_0 C ⟨g1, g2⟩ N t0 h x1 hJ hk0 w hl
end G_X9_isInDanger
section G_X9_noteReaders
variable {p : Program} {l : Launch} {e : Env} {s : State} {m : MethodId} {args : Array Value} {below : List Frame} {meth : Method} {c : Code} {D : va_G} {cs : C4} {A : Nat → Prop} {h0 hz : Hp} {mc ms : Nat}
def B_X9_noteReaders_46 (N : Nat) (k2 : Hp → (Option Nat) → Int32 → Option (Hp × Unit)) (t0 : Nat) (h : Hp) (x1 : Option Nat) (x2 : Int32) : Option (Hp × Unit) := k2 h x1 (x2 + (1 : Int32))
theorem mb_X9_noteReaders_46 (N : Nat) (k2 : Hp → (Option Nat) → Int32 → Option (Hp × Unit)) (t0 : Nat) (h : Hp) (x1 : Option Nat) (x2 : Int32) (m2 : ∀ (h : Hp) (x1 : Option Nat) (x2 : Int32), k2 h x1 x2 = some (hz, ()) → Mo h hz) (hJ : B_X9_noteReaders_46 N k2 t0 h x1 x2 = some (hz, ())) : Mo h hz := by
  unfold B_X9_noteReaders_46 at hJ
  exact m2 _ _ _ hJ
set_option maxRecDepth 100000 in
set_option maxHeartbeats 4000000 in
theorem sb_X9_noteReaders_46 (C : Cx p s m args meth c cX9_noteReaders 4 none RX9 D cs A h0.se) (hz2 : hz.nx ≤ h0.nx + mc ∧ hz.su ≤ h0.su + ms) (N : Nat) (k2 : Hp → (Option Nat) → Int32 → Option (Hp × Unit)) (t0 : Nat) (m2 : ∀ (h : Hp) (x1 : Option Nat) (x2 : Int32), k2 h x1 x2 = some (hz, ()) → Mo h hz) (i2 : ∀ (h : Hp) (x1 : Option Nat) (x2 : Int32) (H : Heap) (locs : List Loc) (cells slots : Nat) (ls : Array Slot), k2 h x1 x2 = some (hz, ()) → h.kd t0 = 12 → Wo D cs A s h0 h H locs cells slots → lv_has ls 4 [(0, .ref t0), (1, va_rf x1), (2, .int x2)] → W p l e { frames := 3, cells := mc, slots := ms, locals := 90 } s m args below meth c H locs cells slots (MQ below (Zv D cs A hz) args s mc ms A) (F0 m 2 ls [])) (h : Hp) (x1 : Option Nat) (x2 : Int32) (hJ : B_X9_noteReaders_46 N k2 t0 h x1 x2 = some (hz, ())) (hk0 : h.kd t0 = 12) {H : Heap} {locs : List Loc} {cells slots : Nat} (w : Wo D cs A s h0 h H locs cells slots) {ls : Array Slot} (hl : lv_has ls 4 [(0, .ref t0), (1, va_rf x1), (2, .int x2)]) : W p l e { frames := 3, cells := mc, slots := ms, locals := 90 } s m args below meth c H locs cells slots (MQ below (Zv D cs A hz) args s mc ms A) (F0 m 46 ls []) := by
  obtain ⟨hx, hb, hml, hown, hts, -⟩ := id C
  unfold B_X9_noteReaders_46 at hJ
  refine lv_iinc (v := x2 + (1 : Int32)) (lv' := [(2, .int (x2 + (1 : Int32))), (0, .ref t0), (1, va_rf x1)]) hx hb dX9_noteReaders_46 hl (k := 2) rfl rfl (by decide) (by simp [List.filter, rf_cat, cat_i, cat_l, cat_r]) (fun ls hl => ?_)
  refine lv_goto (tgt := 2) hx hb dX9_noteReaders_49 (by decide) ?_
  exact i2 _ _ _ _ _ _ _ _ hJ hk0 w (lv_sub (l' := [(0, .ref t0), (1, va_rf x1), (2, .int (x2 + (1 : Int32)))]) hl [1, 2, 0] rfl)
def B_X9_noteReaders_21 (N : Nat) (k2 : Hp → (Option Nat) → Int32 → Option (Hp × Unit)) (t0 : Nat) (h : Hp) (x1 : Option Nat) (x2 : Int32) (y0 : Option Nat) : Option (Hp × Unit) := dr h 10 y0 (fun a1 => dr h 10 x1 (fun a2 => if ((h.sfi 1009 a2 (1 : Int32)).fi 1006 a1) = (1 : Int32) then ((J_X7_noteOut N a1 (h.sfi 1009 a2 (1 : Int32)) ((h.sfi 1009 a2 (1 : Int32)).fi 1007 a2)).bind (fun z => B_X9_noteReaders_46 N k2 t0 z.1 (some a2) x2)) else (B_X9_noteReaders_46 N k2 t0 (h.sfi 1009 a2 (1 : Int32)) (some a2) x2)))
theorem mb_X9_noteReaders_21 (N : Nat) (k2 : Hp → (Option Nat) → Int32 → Option (Hp × Unit)) (t0 : Nat) (h : Hp) (x1 : Option Nat) (x2 : Int32) (y0 : Option Nat) (m2 : ∀ (h : Hp) (x1 : Option Nat) (x2 : Int32), k2 h x1 x2 = some (hz, ()) → Mo h hz) (hJ : B_X9_noteReaders_21 N k2 t0 h x1 x2 y0 = some (hz, ())) : Mo h hz := by
  unfold B_X9_noteReaders_21 at hJ
  obtain ⟨a1, ea1, -, hJ⟩ := dr_some hJ
  obtain ⟨a2, ea2, -, hJ⟩ := dr_some hJ
  by_cases c3 : ((h.sfi 1009 a2 (1 : Int32)).fi 1006 a1) = (1 : Int32)
  · have hJ := it_pos c3 hJ
    obtain ⟨⟨h4, r5⟩, e6, hJ⟩ := ob_some hJ
    exact (Mo.tr (show Mo h (h.sfi 1009 a2 (1 : Int32)) from ⟨fun _ _ => rfl, Nat.le_refl _, Nat.le_refl _, rfl, fun _ _ => rfl⟩) ((mo_X7_noteOut N a1 (h.sfi 1009 a2 (1 : Int32)) ((h.sfi 1009 a2 (1 : Int32)).fi 1007 a2) e6).tr (mb_X9_noteReaders_46 N k2 t0 _ _ _ m2 hJ)))
  · have hJ := it_neg c3 hJ
    exact (Mo.tr (show Mo h (h.sfi 1009 a2 (1 : Int32)) from ⟨fun _ _ => rfl, Nat.le_refl _, Nat.le_refl _, rfl, fun _ _ => rfl⟩) (mb_X9_noteReaders_46 N k2 t0 _ _ _ m2 hJ))
set_option maxRecDepth 100000 in
set_option maxHeartbeats 4000000 in
theorem sb_X9_noteReaders_21 (C : Cx p s m args meth c cX9_noteReaders 4 none RX9 D cs A h0.se) (hz2 : hz.nx ≤ h0.nx + mc ∧ hz.su ≤ h0.su + ms) (N : Nat) (k2 : Hp → (Option Nat) → Int32 → Option (Hp × Unit)) (t0 : Nat) (m2 : ∀ (h : Hp) (x1 : Option Nat) (x2 : Int32), k2 h x1 x2 = some (hz, ()) → Mo h hz) (i2 : ∀ (h : Hp) (x1 : Option Nat) (x2 : Int32) (H : Heap) (locs : List Loc) (cells slots : Nat) (ls : Array Slot), k2 h x1 x2 = some (hz, ()) → h.kd t0 = 12 → Wo D cs A s h0 h H locs cells slots → lv_has ls 4 [(0, .ref t0), (1, va_rf x1), (2, .int x2)] → W p l e { frames := 3, cells := mc, slots := ms, locals := 90 } s m args below meth c H locs cells slots (MQ below (Zv D cs A hz) args s mc ms A) (F0 m 2 ls [])) (h : Hp) (x1 : Option Nat) (x2 : Int32) (y0 : Option Nat) (hJ : B_X9_noteReaders_21 N k2 t0 h x1 x2 y0 = some (hz, ())) (hk0 : h.kd t0 = 12) {H : Heap} {locs : List Loc} {cells slots : Nat} (w : Wo D cs A s h0 h H locs cells slots) {ls : Array Slot} (hl : lv_has ls 4 [(0, .ref t0), (1, va_rf x1), (2, .int x2)]) : W p l e { frames := 3, cells := mc, slots := ms, locals := 90 } s m args below meth c H locs cells slots (MQ below (Zv D cs A hz) args s mc ms A) (F0 m 21 ls [va_rf y0]) := by
  obtain ⟨hx, hb, hml, hown, hts, -⟩ := id C
  unfold B_X9_noteReaders_21 at hJ
  obtain ⟨a1, ea1, hka1, hJ⟩ := dr_some hJ
  rw [ea1]
  refine va_castS hx hb hown (hts _ tw_1_221) (C.2.2.2.2.2.1.1 10 _ rfl).2 (recv_at C w hka1 (by decide) rfl (fs := fs10 h a1) rfl) dX9_noteReaders_21 ?_
  refine lv_astore_n (i := 3) (lv' := [(3, .ref a1), (0, .ref t0), (1, va_rf x1), (2, .int x2)]) hx hb dX9_noteReaders_24 rfl hl (by decide) rfl (fun ls hl => ?_)
  refine jv_aload_n hx hb dX9_noteReaders_25 rfl (lv_at hl 2 rfl) ?_
  refine lv_iconst (v := (1 : Int32)) hx hb dX9_noteReaders_26 (by decide) ?_
  obtain ⟨a2, ea2, hka2, hJ⟩ := dr_some hJ
  rw [ea2] at hl
  rw [ea2]
  refine fp_1009 (x := (1 : Int32)) C w hka2 (Or.inr rfl) tw_2_33 dX9_noteReaders_27 (fun H locs w => ?_)
  refine lv_aload_n hx hb dX9_noteReaders_30 rfl (lv_at hl 0 rfl) ?_
  refine fg_1006 C w hka1 tw_2_26 dX9_noteReaders_31 ?_
  refine lv_iconst (v := (1 : Int32)) hx hb dX9_noteReaders_34 (by decide) ?_
  refine lv_icmp_ne (tgt := 46) hx hb dX9_noteReaders_35 (by decide) (fun c3 => ?_) (fun c3 => ?_)
  · have hJ := it_neg c3 hJ
    exact sb_X9_noteReaders_46 C hz2 N k2 t0 m2 i2 _ _ _ hJ hk0 w (lv_sub (l' := [(0, .ref t0), (1, .ref a2), (2, .int x2)]) hl [1, 2, 3] rfl)
  · have hJ := it_pos c3 hJ
    refine lv_aload_n hx hb dX9_noteReaders_38 rfl (lv_at hl 0 rfl) ?_
    refine lv_aload_n hx hb dX9_noteReaders_39 rfl (lv_at hl 2 rfl) ?_
    refine fg_1007 C w hka2 tw_2_29 dX9_noteReaders_40 ?_
    obtain ⟨⟨h4, r5⟩, e6, hJ⟩ := ob_some hJ
    refine jc_Vv (As := [.int ((h.sfi 1009 a2 (1 : Int32)).fi 1007 a2)]) C w (cc_X7_noteOut N a1 (h.sfi 1009 a2 (1 : Int32)) ((h.sfi 1009 a2 (1 : Int32)).fi 1007 a2) hka1 e6) (mo_X7_noteOut N a1 (h.sfi 1009 a2 (1 : Int32)) ((h.sfi 1009 a2 (1 : Int32)).fi 1007 a2) e6) (mb_X9_noteReaders_46 N k2 t0 _ _ _ m2 hJ) hz2 hka1 (by decide) rfl (fs := fs10 (h.sfi 1009 a2 (1 : Int32)) a1) rfl rfl ⟨tw_5_235, tw_5_232, tw_5_233, tw_5_234, tw_1_9⟩ cd_X7_noteOut ⟨by decide, by decide⟩ hl.1 (by first | exact Nat.le_of_ble_eq_true rfl | simp [rf_cat, cat_i, cat_l, cat_r]) rfl dX9_noteReaders_43 (fun H locs w1 => ?_)
    have hk7 := kd_keep w (mo_X7_noteOut N a1 (h.sfi 1009 a2 (1 : Int32)) ((h.sfi 1009 a2 (1 : Int32)).fi 1007 a2) e6) hk0 (by decide)
    have w := w1
    exact sb_X9_noteReaders_46 C hz2 N k2 t0 m2 i2 _ _ _ hJ hk7 w (lv_sub (l' := [(0, .ref t0), (1, .ref a2), (2, .int x2)]) hl [1, 2, 3] rfl)
def B_X9_noteReaders_10 (N : Nat) (k2 : Hp → (Option Nat) → Int32 → Option (Hp × Unit)) (t0 : Nat) (h : Hp) (x1 : Option Nat) (x2 : Int32) (y0 : Int32) (y1 : Int32) : Option (Hp × Unit) := if y1 ≤ y0 then (some (h, ())) else (dr h 2 (h.fr 1207 t0) (fun a9 => (J_Jx4a65c_get_915e3 N a9 h x2).bind (fun z => B_X9_noteReaders_21 N k2 t0 z.1 x1 x2 z.2)))
theorem mb_X9_noteReaders_10 (N : Nat) (k2 : Hp → (Option Nat) → Int32 → Option (Hp × Unit)) (t0 : Nat) (h : Hp) (x1 : Option Nat) (x2 : Int32) (y0 : Int32) (y1 : Int32) (m2 : ∀ (h : Hp) (x1 : Option Nat) (x2 : Int32), k2 h x1 x2 = some (hz, ()) → Mo h hz) (hJ : B_X9_noteReaders_10 N k2 t0 h x1 x2 y0 y1 = some (hz, ())) : Mo h hz := by
  unfold B_X9_noteReaders_10 at hJ
  by_cases c8 : y1 ≤ y0
  · have hJ := it_pos c8 hJ
    obtain ⟨rfl, -⟩ := rs2 hJ
    exact ⟨fun _ _ => rfl, Nat.le_refl _, Nat.le_refl _, rfl, fun _ _ => rfl⟩
  · have hJ := it_neg c8 hJ
    obtain ⟨a9, ea9, -, hJ⟩ := dr_some hJ
    obtain ⟨⟨h10, r11⟩, e12, hJ⟩ := ob_some hJ
    exact (mo_Jx4a65c_get_915e3 N a9 h x2 e12).tr (mb_X9_noteReaders_21 N k2 t0 _ _ _ _ m2 hJ)
set_option maxRecDepth 100000 in
set_option maxHeartbeats 4000000 in
theorem sb_X9_noteReaders_10 (C : Cx p s m args meth c cX9_noteReaders 4 none RX9 D cs A h0.se) (hz2 : hz.nx ≤ h0.nx + mc ∧ hz.su ≤ h0.su + ms) (N : Nat) (k2 : Hp → (Option Nat) → Int32 → Option (Hp × Unit)) (t0 : Nat) (m2 : ∀ (h : Hp) (x1 : Option Nat) (x2 : Int32), k2 h x1 x2 = some (hz, ()) → Mo h hz) (i2 : ∀ (h : Hp) (x1 : Option Nat) (x2 : Int32) (H : Heap) (locs : List Loc) (cells slots : Nat) (ls : Array Slot), k2 h x1 x2 = some (hz, ()) → h.kd t0 = 12 → Wo D cs A s h0 h H locs cells slots → lv_has ls 4 [(0, .ref t0), (1, va_rf x1), (2, .int x2)] → W p l e { frames := 3, cells := mc, slots := ms, locals := 90 } s m args below meth c H locs cells slots (MQ below (Zv D cs A hz) args s mc ms A) (F0 m 2 ls [])) (h : Hp) (x1 : Option Nat) (x2 : Int32) (y0 : Int32) (y1 : Int32) (hJ : B_X9_noteReaders_10 N k2 t0 h x1 x2 y0 y1 = some (hz, ())) (hk0 : h.kd t0 = 12) {H : Heap} {locs : List Loc} {cells slots : Nat} (w : Wo D cs A s h0 h H locs cells slots) {ls : Array Slot} (hl : lv_has ls 4 [(0, .ref t0), (1, va_rf x1), (2, .int x2)]) : W p l e { frames := 3, cells := mc, slots := ms, locals := 90 } s m args below meth c H locs cells slots (MQ below (Zv D cs A hz) args s mc ms A) (F0 m 10 ls [.int y1, .int y0]) := by
  obtain ⟨hx, hb, hml, hown, hts, -⟩ := id C
  unfold B_X9_noteReaders_10 at hJ
  refine lv_icmp_ge (tgt := 52) hx hb dX9_noteReaders_10 (by decide) (fun c8 => ?_) (fun c8 => ?_)
  · have hJ := it_pos c8 hJ
    obtain ⟨rfl, -⟩ := rs2 hJ
    exact jr_vret C w hz2 dX9_noteReaders_52
  · have hJ := it_neg c8 hJ
    refine lv_aload_n hx hb dX9_noteReaders_13 rfl (lv_at hl 0 rfl) ?_
    refine fg_1207 C w hk0 tw_1_139 dX9_noteReaders_14 ?_
    refine lv_iload_n hx hb dX9_noteReaders_17 rfl (lv_at hl 2 rfl) ?_
    obtain ⟨a9, ea9, hka9, hJ⟩ := dr_some hJ
    rw [ea9]
    obtain ⟨⟨h10, r11⟩, e12, hJ⟩ := ob_some hJ
    refine jc_Vq (As := [.int x2]) C w (cc_Jx4a65c_get_915e3 N a9 h x2 hka9 e12) (mo_Jx4a65c_get_915e3 N a9 h x2 e12) (mb_X9_noteReaders_21 N k2 t0 _ _ _ _ m2 hJ) hz2 hka9 (by decide) rfl (fs := fs2 h a9) rfl rfl ⟨tw_2_65, tw_2_62, tw_2_63, tw_2_64, tw_1_5⟩ cd_Jx4a65c_get_915e3 ⟨by decide, by decide⟩ hl.1 (by first | exact Nat.le_of_ble_eq_true rfl | simp [rf_cat, cat_i, cat_l, cat_r]) rfl dX9_noteReaders_18 (fun H locs w1 => ?_)
    have hk13 := kd_keep w (mo_Jx4a65c_get_915e3 N a9 h x2 e12) hk0 (by decide)
    have w := w1
    exact sb_X9_noteReaders_21 C hz2 N k2 t0 m2 i2 _ _ _ _ hJ hk13 w hl
def B_X9_noteReaders_2 (N : Nat) (k2 : Hp → (Option Nat) → Int32 → Option (Hp × Unit)) (t0 : Nat) (h : Hp) (x1 : Option Nat) (x2 : Int32) : Option (Hp × Unit) := dr h 2 (h.fr 1207 t0) (fun a14 => (J_Jx4a65c_size_8abf5 N a14 h).bind (fun z => B_X9_noteReaders_10 N k2 t0 z.1 x1 x2 x2 z.2))
theorem mb_X9_noteReaders_2 (N : Nat) (k2 : Hp → (Option Nat) → Int32 → Option (Hp × Unit)) (t0 : Nat) (h : Hp) (x1 : Option Nat) (x2 : Int32) (m2 : ∀ (h : Hp) (x1 : Option Nat) (x2 : Int32), k2 h x1 x2 = some (hz, ()) → Mo h hz) (hJ : B_X9_noteReaders_2 N k2 t0 h x1 x2 = some (hz, ())) : Mo h hz := by
  unfold B_X9_noteReaders_2 at hJ
  obtain ⟨a14, ea14, -, hJ⟩ := dr_some hJ
  obtain ⟨⟨h15, r16⟩, e17, hJ⟩ := ob_some hJ
  exact (mo_Jx4a65c_size_8abf5 N a14 h e17).tr (mb_X9_noteReaders_10 N k2 t0 _ _ _ _ _ m2 hJ)
set_option maxRecDepth 100000 in
set_option maxHeartbeats 4000000 in
theorem sb_X9_noteReaders_2 (C : Cx p s m args meth c cX9_noteReaders 4 none RX9 D cs A h0.se) (hz2 : hz.nx ≤ h0.nx + mc ∧ hz.su ≤ h0.su + ms) (N : Nat) (k2 : Hp → (Option Nat) → Int32 → Option (Hp × Unit)) (t0 : Nat) (m2 : ∀ (h : Hp) (x1 : Option Nat) (x2 : Int32), k2 h x1 x2 = some (hz, ()) → Mo h hz) (i2 : ∀ (h : Hp) (x1 : Option Nat) (x2 : Int32) (H : Heap) (locs : List Loc) (cells slots : Nat) (ls : Array Slot), k2 h x1 x2 = some (hz, ()) → h.kd t0 = 12 → Wo D cs A s h0 h H locs cells slots → lv_has ls 4 [(0, .ref t0), (1, va_rf x1), (2, .int x2)] → W p l e { frames := 3, cells := mc, slots := ms, locals := 90 } s m args below meth c H locs cells slots (MQ below (Zv D cs A hz) args s mc ms A) (F0 m 2 ls [])) (h : Hp) (x1 : Option Nat) (x2 : Int32) (hJ : B_X9_noteReaders_2 N k2 t0 h x1 x2 = some (hz, ())) (hk0 : h.kd t0 = 12) {H : Heap} {locs : List Loc} {cells slots : Nat} (w : Wo D cs A s h0 h H locs cells slots) {ls : Array Slot} (hl : lv_has ls 4 [(0, .ref t0), (1, va_rf x1), (2, .int x2)]) : W p l e { frames := 3, cells := mc, slots := ms, locals := 90 } s m args below meth c H locs cells slots (MQ below (Zv D cs A hz) args s mc ms A) (F0 m 2 ls []) := by
  obtain ⟨hx, hb, hml, hown, hts, -⟩ := id C
  unfold B_X9_noteReaders_2 at hJ
  refine lv_iload_n hx hb dX9_noteReaders_2 rfl (lv_at hl 2 rfl) ?_
  refine lv_aload_n hx hb dX9_noteReaders_3 rfl (lv_at hl 0 rfl) ?_
  refine fg_1207 C w hk0 tw_1_139 dX9_noteReaders_4 ?_
  obtain ⟨a14, ea14, hka14, hJ⟩ := dr_some hJ
  rw [ea14]
  obtain ⟨⟨h15, r16⟩, e17, hJ⟩ := ob_some hJ
  refine jc_Vi (As := []) C w (cc_Jx4a65c_size_8abf5 N a14 h hka14 e17) (mo_Jx4a65c_size_8abf5 N a14 h e17) (mb_X9_noteReaders_10 N k2 t0 _ _ _ _ _ m2 hJ) hz2 hka14 (by decide) rfl (fs := fs2 h a14) rfl rfl ⟨tw_1_182, tw_1_179, tw_1_180, tw_1_181, tw_1_5⟩ cd_Jx4a65c_size_8abf5 ⟨by decide, by decide⟩ hl.1 (by first | exact Nat.le_of_ble_eq_true rfl | simp [rf_cat, cat_i, cat_l, cat_r]) rfl dX9_noteReaders_7 (fun H locs w1 => ?_)
  have hk18 := kd_keep w (mo_Jx4a65c_size_8abf5 N a14 h e17) hk0 (by decide)
  have w := w1
  exact sb_X9_noteReaders_10 C hz2 N k2 t0 m2 i2 _ _ _ _ _ hJ hk18 w hl
def L_X9_noteReaders_2 (N : Nat) (t0 : Nat) : Nat → Hp → (Option Nat) → Int32 → Option (Hp × Unit)
  | 0 => fun _ _ _ => none
  | n + 1 => fun h x1 x2 => B_X9_noteReaders_2 N (L_X9_noteReaders_2 N t0 n) t0 h x1 x2
theorem ml_X9_noteReaders_2 (N : Nat) (t0 : Nat) : ∀ (n : Nat) (h : Hp) (x1 : Option Nat) (x2 : Int32), L_X9_noteReaders_2 N t0 n h x1 x2 = some (hz, ()) → Mo h hz := by
  intro n
  induction n with
  | zero => intro h x1 x2 hJ; cases hJ
  | succ n ih => intro h x1 x2 hJ; exact mb_X9_noteReaders_2 N (L_X9_noteReaders_2 N t0 n) t0 h x1 x2 ih hJ
theorem sl_X9_noteReaders_2 (C : Cx p s m args meth c cX9_noteReaders 4 none RX9 D cs A h0.se) (hz2 : hz.nx ≤ h0.nx + mc ∧ hz.su ≤ h0.su + ms) (N : Nat) (t0 : Nat) : ∀ n : Nat, ∀ (h : Hp) (x1 : Option Nat) (x2 : Int32) (H : Heap) (locs : List Loc) (cells slots : Nat) (ls : Array Slot), L_X9_noteReaders_2 N t0 n h x1 x2 = some (hz, ()) → h.kd t0 = 12 → Wo D cs A s h0 h H locs cells slots → lv_has ls 4 [(0, .ref t0), (1, va_rf x1), (2, .int x2)] → W p l e { frames := 3, cells := mc, slots := ms, locals := 90 } s m args below meth c H locs cells slots (MQ below (Zv D cs A hz) args s mc ms A) (F0 m 2 ls []) := by
  intro n
  induction n with
  | zero => intro h x1 x2 H locs cells slots ls hJ; cases hJ
  | succ n ih =>
    intro h x1 x2 H locs cells slots ls hJ hk0 w hl
    exact sb_X9_noteReaders_2 C hz2 N (L_X9_noteReaders_2 N t0 n) t0 (ml_X9_noteReaders_2 N t0 n) ih h x1 x2 hJ hk0 w hl
def B_X9_noteReaders_0 (N : Nat) (t0 : Nat) (h : Hp) (x1 : Option Nat) : Option (Hp × Unit) := L_X9_noteReaders_2 N t0 N h x1 (0 : Int32)
theorem mb_X9_noteReaders_0 (N : Nat) (t0 : Nat) (h : Hp) (x1 : Option Nat) (hJ : B_X9_noteReaders_0 N t0 h x1 = some (hz, ())) : Mo h hz := by
  unfold B_X9_noteReaders_0 at hJ
  exact ml_X9_noteReaders_2 N t0 N _ _ _ hJ
set_option maxRecDepth 100000 in
set_option maxHeartbeats 4000000 in
theorem sb_X9_noteReaders_0 (C : Cx p s m args meth c cX9_noteReaders 4 none RX9 D cs A h0.se) (hz2 : hz.nx ≤ h0.nx + mc ∧ hz.su ≤ h0.su + ms) (N : Nat) (t0 : Nat) (h : Hp) (x1 : Option Nat) (hJ : B_X9_noteReaders_0 N t0 h x1 = some (hz, ())) (hk0 : h.kd t0 = 12) {H : Heap} {locs : List Loc} {cells slots : Nat} (w : Wo D cs A s h0 h H locs cells slots) {ls : Array Slot} (hl : lv_has ls 4 [(0, .ref t0), (1, va_rf x1)]) : W p l e { frames := 3, cells := mc, slots := ms, locals := 90 } s m args below meth c H locs cells slots (MQ below (Zv D cs A hz) args s mc ms A) (F0 m 0 ls []) := by
  obtain ⟨hx, hb, hml, hown, hts, -⟩ := id C
  unfold B_X9_noteReaders_0 at hJ
  refine lv_iconst (v := (0 : Int32)) hx hb dX9_noteReaders_0 (by decide) ?_
  refine lv_istore_n (i := 2) (lv' := [(2, .int (0 : Int32)), (0, .ref t0), (1, va_rf x1)]) hx hb dX9_noteReaders_1 rfl hl (by decide) (by simp [List.filter, rf_cat, cat_i, cat_l, cat_r]) (fun ls hl => ?_)
  exact sl_X9_noteReaders_2 C hz2 N t0 N _ _ _ _ _ _ _ _ hJ hk0 w (lv_sub (l' := [(0, .ref t0), (1, va_rf x1), (2, .int (0 : Int32))]) hl [1, 2, 0] rfl)
def J_X9_noteReaders (N : Nat) (t0 : Nat) (h : Hp) (x1 : Option Nat) : Option (Hp × Unit) := B_X9_noteReaders_0 N t0 h x1
theorem mo_X9_noteReaders (N : Nat) (t0 : Nat) (h : Hp) (x1 : Option Nat) (hJ : J_X9_noteReaders N t0 h x1 = some (hz, ())) : Mo h hz := mb_X9_noteReaders_0 N t0 h x1 hJ
theorem cd_X9_noteReaders : Cd yX9_noteReaders 1 := ⟨by decide +kernel, by decide +kernel, by decide +kernel⟩
theorem cc_X9_noteReaders (N : Nat) (t0 : Nat) (h : Hp) (x1 : Option Nat) (hk0 : h.kd t0 = 12) (hJ : J_X9_noteReaders N t0 h x1 = some (hz, ())) : Cv l yX9_noteReaders cX9_noteReaders 4 none 3 90 D cs h hz [.ref t0, va_rf x1] := by
  intro mc ms g1 g2
  refine je_any (by decide) (by simp [lg_sl, rf_cat, cat_i, cat_l, cat_r]) ?_
  intro p e s m args below meth c C hin2 w ls hl
  have hl : lv_has ls 4 [(0, .ref t0), (1, va_rf x1)] := by simpa [lv_args, rf_cat, cat_i, cat_l, cat_r] using hl
  exact sb_X9_noteReaders_0 C ⟨g1, g2⟩ N t0 h x1 hJ hk0 w hl
end G_X9_noteReaders
section G_X9_commit
variable {p : Program} {l : Launch} {e : Env} {s : State} {m : MethodId} {args : Array Value} {below : List Frame} {meth : Method} {c : Code} {D : va_G} {cs : C4} {A : Nat → Prop} {h0 hz : Hp} {mc ms : Nat} {rz : Int32}
def B_X9_commit_20 (N : Nat) (t0 : Nat) (h : Hp) : Option (Hp × Int32) := some (h, (1 : Int32))
theorem mb_X9_commit_20 (N : Nat) (t0 : Nat) (h : Hp) (hJ : B_X9_commit_20 N t0 h = some (hz, rz)) : Mo h hz := by
  unfold B_X9_commit_20 at hJ
  obtain ⟨rfl, -⟩ := rs2 hJ
  exact ⟨fun _ _ => rfl, Nat.le_refl _, Nat.le_refl _, rfl, fun _ _ => rfl⟩
set_option maxRecDepth 100000 in
set_option maxHeartbeats 4000000 in
theorem sb_X9_commit_20 (C : Cx p s m args meth c cX9_commit 3 (some .int) RX9 D cs A h0.se) (hz2 : hz.nx ≤ h0.nx + mc ∧ hz.su ≤ h0.su + ms) (N : Nat) (t0 : Nat) (h : Hp) (hJ : B_X9_commit_20 N t0 h = some (hz, rz)) (hk0 : h.kd t0 = 12) {H : Heap} {locs : List Loc} {cells slots : Nat} (w : Wo D cs A s h0 h H locs cells slots) {ls : Array Slot} (hl : lv_has ls 3 [(0, .ref t0)]) : W p l e { frames := 9, cells := mc, slots := ms, locals := 290 } s m args below meth c H locs cells slots (MQ below (Zi D cs A hz rz) args s mc ms A) (F0 m 20 ls []) := by
  obtain ⟨hx, hb, hml, hown, hts, -⟩ := id C
  unfold B_X9_commit_20 at hJ
  refine lv_iconst (v := (1 : Int32)) hx hb dX9_commit_20 (by decide) ?_
  obtain ⟨rfl, rfl⟩ := rs2 hJ
  exact jr_iret C w hz2 dX9_commit_21
def B_X9_commit_41 (N : Nat) (t0 : Nat) (h : Hp) : Option (Hp × Int32) := some (h, (2 : Int32))
theorem mb_X9_commit_41 (N : Nat) (t0 : Nat) (h : Hp) (hJ : B_X9_commit_41 N t0 h = some (hz, rz)) : Mo h hz := by
  unfold B_X9_commit_41 at hJ
  obtain ⟨rfl, -⟩ := rs2 hJ
  exact ⟨fun _ _ => rfl, Nat.le_refl _, Nat.le_refl _, rfl, fun _ _ => rfl⟩
set_option maxRecDepth 100000 in
set_option maxHeartbeats 4000000 in
theorem sb_X9_commit_41 (C : Cx p s m args meth c cX9_commit 3 (some .int) RX9 D cs A h0.se) (hz2 : hz.nx ≤ h0.nx + mc ∧ hz.su ≤ h0.su + ms) (N : Nat) (t0 : Nat) (h : Hp) (hJ : B_X9_commit_41 N t0 h = some (hz, rz)) (hk0 : h.kd t0 = 12) {H : Heap} {locs : List Loc} {cells slots : Nat} (w : Wo D cs A s h0 h H locs cells slots) {ls : Array Slot} (hl : lv_has ls 3 [(0, .ref t0)]) : W p l e { frames := 9, cells := mc, slots := ms, locals := 290 } s m args below meth c H locs cells slots (MQ below (Zi D cs A hz rz) args s mc ms A) (F0 m 41 ls []) := by
  obtain ⟨hx, hb, hml, hown, hts, -⟩ := id C
  unfold B_X9_commit_41 at hJ
  refine lv_iconst (v := (2 : Int32)) hx hb dX9_commit_41 (by decide) ?_
  obtain ⟨rfl, rfl⟩ := rs2 hJ
  exact jr_iret C w hz2 dX9_commit_42
def B_X9_commit_87 (N : Nat) (t0 : Nat) (h : Hp) : Option (Hp × Int32) := some (h, (0 : Int32))
theorem mb_X9_commit_87 (N : Nat) (t0 : Nat) (h : Hp) (hJ : B_X9_commit_87 N t0 h = some (hz, rz)) : Mo h hz := by
  unfold B_X9_commit_87 at hJ
  obtain ⟨rfl, -⟩ := rs2 hJ
  exact ⟨fun _ _ => rfl, Nat.le_refl _, Nat.le_refl _, rfl, fun _ _ => rfl⟩
set_option maxRecDepth 100000 in
set_option maxHeartbeats 4000000 in
theorem sb_X9_commit_87 (C : Cx p s m args meth c cX9_commit 3 (some .int) RX9 D cs A h0.se) (hz2 : hz.nx ≤ h0.nx + mc ∧ hz.su ≤ h0.su + ms) (N : Nat) (t0 : Nat) (h : Hp) (hJ : B_X9_commit_87 N t0 h = some (hz, rz)) (hk0 : h.kd t0 = 12) {H : Heap} {locs : List Loc} {cells slots : Nat} (w : Wo D cs A s h0 h H locs cells slots) {ls : Array Slot} (hl : lv_has ls 3 [(0, .ref t0)]) : W p l e { frames := 9, cells := mc, slots := ms, locals := 290 } s m args below meth c H locs cells slots (MQ below (Zi D cs A hz rz) args s mc ms A) (F0 m 87 ls []) := by
  obtain ⟨hx, hb, hml, hown, hts, -⟩ := id C
  unfold B_X9_commit_87 at hJ
  refine lv_iconst (v := (0 : Int32)) hx hb dX9_commit_87 (by decide) ?_
  obtain ⟨rfl, rfl⟩ := rs2 hJ
  exact jr_iret C w hz2 dX9_commit_88
def B_X9_commit_81 (N : Nat) (t0 : Nat) (h : Hp) (x2 : Option Nat) : Option (Hp × Int32) := (J_X9_end N t0 h x2 (2 : Int32)).bind (fun z => B_X9_commit_87 N t0 z.1)
theorem mb_X9_commit_81 (N : Nat) (t0 : Nat) (h : Hp) (x2 : Option Nat) (hJ : B_X9_commit_81 N t0 h x2 = some (hz, rz)) : Mo h hz := by
  unfold B_X9_commit_81 at hJ
  obtain ⟨⟨h1, r2⟩, e3, hJ⟩ := ob_some hJ
  exact (mo_X9_end N t0 h x2 (2 : Int32) e3).tr (mb_X9_commit_87 N t0 _ hJ)
set_option maxRecDepth 100000 in
set_option maxHeartbeats 4000000 in
theorem sb_X9_commit_81 (C : Cx p s m args meth c cX9_commit 3 (some .int) RX9 D cs A h0.se) (hz2 : hz.nx ≤ h0.nx + mc ∧ hz.su ≤ h0.su + ms) (N : Nat) (t0 : Nat) (h : Hp) (x2 : Option Nat) (hJ : B_X9_commit_81 N t0 h x2 = some (hz, rz)) (hk0 : h.kd t0 = 12) {H : Heap} {locs : List Loc} {cells slots : Nat} (w : Wo D cs A s h0 h H locs cells slots) {ls : Array Slot} (hl : lv_has ls 3 [(0, .ref t0), (2, va_rf x2)]) : W p l e { frames := 9, cells := mc, slots := ms, locals := 290 } s m args below meth c H locs cells slots (MQ below (Zi D cs A hz rz) args s mc ms A) (F0 m 81 ls []) := by
  obtain ⟨hx, hb, hml, hown, hts, -⟩ := id C
  unfold B_X9_commit_81 at hJ
  refine lv_aload_n hx hb dX9_commit_81 rfl (lv_at hl 0 rfl) ?_
  refine jv_aload_n hx hb dX9_commit_82 rfl (lv_at hl 1 rfl) ?_
  refine lv_iconst (v := (2 : Int32)) hx hb dX9_commit_83 (by decide) ?_
  obtain ⟨⟨h1, r2⟩, e3, hJ⟩ := ob_some hJ
  refine jc_Vv (As := [va_rf x2, .int (2 : Int32)]) C w (cc_X9_end N t0 h x2 (2 : Int32) hk0 e3) (mo_X9_end N t0 h x2 (2 : Int32) e3) (mb_X9_commit_87 N t0 _ hJ) hz2 hk0 (by decide) rfl (fs := fs12 h t0) rfl rfl ⟨tw_5_203, tw_5_200, tw_5_202, ts_24, tw_1_1⟩ cd_X9_end ⟨by decide, by decide⟩ hl.1 (by first | exact Nat.le_of_ble_eq_true rfl | simp [rf_cat, cat_i, cat_l, cat_r]) rfl dX9_commit_84 (fun H locs w1 => ?_)
  have hk4 := kd_keep w (mo_X9_end N t0 h x2 (2 : Int32) e3) hk0 (by decide)
  have w := w1
  exact sb_X9_commit_87 C hz2 N t0 _ hJ hk4 w (lv_sub (l' := [(0, .ref t0)]) hl [0] rfl)
def B_X9_commit_76 (N : Nat) (t0 : Nat) (h : Hp) (x2 : Option Nat) : Option (Hp × Int32) := (J_X9_noteReaders N t0 h x2).bind (fun z => B_X9_commit_81 N t0 z.1 x2)
theorem mb_X9_commit_76 (N : Nat) (t0 : Nat) (h : Hp) (x2 : Option Nat) (hJ : B_X9_commit_76 N t0 h x2 = some (hz, rz)) : Mo h hz := by
  unfold B_X9_commit_76 at hJ
  obtain ⟨⟨h5, r6⟩, e7, hJ⟩ := ob_some hJ
  exact (mo_X9_noteReaders N t0 h x2 e7).tr (mb_X9_commit_81 N t0 _ _ hJ)
set_option maxRecDepth 100000 in
set_option maxHeartbeats 4000000 in
theorem sb_X9_commit_76 (C : Cx p s m args meth c cX9_commit 3 (some .int) RX9 D cs A h0.se) (hz2 : hz.nx ≤ h0.nx + mc ∧ hz.su ≤ h0.su + ms) (N : Nat) (t0 : Nat) (h : Hp) (x2 : Option Nat) (hJ : B_X9_commit_76 N t0 h x2 = some (hz, rz)) (hk0 : h.kd t0 = 12) {H : Heap} {locs : List Loc} {cells slots : Nat} (w : Wo D cs A s h0 h H locs cells slots) {ls : Array Slot} (hl : lv_has ls 3 [(0, .ref t0), (2, va_rf x2)]) : W p l e { frames := 9, cells := mc, slots := ms, locals := 290 } s m args below meth c H locs cells slots (MQ below (Zi D cs A hz rz) args s mc ms A) (F0 m 76 ls []) := by
  obtain ⟨hx, hb, hml, hown, hts, -⟩ := id C
  unfold B_X9_commit_76 at hJ
  refine lv_aload_n hx hb dX9_commit_76 rfl (lv_at hl 0 rfl) ?_
  refine jv_aload_n hx hb dX9_commit_77 rfl (lv_at hl 1 rfl) ?_
  obtain ⟨⟨h5, r6⟩, e7, hJ⟩ := ob_some hJ
  refine jc_Vv (As := [va_rf x2]) C w (cc_X9_noteReaders N t0 h x2 hk0 e7) (mo_X9_noteReaders N t0 h x2 e7) (mb_X9_commit_81 N t0 _ _ hJ) hz2 hk0 (by decide) rfl (fs := fs12 h t0) rfl rfl ⟨tw_6_148, tw_6_145, tw_6_147, ts_30, tw_1_1⟩ cd_X9_noteReaders ⟨by decide, by decide⟩ hl.1 (by first | exact Nat.le_of_ble_eq_true rfl | simp [rf_cat, cat_i, cat_l, cat_r]) rfl dX9_commit_78 (fun H locs w1 => ?_)
  have hk8 := kd_keep w (mo_X9_noteReaders N t0 h x2 e7) hk0 (by decide)
  have w := w1
  exact sb_X9_commit_81 C hz2 N t0 _ _ hJ hk8 w hl
def B_X9_commit_64 (N : Nat) (t0 : Nat) (h : Hp) (x2 : Option Nat) (y0 : Int32) : Option (Hp × Int32) := dr h 10 x2 (fun a9 => dr h 11 (h.fr 1002 a9) (fun a10 => (J_X8_install N a10 h (h.fi 1007 a9)).bind (fun z => B_X9_commit_76 N t0 z.1 (some a9))))
theorem mb_X9_commit_64 (N : Nat) (t0 : Nat) (h : Hp) (x2 : Option Nat) (y0 : Int32) (hJ : B_X9_commit_64 N t0 h x2 y0 = some (hz, rz)) : Mo h hz := by
  unfold B_X9_commit_64 at hJ
  obtain ⟨a9, ea9, -, hJ⟩ := dr_some hJ
  obtain ⟨a10, ea10, -, hJ⟩ := dr_some hJ
  obtain ⟨⟨h11, r12⟩, e13, hJ⟩ := ob_some hJ
  exact (mo_X8_install N a10 h (h.fi 1007 a9) e13).tr (mb_X9_commit_76 N t0 _ _ hJ)
set_option maxRecDepth 100000 in
set_option maxHeartbeats 4000000 in
theorem sb_X9_commit_64 (C : Cx p s m args meth c cX9_commit 3 (some .int) RX9 D cs A h0.se) (hz2 : hz.nx ≤ h0.nx + mc ∧ hz.su ≤ h0.su + ms) (N : Nat) (t0 : Nat) (h : Hp) (x2 : Option Nat) (y0 : Int32) (hJ : B_X9_commit_64 N t0 h x2 y0 = some (hz, rz)) (hk0 : h.kd t0 = 12) {H : Heap} {locs : List Loc} {cells slots : Nat} (w : Wo D cs A s h0 h H locs cells slots) {ls : Array Slot} (hl : lv_has ls 3 [(0, .ref t0), (2, va_rf x2)]) : W p l e { frames := 9, cells := mc, slots := ms, locals := 290 } s m args below meth c H locs cells slots (MQ below (Zi D cs A hz rz) args s mc ms A) (F0 m 64 ls [.int y0]) := by
  obtain ⟨hx, hb, hml, hown, hts, -⟩ := id C
  unfold B_X9_commit_64 at hJ
  refine lv_pop hx hb dX9_commit_64 rfl ?_
  refine jv_aload_n hx hb dX9_commit_65 rfl (lv_at hl 1 rfl) ?_
  obtain ⟨a9, ea9, hka9, hJ⟩ := dr_some hJ
  rw [ea9] at hl
  rw [ea9]
  refine fg_1002 C w hka9 tw_2_16 dX9_commit_66 ?_
  refine lv_aload_n hx hb dX9_commit_69 rfl (lv_at hl 1 rfl) ?_
  refine fg_1007 C w hka9 tw_2_29 dX9_commit_70 ?_
  obtain ⟨a10, ea10, hka10, hJ⟩ := dr_some hJ
  rw [ea10]
  obtain ⟨⟨h11, r12⟩, e13, hJ⟩ := ob_some hJ
  refine jc_Vv (As := [.int (h.fi 1007 a9)]) C w (cc_X8_install N a10 h (h.fi 1007 a9) hka10 e13) (mo_X8_install N a10 h (h.fi 1007 a9) e13) (mb_X9_commit_76 N t0 _ _ hJ) hz2 hka10 (by decide) rfl (fs := fs11 h a10) rfl rfl ⟨tw_5_84, tw_6_144, tw_5_82, tw_5_83, tw_1_8⟩ cd_X8_install ⟨by decide, by decide⟩ hl.1 (by first | exact Nat.le_of_ble_eq_true rfl | simp [rf_cat, cat_i, cat_l, cat_r]) rfl dX9_commit_73 (fun H locs w1 => ?_)
  have hk14 := kd_keep w (mo_X8_install N a10 h (h.fi 1007 a9) e13) hk0 (by decide)
  have w := w1
  exact sb_X9_commit_76 C hz2 N t0 _ _ hJ hk14 w hl
def B_X9_commit_51 (N : Nat) (t0 : Nat) (h : Hp) (x2 : Option Nat) (y0 : Option Nat) (y1 : Int32) : Option (Hp × Int32) := dr h 10 y0 (fun a15 => dr (h.sfi 1007 a15 (y1 + (1 : Int32))) 2 ((h.sfi 1007 a15 (y1 + (1 : Int32))).fr 1203 t0) (fun a16 => (J_Jx4a65c_add_9ea2d N a16 (h.sfi 1007 a15 (y1 + (1 : Int32))) x2).bind (fun z => B_X9_commit_64 N t0 z.1 x2 z.2)))
theorem mb_X9_commit_51 (N : Nat) (t0 : Nat) (h : Hp) (x2 : Option Nat) (y0 : Option Nat) (y1 : Int32) (hJ : B_X9_commit_51 N t0 h x2 y0 y1 = some (hz, rz)) : Mo h hz := by
  unfold B_X9_commit_51 at hJ
  obtain ⟨a15, ea15, -, hJ⟩ := dr_some hJ
  obtain ⟨a16, ea16, -, hJ⟩ := dr_some hJ
  obtain ⟨⟨h17, r18⟩, e19, hJ⟩ := ob_some hJ
  exact (Mo.tr (show Mo h (h.sfi 1007 a15 (y1 + (1 : Int32))) from ⟨fun _ _ => rfl, Nat.le_refl _, Nat.le_refl _, rfl, fun _ _ => rfl⟩) ((mo_Jx4a65c_add_9ea2d N a16 (h.sfi 1007 a15 (y1 + (1 : Int32))) x2 e19).tr (mb_X9_commit_64 N t0 _ _ _ hJ)))
set_option maxRecDepth 100000 in
set_option maxHeartbeats 4000000 in
theorem sb_X9_commit_51 (C : Cx p s m args meth c cX9_commit 3 (some .int) RX9 D cs A h0.se) (hz2 : hz.nx ≤ h0.nx + mc ∧ hz.su ≤ h0.su + ms) (N : Nat) (t0 : Nat) (h : Hp) (x2 : Option Nat) (y0 : Option Nat) (y1 : Int32) (hJ : B_X9_commit_51 N t0 h x2 y0 y1 = some (hz, rz)) (hk0 : h.kd t0 = 12) {H : Heap} {locs : List Loc} {cells slots : Nat} (w : Wo D cs A s h0 h H locs cells slots) {ls : Array Slot} (hl : lv_has ls 3 [(0, .ref t0), (2, va_rf x2)]) : W p l e { frames := 9, cells := mc, slots := ms, locals := 290 } s m args below meth c H locs cells slots (MQ below (Zi D cs A hz rz) args s mc ms A) (F0 m 51 ls [.int y1, va_rf y0]) := by
  obtain ⟨hx, hb, hml, hown, hts, -⟩ := id C
  unfold B_X9_commit_51 at hJ
  refine lv_iconst (v := (1 : Int32)) hx hb dX9_commit_51 (by decide) ?_
  refine lv_iadd hx hb dX9_commit_52 ?_
  obtain ⟨a15, ea15, hka15, hJ⟩ := dr_some hJ
  rw [ea15]
  refine fp_1007 (x := y1 + (1 : Int32)) C w hka15 tw_2_29 dX9_commit_53 (fun H locs w => ?_)
  refine lv_aload_n hx hb dX9_commit_56 rfl (lv_at hl 0 rfl) ?_
  refine fg_1203 C w hk0 tw_1_135 dX9_commit_57 ?_
  refine jv_aload_n hx hb dX9_commit_60 rfl (lv_at hl 1 rfl) ?_
  obtain ⟨a16, ea16, hka16, hJ⟩ := dr_some hJ
  rw [ea16]
  obtain ⟨⟨h17, r18⟩, e19, hJ⟩ := ob_some hJ
  refine jc_Vi (As := [va_rf x2]) C w (cc_Jx4a65c_add_9ea2d N a16 (h.sfi 1007 a15 (y1 + (1 : Int32))) x2 hka16 e19) (mo_Jx4a65c_add_9ea2d N a16 (h.sfi 1007 a15 (y1 + (1 : Int32))) x2 e19) (mb_X9_commit_64 N t0 _ _ _ hJ) hz2 hka16 (by decide) rfl (fs := fs2 (h.sfi 1007 a15 (y1 + (1 : Int32))) a16) rfl rfl ⟨tw_2_87, tw_2_84, tw_2_85, tw_2_86, tw_1_5⟩ cd_Jx4a65c_add_9ea2d ⟨by decide, by decide⟩ hl.1 (by first | exact Nat.le_of_ble_eq_true rfl | simp [rf_cat, cat_i, cat_l, cat_r]) rfl dX9_commit_61 (fun H locs w1 => ?_)
  have hk20 := kd_keep w (mo_Jx4a65c_add_9ea2d N a16 (h.sfi 1007 a15 (y1 + (1 : Int32))) x2 e19) hk0 (by decide)
  have w := w1
  exact sb_X9_commit_64 C hz2 N t0 _ _ _ hJ hk20 w hl
def B_X9_commit_32 (N : Nat) (t0 : Nat) (h : Hp) (x2 : Option Nat) (y0 : Int32) : Option (Hp × Int32) := if y0 = 0 then (dr h 2 (h.fr 1203 t0) (fun a22 => (J_Jx4a65c_size_8abf5 N a22 h).bind (fun z => B_X9_commit_51 N t0 z.1 x2 x2 z.2))) else ((J_X9_end N t0 h x2 (5 : Int32)).bind (fun z => B_X9_commit_41 N t0 z.1))
theorem mb_X9_commit_32 (N : Nat) (t0 : Nat) (h : Hp) (x2 : Option Nat) (y0 : Int32) (hJ : B_X9_commit_32 N t0 h x2 y0 = some (hz, rz)) : Mo h hz := by
  unfold B_X9_commit_32 at hJ
  by_cases c21 : y0 = 0
  · have hJ := it_pos c21 hJ
    obtain ⟨a22, ea22, -, hJ⟩ := dr_some hJ
    obtain ⟨⟨h23, r24⟩, e25, hJ⟩ := ob_some hJ
    exact (mo_Jx4a65c_size_8abf5 N a22 h e25).tr (mb_X9_commit_51 N t0 _ _ _ _ hJ)
  · have hJ := it_neg c21 hJ
    obtain ⟨⟨h27, r28⟩, e29, hJ⟩ := ob_some hJ
    exact (mo_X9_end N t0 h x2 (5 : Int32) e29).tr (mb_X9_commit_41 N t0 _ hJ)
set_option maxRecDepth 100000 in
set_option maxHeartbeats 4000000 in
theorem sb_X9_commit_32 (C : Cx p s m args meth c cX9_commit 3 (some .int) RX9 D cs A h0.se) (hz2 : hz.nx ≤ h0.nx + mc ∧ hz.su ≤ h0.su + ms) (N : Nat) (t0 : Nat) (h : Hp) (x2 : Option Nat) (y0 : Int32) (hJ : B_X9_commit_32 N t0 h x2 y0 = some (hz, rz)) (hk0 : h.kd t0 = 12) {H : Heap} {locs : List Loc} {cells slots : Nat} (w : Wo D cs A s h0 h H locs cells slots) {ls : Array Slot} (hl : lv_has ls 3 [(0, .ref t0), (2, va_rf x2)]) : W p l e { frames := 9, cells := mc, slots := ms, locals := 290 } s m args below meth c H locs cells slots (MQ below (Zi D cs A hz rz) args s mc ms A) (F0 m 32 ls [.int y0]) := by
  obtain ⟨hx, hb, hml, hown, hts, -⟩ := id C
  unfold B_X9_commit_32 at hJ
  refine lv_if_eq (tgt := 43) hx hb dX9_commit_32 (by decide) (fun c21 => ?_) (fun c21 => ?_)
  · have hJ := it_pos c21 hJ
    refine jv_aload_n hx hb dX9_commit_43 rfl (lv_at hl 1 rfl) ?_
    refine lv_aload_n hx hb dX9_commit_44 rfl (lv_at hl 0 rfl) ?_
    refine fg_1203 C w hk0 tw_1_135 dX9_commit_45 ?_
    obtain ⟨a22, ea22, hka22, hJ⟩ := dr_some hJ
    rw [ea22]
    obtain ⟨⟨h23, r24⟩, e25, hJ⟩ := ob_some hJ
    refine jc_Vi (As := []) C w (cc_Jx4a65c_size_8abf5 N a22 h hka22 e25) (mo_Jx4a65c_size_8abf5 N a22 h e25) (mb_X9_commit_51 N t0 _ _ _ _ hJ) hz2 hka22 (by decide) rfl (fs := fs2 h a22) rfl rfl ⟨tw_1_182, tw_1_179, tw_1_180, tw_1_181, tw_1_5⟩ cd_Jx4a65c_size_8abf5 ⟨by decide, by decide⟩ hl.1 (by first | exact Nat.le_of_ble_eq_true rfl | simp [rf_cat, cat_i, cat_l, cat_r]) rfl dX9_commit_48 (fun H locs w1 => ?_)
    have hk26 := kd_keep w (mo_Jx4a65c_size_8abf5 N a22 h e25) hk0 (by decide)
    have w := w1
    exact sb_X9_commit_51 C hz2 N t0 _ _ _ _ hJ hk26 w hl
  · have hJ := it_neg c21 hJ
    refine lv_aload_n hx hb dX9_commit_35 rfl (lv_at hl 0 rfl) ?_
    refine jv_aload_n hx hb dX9_commit_36 rfl (lv_at hl 1 rfl) ?_
    refine lv_iconst (v := (5 : Int32)) hx hb dX9_commit_37 (by decide) ?_
    obtain ⟨⟨h27, r28⟩, e29, hJ⟩ := ob_some hJ
    refine jc_Vv (As := [va_rf x2, .int (5 : Int32)]) C w (cc_X9_end N t0 h x2 (5 : Int32) hk0 e29) (mo_X9_end N t0 h x2 (5 : Int32) e29) (mb_X9_commit_41 N t0 _ hJ) hz2 hk0 (by decide) rfl (fs := fs12 h t0) rfl rfl ⟨tw_5_203, tw_5_200, tw_5_202, ts_24, tw_1_1⟩ cd_X9_end ⟨by decide, by decide⟩ hl.1 (by first | exact Nat.le_of_ble_eq_true rfl | simp [rf_cat, cat_i, cat_l, cat_r]) rfl dX9_commit_38 (fun H locs w1 => ?_)
    have hk30 := kd_keep w (mo_X9_end N t0 h x2 (5 : Int32) e29) hk0 (by decide)
    have w := w1
    exact sb_X9_commit_41 C hz2 N t0 _ hJ hk30 w (lv_sub (l' := [(0, .ref t0)]) hl [0] rfl)
def B_X9_commit_27 (N : Nat) (t0 : Nat) (h : Hp) (x2 : Option Nat) : Option (Hp × Int32) := (J_X9_isInDanger N t0 h x2).bind (fun z => B_X9_commit_32 N t0 z.1 x2 z.2)
theorem mb_X9_commit_27 (N : Nat) (t0 : Nat) (h : Hp) (x2 : Option Nat) (hJ : B_X9_commit_27 N t0 h x2 = some (hz, rz)) : Mo h hz := by
  unfold B_X9_commit_27 at hJ
  obtain ⟨⟨h31, r32⟩, e33, hJ⟩ := ob_some hJ
  exact (mo_X9_isInDanger N t0 h x2 e33).tr (mb_X9_commit_32 N t0 _ _ _ hJ)
set_option maxRecDepth 100000 in
set_option maxHeartbeats 4000000 in
theorem sb_X9_commit_27 (C : Cx p s m args meth c cX9_commit 3 (some .int) RX9 D cs A h0.se) (hz2 : hz.nx ≤ h0.nx + mc ∧ hz.su ≤ h0.su + ms) (N : Nat) (t0 : Nat) (h : Hp) (x2 : Option Nat) (hJ : B_X9_commit_27 N t0 h x2 = some (hz, rz)) (hk0 : h.kd t0 = 12) {H : Heap} {locs : List Loc} {cells slots : Nat} (w : Wo D cs A s h0 h H locs cells slots) {ls : Array Slot} (hl : lv_has ls 3 [(0, .ref t0), (2, va_rf x2)]) : W p l e { frames := 9, cells := mc, slots := ms, locals := 290 } s m args below meth c H locs cells slots (MQ below (Zi D cs A hz rz) args s mc ms A) (F0 m 27 ls []) := by
  obtain ⟨hx, hb, hml, hown, hts, -⟩ := id C
  unfold B_X9_commit_27 at hJ
  refine lv_aload_n hx hb dX9_commit_27 rfl (lv_at hl 0 rfl) ?_
  refine jv_aload_n hx hb dX9_commit_28 rfl (lv_at hl 1 rfl) ?_
  obtain ⟨⟨h31, r32⟩, e33, hJ⟩ := ob_some hJ
  refine jc_Vi (As := [va_rf x2]) C w (cc_X9_isInDanger N t0 h x2 hk0 e33) (mo_X9_isInDanger N t0 h x2 e33) (mb_X9_commit_32 N t0 _ _ _ hJ) hz2 hk0 (by decide) rfl (fs := fs12 h t0) rfl rfl ⟨tw_6_143, tw_6_140, tw_6_142, ts_29, tw_1_1⟩ cd_X9_isInDanger ⟨by decide, by decide⟩ hl.1 (by first | exact Nat.le_of_ble_eq_true rfl | simp [rf_cat, cat_i, cat_l, cat_r]) rfl dX9_commit_29 (fun H locs w1 => ?_)
  have hk34 := kd_keep w (mo_X9_isInDanger N t0 h x2 e33) hk0 (by decide)
  have w := w1
  exact sb_X9_commit_32 C hz2 N t0 _ _ _ hJ hk34 w hl
def B_X9_commit_11 (N : Nat) (t0 : Nat) (h : Hp) (x2 : Option Nat) (y0 : Int32) : Option (Hp × Int32) := if y0 = 0 then ((J_X9_gatherReaders N t0 h x2).bind (fun z => B_X9_commit_27 N t0 z.1 x2)) else ((J_X9_end N t0 h x2 (4 : Int32)).bind (fun z => B_X9_commit_20 N t0 z.1))
theorem mb_X9_commit_11 (N : Nat) (t0 : Nat) (h : Hp) (x2 : Option Nat) (y0 : Int32) (hJ : B_X9_commit_11 N t0 h x2 y0 = some (hz, rz)) : Mo h hz := by
  unfold B_X9_commit_11 at hJ
  by_cases c35 : y0 = 0
  · have hJ := it_pos c35 hJ
    obtain ⟨⟨h36, r37⟩, e38, hJ⟩ := ob_some hJ
    exact (mo_X9_gatherReaders N t0 h x2 e38).tr (mb_X9_commit_27 N t0 _ _ hJ)
  · have hJ := it_neg c35 hJ
    obtain ⟨⟨h40, r41⟩, e42, hJ⟩ := ob_some hJ
    exact (mo_X9_end N t0 h x2 (4 : Int32) e42).tr (mb_X9_commit_20 N t0 _ hJ)
set_option maxRecDepth 100000 in
set_option maxHeartbeats 4000000 in
theorem sb_X9_commit_11 (C : Cx p s m args meth c cX9_commit 3 (some .int) RX9 D cs A h0.se) (hz2 : hz.nx ≤ h0.nx + mc ∧ hz.su ≤ h0.su + ms) (N : Nat) (t0 : Nat) (h : Hp) (x2 : Option Nat) (y0 : Int32) (hJ : B_X9_commit_11 N t0 h x2 y0 = some (hz, rz)) (hk0 : h.kd t0 = 12) {H : Heap} {locs : List Loc} {cells slots : Nat} (w : Wo D cs A s h0 h H locs cells slots) {ls : Array Slot} (hl : lv_has ls 3 [(0, .ref t0), (2, va_rf x2)]) : W p l e { frames := 9, cells := mc, slots := ms, locals := 290 } s m args below meth c H locs cells slots (MQ below (Zi D cs A hz rz) args s mc ms A) (F0 m 11 ls [.int y0]) := by
  obtain ⟨hx, hb, hml, hown, hts, -⟩ := id C
  unfold B_X9_commit_11 at hJ
  refine lv_if_eq (tgt := 22) hx hb dX9_commit_11 (by decide) (fun c35 => ?_) (fun c35 => ?_)
  · have hJ := it_pos c35 hJ
    refine lv_aload_n hx hb dX9_commit_22 rfl (lv_at hl 0 rfl) ?_
    refine jv_aload_n hx hb dX9_commit_23 rfl (lv_at hl 1 rfl) ?_
    obtain ⟨⟨h36, r37⟩, e38, hJ⟩ := ob_some hJ
    refine jc_Vv (As := [va_rf x2]) C w (cc_X9_gatherReaders N t0 h x2 hk0 e38) (mo_X9_gatherReaders N t0 h x2 e38) (mb_X9_commit_27 N t0 _ _ hJ) hz2 hk0 (by decide) rfl (fs := fs12 h t0) rfl rfl ⟨tw_6_127, tw_6_124, tw_6_126, ts_27, tw_1_1⟩ cd_X9_gatherReaders ⟨by decide, by decide⟩ hl.1 (by first | exact Nat.le_of_ble_eq_true rfl | simp [rf_cat, cat_i, cat_l, cat_r]) rfl dX9_commit_24 (fun H locs w1 => ?_)
    have hk39 := kd_keep w (mo_X9_gatherReaders N t0 h x2 e38) hk0 (by decide)
    have w := w1
    exact sb_X9_commit_27 C hz2 N t0 _ _ hJ hk39 w hl
  · have hJ := it_neg c35 hJ
    refine lv_aload_n hx hb dX9_commit_14 rfl (lv_at hl 0 rfl) ?_
    refine jv_aload_n hx hb dX9_commit_15 rfl (lv_at hl 1 rfl) ?_
    refine lv_iconst (v := (4 : Int32)) hx hb dX9_commit_16 (by decide) ?_
    obtain ⟨⟨h40, r41⟩, e42, hJ⟩ := ob_some hJ
    refine jc_Vv (As := [va_rf x2, .int (4 : Int32)]) C w (cc_X9_end N t0 h x2 (4 : Int32) hk0 e42) (mo_X9_end N t0 h x2 (4 : Int32) e42) (mb_X9_commit_20 N t0 _ hJ) hz2 hk0 (by decide) rfl (fs := fs12 h t0) rfl rfl ⟨tw_5_203, tw_5_200, tw_5_202, ts_24, tw_1_1⟩ cd_X9_end ⟨by decide, by decide⟩ hl.1 (by first | exact Nat.le_of_ble_eq_true rfl | simp [rf_cat, cat_i, cat_l, cat_r]) rfl dX9_commit_17 (fun H locs w1 => ?_)
    have hk43 := kd_keep w (mo_X9_end N t0 h x2 (4 : Int32) e42) hk0 (by decide)
    have w := w1
    exact sb_X9_commit_20 C hz2 N t0 _ hJ hk43 w (lv_sub (l' := [(0, .ref t0)]) hl [0] rfl)
def B_X9_commit_5 (N : Nat) (t0 : Nat) (h : Hp) (y0 : Option Nat) : Option (Hp × Int32) := (J_X9_isInConflict N t0 h y0).bind (fun z => B_X9_commit_11 N t0 z.1 y0 z.2)
theorem mb_X9_commit_5 (N : Nat) (t0 : Nat) (h : Hp) (y0 : Option Nat) (hJ : B_X9_commit_5 N t0 h y0 = some (hz, rz)) : Mo h hz := by
  unfold B_X9_commit_5 at hJ
  obtain ⟨⟨h44, r45⟩, e46, hJ⟩ := ob_some hJ
  exact (mo_X9_isInConflict N t0 h y0 e46).tr (mb_X9_commit_11 N t0 _ _ _ hJ)
set_option maxRecDepth 100000 in
set_option maxHeartbeats 4000000 in
theorem sb_X9_commit_5 (C : Cx p s m args meth c cX9_commit 3 (some .int) RX9 D cs A h0.se) (hz2 : hz.nx ≤ h0.nx + mc ∧ hz.su ≤ h0.su + ms) (N : Nat) (t0 : Nat) (h : Hp) (y0 : Option Nat) (hJ : B_X9_commit_5 N t0 h y0 = some (hz, rz)) (hk0 : h.kd t0 = 12) {H : Heap} {locs : List Loc} {cells slots : Nat} (w : Wo D cs A s h0 h H locs cells slots) {ls : Array Slot} (hl : lv_has ls 3 [(0, .ref t0)]) : W p l e { frames := 9, cells := mc, slots := ms, locals := 290 } s m args below meth c H locs cells slots (MQ below (Zi D cs A hz rz) args s mc ms A) (F0 m 5 ls [va_rf y0]) := by
  obtain ⟨hx, hb, hml, hown, hts, -⟩ := id C
  unfold B_X9_commit_5 at hJ
  refine jv_astore_n (i := 2) (lv' := [(2, va_rf y0), (0, .ref t0)]) hx hb dX9_commit_5 rfl hl (by decide) rfl (fun ls hl => ?_)
  refine lv_aload_n hx hb dX9_commit_6 rfl (lv_at hl 1 rfl) ?_
  refine jv_aload_n hx hb dX9_commit_7 rfl (lv_at hl 0 rfl) ?_
  obtain ⟨⟨h44, r45⟩, e46, hJ⟩ := ob_some hJ
  refine jc_Vi (As := [va_rf y0]) C w (cc_X9_isInConflict N t0 h y0 hk0 e46) (mo_X9_isInConflict N t0 h y0 e46) (mb_X9_commit_11 N t0 _ _ _ hJ) hz2 hk0 (by decide) rfl (fs := fs12 h t0) rfl rfl ⟨tw_6_122, tw_6_119, tw_6_121, ts_26, tw_1_1⟩ cd_X9_isInConflict ⟨by decide, by decide⟩ hl.1 (by first | exact Nat.le_of_ble_eq_true rfl | simp [rf_cat, cat_i, cat_l, cat_r]) rfl dX9_commit_8 (fun H locs w1 => ?_)
  have hk47 := kd_keep w (mo_X9_isInConflict N t0 h y0 e46) hk0 (by decide)
  have w := w1
  exact sb_X9_commit_11 C hz2 N t0 _ _ _ hJ hk47 w (lv_sub (l' := [(0, .ref t0), (2, va_rf y0)]) hl [1, 0] rfl)
def B_X9_commit_0 (N : Nat) (t0 : Nat) (h : Hp) (x1 : Int32) : Option (Hp × Int32) := (J_X9_activeOne N t0 h x1).bind (fun z => B_X9_commit_5 N t0 z.1 z.2)
theorem mb_X9_commit_0 (N : Nat) (t0 : Nat) (h : Hp) (x1 : Int32) (hJ : B_X9_commit_0 N t0 h x1 = some (hz, rz)) : Mo h hz := by
  unfold B_X9_commit_0 at hJ
  obtain ⟨⟨h48, r49⟩, e50, hJ⟩ := ob_some hJ
  exact (mo_X9_activeOne N t0 h x1 e50).tr (mb_X9_commit_5 N t0 _ _ hJ)
set_option maxRecDepth 100000 in
set_option maxHeartbeats 4000000 in
theorem sb_X9_commit_0 (C : Cx p s m args meth c cX9_commit 3 (some .int) RX9 D cs A h0.se) (hz2 : hz.nx ≤ h0.nx + mc ∧ hz.su ≤ h0.su + ms) (N : Nat) (t0 : Nat) (h : Hp) (x1 : Int32) (hJ : B_X9_commit_0 N t0 h x1 = some (hz, rz)) (hk0 : h.kd t0 = 12) {H : Heap} {locs : List Loc} {cells slots : Nat} (w : Wo D cs A s h0 h H locs cells slots) {ls : Array Slot} (hl : lv_has ls 3 [(0, .ref t0), (1, .int x1)]) : W p l e { frames := 9, cells := mc, slots := ms, locals := 290 } s m args below meth c H locs cells slots (MQ below (Zi D cs A hz rz) args s mc ms A) (F0 m 0 ls []) := by
  obtain ⟨hx, hb, hml, hown, hts, -⟩ := id C
  unfold B_X9_commit_0 at hJ
  refine lv_aload_n hx hb dX9_commit_0 rfl (lv_at hl 0 rfl) ?_
  refine lv_iload_n hx hb dX9_commit_1 rfl (lv_at hl 1 rfl) ?_
  obtain ⟨⟨h48, r49⟩, e50, hJ⟩ := ob_some hJ
  refine jc_Vq (As := [.int x1]) C w (cc_X9_activeOne N t0 h x1 hk0 e50) (mo_X9_activeOne N t0 h x1 e50) (mb_X9_commit_5 N t0 _ _ hJ) hz2 hk0 (by decide) rfl (fs := fs12 h t0) rfl rfl ⟨tw_5_114, tw_5_111, tw_5_113, ts_17, tw_1_1⟩ cd_X9_activeOne ⟨by decide, by decide⟩ hl.1 (by first | exact Nat.le_of_ble_eq_true rfl | simp [rf_cat, cat_i, cat_l, cat_r]) rfl dX9_commit_2 (fun H locs w1 => ?_)
  have hk51 := kd_keep w (mo_X9_activeOne N t0 h x1 e50) hk0 (by decide)
  have w := w1
  exact sb_X9_commit_5 C hz2 N t0 _ _ hJ hk51 w (lv_sub (l' := [(0, .ref t0)]) hl [0] rfl)
def J_X9_commit (N : Nat) (t0 : Nat) (h : Hp) (x1 : Int32) : Option (Hp × Int32) := B_X9_commit_0 N t0 h x1
theorem mo_X9_commit (N : Nat) (t0 : Nat) (h : Hp) (x1 : Int32) (hJ : J_X9_commit N t0 h x1 = some (hz, rz)) : Mo h hz := mb_X9_commit_0 N t0 h x1 hJ
theorem cd_X9_commit : Cd yX9_commit 1 := ⟨by decide +kernel, by decide +kernel, by decide +kernel⟩
theorem cc_X9_commit (N : Nat) (t0 : Nat) (h : Hp) (x1 : Int32) (hk0 : h.kd t0 = 12) (hJ : J_X9_commit N t0 h x1 = some (hz, rz)) : Ci l yX9_commit cX9_commit 3 (some .int) 9 290 D cs h hz [.ref t0, .int x1] rz := by
  intro mc ms g1 g2
  refine je_any (by decide) (by simp [lg_sl, rf_cat, cat_i, cat_l, cat_r]) ?_
  intro p e s m args below meth c C hin2 w ls hl
  have hl : lv_has ls 3 [(0, .ref t0), (1, .int x1)] := hl
  exact sb_X9_commit_0 C ⟨g1, g2⟩ N t0 h x1 hJ hk0 w hl
end G_X9_commit
