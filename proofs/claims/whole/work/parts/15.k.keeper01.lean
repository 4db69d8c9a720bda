section G_X9_keptVersions
variable {p : Program} {l : Launch} {e : Env} {s : State} {m : MethodId} {args : Array Value} {below : List Frame} {meth : Method} {c : Code} {D : va_G} {cs : C4} {A : Nat → Prop} {h0 hz : Hp} {mc ms : Nat} {rz : Int32}
def B_X9_keptVersions_46 (N : Nat) (k9 : Hp → Int32 → Int32 → Int32 → Option (Hp × Int32)) (t0 : Nat) (h : Hp) (x1 : Int32) (x3 : Int32) (y0 : Int32) (y1 : Int32) : Option (Hp × Int32) := k9 h x1 (y0 + y1) (x3 + (1 : Int32))
theorem mb_X9_keptVersions_46 (N : Nat) (k9 : Hp → Int32 → Int32 → Int32 → Option (Hp × Int32)) (t0 : Nat) (h : Hp) (x1 : Int32) (x3 : Int32) (y0 : Int32) (y1 : Int32) (m9 : ∀ (h : Hp) (x1 : Int32) (x2 : Int32) (x3 : Int32), k9 h x1 x2 x3 = some (hz, rz) → Mo h hz) (hJ : B_X9_keptVersions_46 N k9 t0 h x1 x3 y0 y1 = some (hz, rz)) : Mo h hz := by
  unfold B_X9_keptVersions_46 at hJ
  exact m9 _ _ _ _ hJ
set_option maxRecDepth 100000 in
set_option maxHeartbeats 4000000 in
theorem sb_X9_keptVersions_46 (C : Cx p s m args meth c cX9_keptVersions 5 (some .int) RX9 D cs A h0.se) (hz2 : hz.nx ≤ h0.nx + mc ∧ hz.su ≤ h0.su + ms) (N : Nat) (k9 : Hp → Int32 → Int32 → Int32 → Option (Hp × Int32)) (t0 : Nat) (m9 : ∀ (h : Hp) (x1 : Int32) (x2 : Int32) (x3 : Int32), k9 h x1 x2 x3 = some (hz, rz) → Mo h hz) (i9 : ∀ (h : Hp) (x1 : Int32) (x2 : Int32) (x3 : Int32) (H : Heap) (locs : List Loc) (cells slots : Nat) (ls : Array Slot), k9 h x1 x2 x3 = some (hz, rz) → h.kd t0 = 12 → Wo D cs A s h0 h H locs cells slots → lv_has ls 5 [(0, .ref t0), (1, .int x1), (2, .int x2), (3, .int x3)] → W p l e { frames := 4, cells := mc, slots := ms, locals := 120 } s m args below meth c H locs cells slots (MQ below (Zi D cs A hz rz) args s mc ms A) (F0 m 9 ls [])) (h : Hp) (x1 : Int32) (x3 : Int32) (y0 : Int32) (y1 : Int32) (hJ : B_X9_keptVersions_46 N k9 t0 h x1 x3 y0 y1 = some (hz, rz)) (hk0 : h.kd t0 = 12) {H : Heap} {locs : List Loc} {cells slots : Nat} (w : Wo D cs A s h0 h H locs cells slots) {ls : Array Slot} (hl : lv_has ls 5 [(0, .ref t0), (1, .int x1), (3, .int x3)]) : W p l e { frames := 4, cells := mc, slots := ms, locals := 120 } s m args below meth c H locs cells slots (MQ below (Zi D cs A hz rz) args s mc ms A) (F0 m 46 ls [.int y1, .int y0]) := by
  obtain ⟨hx, hb, hml, hown, hts, -⟩ := id C
  unfold B_X9_keptVersions_46 at hJ
  refine lv_iadd hx hb dX9_keptVersions_46 ?_
  refine lv_istore_n (i := 2) (lv' := [(2, .int (y0 + y1)), (0, .ref t0), (1, .int x1), (3, .int x3)]) hx hb dX9_keptVersions_47 rfl hl (by decide) rfl (fun ls hl => ?_)
  refine lv_iinc (v := x3 + (1 : Int32)) (lv' := [(3, .int (x3 + (1 : Int32))), (2, .int (y0 + y1)), (0, .ref t0), (1, .int x1)]) hx hb dX9_keptVersions_48 hl (k := 3) rfl rfl (by decide) rfl (fun ls hl => ?_)
  refine lv_goto (tgt := 9) hx hb dX9_keptVersions_51 (by decide) ?_
  exact i9 _ _ _ _ _ _ _ _ _ hJ hk0 w (lv_sub (l' := [(0, .ref t0), (1, .int x1), (2, .int (y0 + y1)), (3, .int (x3 + (1 : Int32)))]) hl [2, 3, 1, 0] rfl)
def B_X9_keptVersions_28 (N : Nat) (k9 : Hp → Int32 → Int32 → Int32 → Option (Hp × Int32)) (t0 : Nat) (h : Hp) (x1 : Int32) (x2 : Int32) (x3 : Int32) (y0 : Option Nat) : Option (Hp × Int32) := nl y0 (B_X9_keptVersions_46 N k9 t0 h x1 x3 x2 (0 : Int32)) (fun a1 => ck (h.kd a1 = 6) ((J_X3_keptAbove N a1 h x1).bind (fun z => B_X9_keptVersions_46 N k9 t0 z.1 x1 x3 x2 z.2)))
theorem mb_X9_keptVersions_28 (N : Nat) (k9 : Hp → Int32 → Int32 → Int32 → Option (Hp × Int32)) (t0 : Nat) (h : Hp) (x1 : Int32) (x2 : Int32) (x3 : Int32) (y0 : Option Nat) (m9 : ∀ (h : Hp) (x1 : Int32) (x2 : Int32) (x3 : Int32), k9 h x1 x2 x3 = some (hz, rz) → Mo h hz) (hJ : B_X9_keptVersions_28 N k9 t0 h x1 x2 x3 y0 = some (hz, rz)) : Mo h hz := by
  unfold B_X9_keptVersions_28 at hJ
  cases ea1 : y0 with
  | none =>
    have hJ := nl_none ea1 hJ
    exact mb_X9_keptVersions_46 N k9 t0 _ _ _ _ _ m9 hJ
  | some a1 =>
    have hJ := nl_some ea1 hJ
    obtain ⟨-, hJ⟩ := ck_some hJ
    obtain ⟨⟨h3, r4⟩, e5, hJ⟩ := ob_some hJ
    exact (mo_X3_keptAbove N a1 h x1 e5).tr (mb_X9_keptVersions_46 N k9 t0 _ _ _ _ _ m9 hJ)
set_option maxRecDepth 100000 in
set_option maxHeartbeats 4000000 in
theorem sb_X9_keptVersions_28 (C : Cx p s m args meth c cX9_keptVersions 5 (some .int) RX9 D cs A h0.se) (hz2 : hz.nx ≤ h0.nx + mc ∧ hz.su ≤ h0.su + ms) (N : Nat) (k9 : Hp → Int32 → Int32 → Int32 → Option (Hp × Int32)) (t0 : Nat) (m9 : ∀ (h : Hp) (x1 : Int32) (x2 : Int32) (x3 : Int32), k9 h x1 x2 x3 = some (hz, rz) → Mo h hz) (i9 : ∀ (h : Hp) (x1 : Int32) (x2 : Int32) (x3 : Int32) (H : Heap) (locs : List Loc) (cells slots : Nat) (ls : Array Slot), k9 h x1 x2 x3 = some (hz, rz) → h.kd t0 = 12 → Wo D cs A s h0 h H locs cells slots → lv_has ls 5 [(0, .ref t0), (1, .int x1), (2, .int x2), (3, .int x3)] → W p l e { frames := 4, cells := mc, slots := ms, locals := 120 } s m args below meth c H locs cells slots (MQ below (Zi D cs A hz rz) args s mc ms A) (F0 m 9 ls [])) (h : Hp) (x1 : Int32) (x2 : Int32) (x3 : Int32) (y0 : Option Nat) (hJ : B_X9_keptVersions_28 N k9 t0 h x1 x2 x3 y0 = some (hz, rz)) (hk0 : h.kd t0 = 12) {H : Heap} {locs : List Loc} {cells slots : Nat} (w : Wo D cs A s h0 h H locs cells slots) {ls : Array Slot} (hl : lv_has ls 5 [(0, .ref t0), (1, .int x1), (2, .int x2), (3, .int x3)]) : W p l e { frames := 4, cells := mc, slots := ms, locals := 120 } s m args below meth c H locs cells slots (MQ below (Zi D cs A hz rz) args s mc ms A) (F0 m 28 ls [va_rf y0]) := by
  obtain ⟨hx, hb, hml, hown, hts, -⟩ := id C
  unfold B_X9_keptVersions_28 at hJ
  refine jv_astore (i := 4) (lv' := [(4, va_rf y0), (0, .ref t0), (1, .int x1), (2, .int x2), (3, .int x3)]) hx hb dX9_keptVersions_28 hl (by decide) rfl (fun ls hl => ?_)
  refine lv_iload_n hx hb dX9_keptVersions_30 rfl (lv_at hl 3 rfl) ?_
  refine jv_aload hx hb dX9_keptVersions_31 (lv_at hl 0 rfl) ?_
  refine jv_ifnonnull (tgt := 40) hx hb dX9_keptVersions_33 (by decide) (fun a1 ea1 => ?_) (fun ea1 => ?_)
  · have hJ := nl_some ea1 hJ
    rw [ea1] at hl
    refine lv_aload hx hb dX9_keptVersions_40 (lv_at hl 0 rfl) ?_
    refine lv_iload_n hx hb dX9_keptVersions_42 rfl (lv_at hl 2 rfl) ?_
    obtain ⟨hk2, hJ⟩ := ck_some hJ
    obtain ⟨⟨h3, r4⟩, e5, hJ⟩ := ob_some hJ
    refine jc_Vi (As := [.int x1]) C w (cc_X3_keptAbove N a1 h x1 hk2 e5) (mo_X3_keptAbove N a1 h x1 e5) (mb_X9_keptVersions_46 N k9 t0 _ _ _ _ _ m9 hJ) hz2 hk2 (by decide) rfl (fs := fs6 h a1) rfl rfl ⟨tw_2_216, tw_2_213, tw_2_214, tw_2_215, tw_1_22⟩ cd_X3_keptAbove ⟨by decide, by decide⟩ hl.1 (by first | exact Nat.le_of_ble_eq_true rfl | simp [rf_cat, cat_i, cat_l, cat_r]) rfl dX9_keptVersions_43 (fun H locs w1 => ?_)
    have hk6 := kd_keep w (mo_X3_keptAbove N a1 h x1 e5) hk0 (by decide)
    have w := w1
    exact sb_X9_keptVersions_46 C hz2 N k9 t0 m9 i9 _ _ _ _ _ hJ hk6 w (lv_sub (l' := [(0, .ref t0), (1, .int x1), (3, .int x3)]) hl [1, 2, 4] rfl)
  · have hJ := nl_none ea1 hJ
    refine lv_iconst (v := (0 : Int32)) hx hb dX9_keptVersions_36 (by decide) ?_
    refine lv_goto (tgt := 46) hx hb dX9_keptVersions_37 (by decide) ?_
    exact sb_X9_keptVersions_46 C hz2 N k9 t0 m9 i9 _ _ _ _ _ hJ hk0 w (lv_sub (l' := [(0, .ref t0), (1, .int x1), (3, .int x3)]) hl [1, 2, 4] rfl)
def B_X9_keptVersions_17 (N : Nat) (k9 : Hp → Int32 → Int32 → Int32 → Option (Hp × Int32)) (t0 : Nat) (h : Hp) (x1 : Int32) (x2 : Int32) (x3 : Int32) (y0 : Int32) (y1 : Int32) : Option (Hp × Int32) := if y1 ≤ y0 then (some (h, x2)) else (dr h 8 (h.fr 1200 t0) (fun a8 => (J_X5_chainAt N a8 h x3).bind (fun z => B_X9_keptVersions_28 N k9 t0 z.1 x1 x2 x3 z.2)))
theorem mb_X9_keptVersions_17 (N : Nat) (k9 : Hp → Int32 → Int32 → Int32 → Option (Hp × Int32)) (t0 : Nat) (h : Hp) (x1 : Int32) (x2 : Int32) (x3 : Int32) (y0 : Int32) (y1 : Int32) (m9 : ∀ (h : Hp) (x1 : Int32) (x2 : Int32) (x3 : Int32), k9 h x1 x2 x3 = some (hz, rz) → Mo h hz) (hJ : B_X9_keptVersions_17 N k9 t0 h x1 x2 x3 y0 y1 = some (hz, rz)) : Mo h hz := by
  unfold B_X9_keptVersions_17 at hJ
  by_cases c7 : y1 ≤ y0
  · have hJ := it_pos c7 hJ
    obtain ⟨rfl, -⟩ := rs2 hJ
    exact ⟨fun _ _ => rfl, Nat.le_refl _, Nat.le_refl _, rfl, fun _ _ => rfl⟩
  · have hJ := it_neg c7 hJ
    obtain ⟨a8, ea8, -, hJ⟩ := dr_some hJ
    obtain ⟨⟨h9, r10⟩, e11, hJ⟩ := ob_some hJ
    exact (mo_X5_chainAt N a8 h x3 e11).tr (mb_X9_keptVersions_28 N k9 t0 _ _ _ _ _ m9 hJ)
set_option maxRecDepth 100000 in
set_option maxHeartbeats 4000000 in
theorem sb_X9_keptVersions_17 (C : Cx p s m args meth c cX9_keptVersions 5 (some .int) RX9 D cs A h0.se) (hz2 : hz.nx ≤ h0.nx + mc ∧ hz.su ≤ h0.su + ms) (N : Nat) (k9 : Hp → Int32 → Int32 → Int32 → Option (Hp × Int32)) (t0 : Nat) (m9 : ∀ (h : Hp) (x1 : Int32) (x2 : Int32) (x3 : Int32), k9 h x1 x2 x3 = some (hz, rz) → Mo h hz) (i9 : ∀ (h : Hp) (x1 : Int32) (x2 : Int32) (x3 : Int32) (H : Heap) (locs : List Loc) (cells slots : Nat) (ls : Array Slot), k9 h x1 x2 x3 = some (hz, rz) → h.kd t0 = 12 → Wo D cs A s h0 h H locs cells slots → lv_has ls 5 [(0, .ref t0), (1, .int x1), (2, .int x2), (3, .int x3)] → W p l e { frames := 4, cells := mc, slots := ms, locals := 120 } s m args below meth c H locs cells slots (MQ below (Zi D cs A hz rz) args s mc ms A) (F0 m 9 ls [])) (h : Hp) (x1 : Int32) (x2 : Int32) (x3 : Int32) (y0 : Int32) (y1 : Int32) (hJ : B_X9_keptVersions_17 N k9 t0 h x1 x2 x3 y0 y1 = some (hz, rz)) (hk0 : h.kd t0 = 12) {H : Heap} {locs : List Loc} {cells slots : Nat} (w : Wo D cs A s h0 h H locs cells slots) {ls : Array Slot} (hl : lv_has ls 5 [(0, .ref t0), (1, .int x1), (2, .int x2), (3, .int x3)]) : W p l e { frames := 4, cells := mc, slots := ms, locals := 120 } s m args below meth c H locs cells slots (MQ below (Zi D cs A hz rz) args s mc ms A) (F0 m 17 ls [.int y1, .int y0]) := by
  obtain ⟨hx, hb, hml, hown, hts, -⟩ := id C
  unfold B_X9_keptVersions_17 at hJ
  refine lv_icmp_ge (tgt := 54) hx hb dX9_keptVersions_17 (by decide) (fun c7 => ?_) (fun c7 => ?_)
  · have hJ := it_pos c7 hJ
    refine lv_iload_n hx hb dX9_keptVersions_54 rfl (lv_at hl 2 rfl) ?_
    obtain ⟨rfl, rfl⟩ := rs2 hJ
    exact jr_iret C w hz2 dX9_keptVersions_55
  · have hJ := it_neg c7 hJ
    refine lv_aload_n hx hb dX9_keptVersions_20 rfl (lv_at hl 0 rfl) ?_
    refine fg_1200 C w hk0 tw_1_132 dX9_keptVersions_21 ?_
    refine lv_iload_n hx hb dX9_keptVersions_24 rfl (lv_at hl 3 rfl) ?_
    obtain ⟨a8, ea8, hka8, hJ⟩ := dr_some hJ
    rw [ea8]
    obtain ⟨⟨h9, r10⟩, e11, hJ⟩ := ob_some hJ
    refine jc_Vq (As := [.int x3]) C w (cc_X5_chainAt N a8 h x3 hka8 e11) (mo_X5_chainAt N a8 h x3 e11) (mb_X9_keptVersions_28 N k9 t0 _ _ _ _ _ m9 hJ) hz2 hka8 (by decide) rfl (fs := fs8 h a8) rfl rfl ⟨tw_2_212, tw_2_237, tw_2_210, tw_2_211, tw_1_2⟩ cd_X5_chainAt ⟨by decide, by decide⟩ hl.1 (by first | exact Nat.le_of_ble_eq_true rfl | simp [rf_cat, cat_i, cat_l, cat_r]) rfl dX9_keptVersions_25 (fun H locs w1 => ?_)
    have hk12 := kd_keep w (mo_X5_chainAt N a8 h x3 e11) hk0 (by decide)
    have w := w1
    exact sb_X9_keptVersions_28 C hz2 N k9 t0 m9 i9 _ _ _ _ _ hJ hk12 w hl
def B_X9_keptVersions_9 (N : Nat) (k9 : Hp → Int32 → Int32 → Int32 → Option (Hp × Int32)) (t0 : Nat) (h : Hp) (x1 : Int32) (x2 : Int32) (x3 : Int32) : Option (Hp × Int32) := dr h 8 (h.fr 1200 t0) (fun a13 => (J_X5_size N a13 h).bind (fun z => B_X9_keptVersions_17 N k9 t0 z.1 x1 x2 x3 x3 z.2))
theorem mb_X9_keptVersions_9 (N : Nat) (k9 : Hp → Int32 → Int32 → Int32 → Option (Hp × Int32)) (t0 : Nat) (h : Hp) (x1 : Int32) (x2 : Int32) (x3 : Int32) (m9 : ∀ (h : Hp) (x1 : Int32) (x2 : Int32) (x3 : Int32), k9 h x1 x2 x3 = some (hz, rz) → Mo h hz) (hJ : B_X9_keptVersions_9 N k9 t0 h x1 x2 x3 = some (hz, rz)) : Mo h hz := by
  unfold B_X9_keptVersions_9 at hJ
  obtain ⟨a13, ea13, -, hJ⟩ := dr_some hJ
  obtain ⟨⟨h14, r15⟩, e16, hJ⟩ := ob_some hJ
  exact (mo_X5_size N a13 h e16).tr (mb_X9_keptVersions_17 N k9 t0 _ _ _ _ _ _ m9 hJ)
set_option maxRecDepth 100000 in
set_option maxHeartbeats 4000000 in
theorem sb_X9_keptVersions_9 (C : Cx p s m args meth c cX9_keptVersions 5 (some .int) RX9 D cs A h0.se) (hz2 : hz.nx ≤ h0.nx + mc ∧ hz.su ≤ h0.su + ms) (N : Nat) (k9 : Hp → Int32 → Int32 → Int32 → Option (Hp × Int32)) (t0 : Nat) (m9 : ∀ (h : Hp) (x1 : Int32) (x2 : Int32) (x3 : Int32), k9 h x1 x2 x3 = some (hz, rz) → Mo h hz) (i9 : ∀ (h : Hp) (x1 : Int32) (x2 : Int32) (x3 : Int32) (H : Heap) (locs : List Loc) (cells slots : Nat) (ls : Array Slot), k9 h x1 x2 x3 = some (hz, rz) → h.kd t0 = 12 → Wo D cs A s h0 h H locs cells slots → lv_has ls 5 [(0, .ref t0), (1, .int x1), (2, .int x2), (3, .int x3)] → W p l e { frames := 4, cells := mc, slots := ms, locals := 120 } s m args below meth c H locs cells slots (MQ below (Zi D cs A hz rz) args s mc ms A) (F0 m 9 ls [])) (h : Hp) (x1 : Int32) (x2 : Int32) (x3 : Int32) (hJ : B_X9_keptVersions_9 N k9 t0 h x1 x2 x3 = some (hz, rz)) (hk0 : h.kd t0 = 12) {H : Heap} {locs : List Loc} {cells slots : Nat} (w : Wo D cs A s h0 h H locs cells slots) {ls : Array Slot} (hl : lv_has ls 5 [(0, .ref t0), (1, .int x1), (2, .int x2), (3, .int x3)]) : W p l e { frames := 4, cells := mc, slots := ms, locals := 120 } s m args below meth c H locs cells slots (MQ below (Zi D cs A hz rz) args s mc ms A) (F0 m 9 ls []) := by
  obtain ⟨hx, hb, hml, hown, hts, -⟩ := id C
  unfold B_X9_keptVersions_9 at hJ
  refine lv_iload_n hx hb dX9_keptVersions_9 rfl (lv_at hl 3 rfl) ?_
  refine lv_aload_n hx hb dX9_keptVersions_10 rfl (lv_at hl 0 rfl) ?_
  refine fg_1200 C w hk0 tw_1_132 dX9_keptVersions_11 ?_
  obtain ⟨a13, ea13, hka13, hJ⟩ := dr_some hJ
  rw [ea13]
  obtain ⟨⟨h14, r15⟩, e16, hJ⟩ := ob_some hJ
  refine jc_Vi (As := []) C w (cc_X5_size N a13 h hka13 e16) (mo_X5_size N a13 h e16) (mb_X9_keptVersions_17 N k9 t0 _ _ _ _ _ _ m9 hJ) hz2 hka13 (by decide) rfl (fs := fs8 h a13) rfl rfl ⟨tw_2_181, tw_2_178, tw_2_179, tw_2_180, tw_1_2⟩ cd_X5_size ⟨by decide, by decide⟩ hl.1 (by first | exact Nat.le_of_ble_eq_true rfl | simp [rf_cat, cat_i, cat_l, cat_r]) rfl dX9_keptVersions_14 (fun H locs w1 => ?_)
  have hk17 := kd_keep w (mo_X5_size N a13 h e16) hk0 (by decide)
  have w := w1
  exact sb_X9_keptVersions_17 C hz2 N k9 t0 m9 i9 _ _ _ _ _ _ hJ hk17 w hl
def L_X9_keptVersions_9 (N : Nat) (t0 : Nat) : Nat → Hp → Int32 → Int32 → Int32 → Option (Hp × Int32)
  | 0 => fun _ _ _ _ => none
  | n + 1 => fun h x1 x2 x3 => B_X9_keptVersions_9 N (L_X9_keptVersions_9 N t0 n) t0 h x1 x2 x3
theorem ml_X9_keptVersions_9 (N : Nat) (t0 : Nat) : ∀ (n : Nat) (h : Hp) (x1 : Int32) (x2 : Int32) (x3 : Int32), L_X9_keptVersions_9 N t0 n h x1 x2 x3 = some (hz, rz) → Mo h hz := by
  intro n
  induction n with
  | zero => intro h x1 x2 x3 hJ; cases hJ
  | succ n ih => intro h x1 x2 x3 hJ; exact mb_X9_keptVersions_9 N (L_X9_keptVersions_9 N t0 n) t0 h x1 x2 x3 ih hJ
theorem sl_X9_keptVersions_9 (C : Cx p s m args meth c cX9_keptVersions 5 (some .int) RX9 D cs A h0.se) (hz2 : hz.nx ≤ h0.nx + mc ∧ hz.su ≤ h0.su + ms) (N : Nat) (t0 : Nat) : ∀ n : Nat, ∀ (h : Hp) (x1 : Int32) (x2 : Int32) (x3 : Int32) (H : Heap) (locs : List Loc) (cells slots : Nat) (ls : Array Slot), L_X9_keptVersions_9 N t0 n h x1 x2 x3 = some (hz, rz) → h.kd t0 = 12 → Wo D cs A s h0 h H locs cells slots → lv_has ls 5 [(0, .ref t0), (1, .int x1), (2, .int x2), (3, .int x3)] → W p l e { frames := 4, cells := mc, slots := ms, locals := 120 } s m args below meth c H locs cells slots (MQ below (Zi D cs A hz rz) args s mc ms A) (F0 m 9 ls []) := by
  intro n
  induction n with
  | zero => intro h x1 x2 x3 H locs cells slots ls hJ; cases hJ
  | succ n ih =>
    intro h x1 x2 x3 H locs cells slots ls hJ hk0 w hl
    exact sb_X9_keptVersions_9 C hz2 N (L_X9_keptVersions_9 N t0 n) t0 (ml_X9_keptVersions_9 N t0 n) ih h x1 x2 x3 hJ hk0 w hl
def B_X9_keptVersions_4 (N : Nat) (t0 : Nat) (h : Hp) (y0 : Int32) : Option (Hp × Int32) := L_X9_keptVersions_9 N t0 N h y0 (0 : Int32) (0 : Int32)
theorem mb_X9_keptVersions_4 (N : Nat) (t0 : Nat) (h : Hp) (y0 : Int32) (hJ : B_X9_keptVersions_4 N t0 h y0 = some (hz, rz)) : Mo h hz := by
  unfold B_X9_keptVersions_4 at hJ
  exact ml_X9_keptVersions_9 N t0 N _ _ _ _ hJ
set_option maxRecDepth 100000 in
set_option maxHeartbeats 4000000 in
theorem sb_X9_keptVersions_4 (C : Cx p s m args meth c cX9_keptVersions 5 (some .int) RX9 D cs A h0.se) (hz2 : hz.nx ≤ h0.nx + mc ∧ hz.su ≤ h0.su + ms) (N : Nat) (t0 : Nat) (h : Hp) (y0 : Int32) (hJ : B_X9_keptVersions_4 N t0 h y0 = some (hz, rz)) (hk0 : h.kd t0 = 12) {H : Heap} {locs : List Loc} {cells slots : Nat} (w : Wo D cs A s h0 h H locs cells slots) {ls : Array Slot} (hl : lv_has ls 5 [(0, .ref t0)]) : W p l e { frames := 4, cells := mc, slots := ms, locals := 120 } s m args below meth c H locs cells slots (MQ below (Zi D cs A hz rz) args s mc ms A) (F0 m 4 ls [.int y0]) := by
  obtain ⟨hx, hb, hml, hown, hts, -⟩ := id C
  unfold B_X9_keptVersions_4 at hJ
  refine lv_istore_n (i := 1) (lv' := [(1, .int y0), (0, .ref t0)]) hx hb dX9_keptVersions_4 rfl hl (by decide) rfl (fun ls hl => ?_)
  refine lv_iconst (v := (0 : Int32)) hx hb dX9_keptVersions_5 (by decide) ?_
  refine lv_istore_n (i := 2) (lv' := [(2, .int (0 : Int32)), (1, .int y0), (0, .ref t0)]) hx hb dX9_keptVersions_6 rfl hl (by decide) rfl (fun ls hl => ?_)
  refine lv_iconst (v := (0 : Int32)) hx hb dX9_keptVersions_7 (by decide) ?_
  refine lv_istore_n (i := 3) (lv' := [(3, .int (0 : Int32)), (2, .int (0 : Int32)), (1, .int y0), (0, .ref t0)]) hx hb dX9_keptVersions_8 rfl hl (by decide) rfl (fun ls hl => ?_)
  exact sl_X9_keptVersions_9 C hz2 N t0 N _ _ _ _ _ _ _ _ _ hJ hk0 w (lv_sub (l' := [(0, .ref t0), (1, .int y0), (2, .int (0 : Int32)), (3, .int (0 : Int32))]) hl [3, 2, 1, 0] rfl)
def B_X9_keptVersions_0 (N : Nat) (t0 : Nat) (h : Hp) : Option (Hp × Int32) := (J_X9_horizon N t0 h).bind (fun z => B_X9_keptVersions_4 N t0 z.1 z.2)
theorem mb_X9_keptVersions_0 (N : Nat) (t0 : Nat) (h : Hp) (hJ : B_X9_keptVersions_0 N t0 h = some (hz, rz)) : Mo h hz := by
  unfold B_X9_keptVersions_0 at hJ
  obtain ⟨⟨h18, r19⟩, e20, hJ⟩ := ob_some hJ
  exact (mo_X9_horizon N t0 h e20).tr (mb_X9_keptVersions_4 N t0 _ _ hJ)
set_option maxRecDepth 100000 in
set_option maxHeartbeats 4000000 in
theorem sb_X9_keptVersions_0 (C : Cx p s m args meth c cX9_keptVersions 5 (some .int) RX9 D cs A h0.se) (hz2 : hz.nx ≤ h0.nx + mc ∧ hz.su ≤ h0.su + ms) (N : Nat) (t0 : Nat) (h : Hp) (hJ : B_X9_keptVersions_0 N t0 h = some (hz, rz)) (hk0 : h.kd t0 = 12) {H : Heap} {locs : List Loc} {cells slots : Nat} (w : Wo D cs A s h0 h H locs cells slots) {ls : Array Slot} (hl : lv_has ls 5 [(0, .ref t0)]) : W p l e { frames := 4, cells := mc, slots := ms, locals := 120 } s m args below meth c H locs cells slots (MQ below (Zi D cs A hz rz) args s mc ms A) (F0 m 0 ls []) := by
  obtain ⟨hx, hb, hml, hown, hts, -⟩ := id C
  unfold B_X9_keptVersions_0 at hJ
  refine lv_aload_n hx hb dX9_keptVersions_0 rfl (lv_at hl 0 rfl) ?_
  obtain ⟨⟨h18, r19⟩, e20, hJ⟩ := ob_some hJ
  refine jc_Vi (As := []) C w (cc_X9_horizon N t0 h hk0 e20) (mo_X9_horizon N t0 h e20) (mb_X9_keptVersions_4 N t0 _ _ hJ) hz2 hk0 (by decide) rfl (fs := fs12 h t0) rfl rfl ⟨tw_2_173, tw_2_170, tw_2_172, ts_7, tw_1_1⟩ cd_X9_horizon ⟨by decide, by decide⟩ hl.1 (by first | exact Nat.le_of_ble_eq_true rfl | simp [rf_cat, cat_i, cat_l, cat_r]) rfl dX9_keptVersions_1 (fun H locs w1 => ?_)
  have hk21 := kd_keep w (mo_X9_horizon N t0 h e20) hk0 (by decide)
  have w := w1
  exact sb_X9_keptVersions_4 C hz2 N t0 _ _ hJ hk21 w hl
def J_X9_keptVersions (N : Nat) (t0 : Nat) (h : Hp) : Option (Hp × Int32) := B_X9_keptVersions_0 N t0 h
theorem mo_X9_keptVersions (N : Nat) (t0 : Nat) (h : Hp) (hJ : J_X9_keptVersions N t0 h = some (hz, rz)) : Mo h hz := mb_X9_keptVersions_0 N t0 h hJ
theorem cd_X9_keptVersions : Cd yX9_keptVersions 0 := ⟨by decide +kernel, by decide +kernel, by decide +kernel⟩
theorem cc_X9_keptVersions (N : Nat) (t0 : Nat) (h : Hp) (hk0 : h.kd t0 = 12) (hJ : J_X9_keptVersions N t0 h = some (hz, rz)) : Ci l yX9_keptVersions cX9_keptVersions 5 (some .int) 4 120 D cs h hz [.ref t0] rz := by
  intro mc ms g1 g2
  refine je_any (by decide) (by simp [lg_sl, rf_cat, cat_i, cat_l, cat_r]) ?_
  intro p e s m args below meth c C hin2 w ls hl
  have hl : lv_has ls 5 [(0, .ref t0)] := hl
  exact sb_X9_keptVersions_0 C ⟨g1, g2⟩ N t0 h hJ hk0 w hl
end G_X9_keptVersions
section G_X9_keysWithVersions
variable {p : Program} {l : Launch} {e : Env} {s : State} {m : MethodId} {args : Array Value} {below : List Frame} {meth : Method} {c : Code} {D : va_G} {cs : C4} {A : Nat → Prop} {h0 hz : Hp} {mc ms : Nat} {rz : Int32}
def B_X9_keysWithVersions_47 (N : Nat) (k9 : Hp → Int32 → Int32 → Int32 → Option (Hp × Int32)) (t0 : Nat) (h : Hp) (x1 : Int32) (x2 : Int32) (x3 : Int32) : Option (Hp × Int32) := k9 h x1 x2 (x3 + (1 : Int32))
theorem mb_X9_keysWithVersions_47 (N : Nat) (k9 : Hp → Int32 → Int32 → Int32 → Option (Hp × Int32)) (t0 : Nat) (h : Hp) (x1 : Int32) (x2 : Int32) (x3 : Int32) (m9 : ∀ (h : Hp) (x1 : Int32) (x2 : Int32) (x3 : Int32), k9 h x1 x2 x3 = some (hz, rz) → Mo h hz) (hJ : B_X9_keysWithVersions_47 N k9 t0 h x1 x2 x3 = some (hz, rz)) : Mo h hz := by
  unfold B_X9_keysWithVersions_47 at hJ
  exact m9 _ _ _ _ hJ
set_option maxRecDepth 100000 in
set_option maxHeartbeats 4000000 in
theorem sb_X9_keysWithVersions_47 (C : Cx p s m args meth c cX9_keysWithVersions 5 (some .int) RX9 D cs A h0.se) (hz2 : hz.nx ≤ h0.nx + mc ∧ hz.su ≤ h0.su + ms) (N : Nat) (k9 : Hp → Int32 → Int32 → Int32 → Option (Hp × Int32)) (t0 : Nat) (m9 : ∀ (h : Hp) (x1 : Int32) (x2 : Int32) (x3 : Int32), k9 h x1 x2 x3 = some (hz, rz) → Mo h hz) (i9 : ∀ (h : Hp) (x1 : Int32) (x2 : Int32) (x3 : Int32) (H : Heap) (locs : List Loc) (cells slots : Nat) (ls : Array Slot), k9 h x1 x2 x3 = some (hz, rz) → h.kd t0 = 12 → Wo D cs A s h0 h H locs cells slots → lv_has ls 5 [(0, .ref t0), (1, .int x1), (2, .int x2), (3, .int x3)] → W p l e { frames := 4, cells := mc, slots := ms, locals := 120 } s m args below meth c H locs cells slots (MQ below (Zi D cs A hz rz) args s mc ms A) (F0 m 9 ls [])) (h : Hp) (x1 : Int32) (x2 : Int32) (x3 : Int32) (hJ : B_X9_keysWithVersions_47 N k9 t0 h x1 x2 x3 = some (hz, rz)) (hk0 : h.kd t0 = 12) {H : Heap} {locs : List Loc} {cells slots : Nat} (w : Wo D cs A s h0 h H locs cells slots) {ls : Array Slot} (hl : lv_has ls 5 [(0, .ref t0), (1, .int x1), (2, .int x2), (3, .int x3)]) : W p l e { frames := 4, cells := mc, slots := ms, locals := 120 } s m args below meth c H locs cells slots (MQ below (Zi D cs A hz rz) args s mc ms A) (F0 m 47 ls []) := by
  obtain ⟨hx, hb, hml, hown, hts, -⟩ := id C
  unfold B_X9_keysWithVersions_47 at hJ
  refine lv_iinc (v := x3 + (1 : Int32)) (lv' := [(3, .int (x3 + (1 : Int32))), (0, .ref t0), (1, .int x1), (2, .int x2)]) hx hb dX9_keysWithVersions_47 hl (k := 3) rfl rfl (by decide) rfl (fun ls hl => ?_)
  refine lv_goto (tgt := 9) hx hb dX9_keysWithVersions_50 (by decide) ?_
  exact i9 _ _ _ _ _ _ _ _ _ hJ hk0 w (lv_sub (l' := [(0, .ref t0), (1, .int x1), (2, .int x2), (3, .int (x3 + (1 : Int32)))]) hl [1, 2, 3, 0] rfl)
def B_X9_keysWithVersions_41 (N : Nat) (k9 : Hp → Int32 → Int32 → Int32 → Option (Hp × Int32)) (t0 : Nat) (h : Hp) (x1 : Int32) (x2 : Int32) (x3 : Int32) (y0 : Int32) : Option (Hp × Int32) := if y0 ≤ 0 then (B_X9_keysWithVersions_47 N k9 t0 h x1 x2 x3) else (B_X9_keysWithVersions_47 N k9 t0 h x1 (x2 + (1 : Int32)) x3)
theorem mb_X9_keysWithVersions_41 (N : Nat) (k9 : Hp → Int32 → Int32 → Int32 → Option (Hp × Int32)) (t0 : Nat) (h : Hp) (x1 : Int32) (x2 : Int32) (x3 : Int32) (y0 : Int32) (m9 : ∀ (h : Hp) (x1 : Int32) (x2 : Int32) (x3 : Int32), k9 h x1 x2 x3 = some (hz, rz) → Mo h hz) (hJ : B_X9_keysWithVersions_41 N k9 t0 h x1 x2 x3 y0 = some (hz, rz)) : Mo h hz := by
  unfold B_X9_keysWithVersions_41 at hJ
  by_cases c1 : y0 ≤ 0
  · have hJ := it_pos c1 hJ
    exact mb_X9_keysWithVersions_47 N k9 t0 _ _ _ _ m9 hJ
  · have hJ := it_neg c1 hJ
    exact mb_X9_keysWithVersions_47 N k9 t0 _ _ _ _ m9 hJ
set_option maxRecDepth 100000 in
set_option maxHeartbeats 4000000 in
theorem sb_X9_keysWithVersions_41 (C : Cx p s m args meth c cX9_keysWithVersions 5 (some .int) RX9 D cs A h0.se) (hz2 : hz.nx ≤ h0.nx + mc ∧ hz.su ≤ h0.su + ms) (N : Nat) (k9 : Hp → Int32 → Int32 → Int32 → Option (Hp × Int32)) (t0 : Nat) (m9 : ∀ (h : Hp) (x1 : Int32) (x2 : Int32) (x3 : Int32), k9 h x1 x2 x3 = some (hz, rz) → Mo h hz) (i9 : ∀ (h : Hp) (x1 : Int32) (x2 : Int32) (x3 : Int32) (H : Heap) (locs : List Loc) (cells slots : Nat) (ls : Array Slot), k9 h x1 x2 x3 = some (hz, rz) → h.kd t0 = 12 → Wo D cs A s h0 h H locs cells slots → lv_has ls 5 [(0, .ref t0), (1, .int x1), (2, .int x2), (3, .int x3)] → W p l e { frames := 4, cells := mc, slots := ms, locals := 120 } s m args below meth c H locs cells slots (MQ below (Zi D cs A hz rz) args s mc ms A) (F0 m 9 ls [])) (h : Hp) (x1 : Int32) (x2 : Int32) (x3 : Int32) (y0 : Int32) (hJ : B_X9_keysWithVersions_41 N k9 t0 h x1 x2 x3 y0 = some (hz, rz)) (hk0 : h.kd t0 = 12) {H : Heap} {locs : List Loc} {cells slots : Nat} (w : Wo D cs A s h0 h H locs cells slots) {ls : Array Slot} (hl : lv_has ls 5 [(0, .ref t0), (1, .int x1), (2, .int x2), (3, .int x3)]) : W p l e { frames := 4, cells := mc, slots := ms, locals := 120 } s m args below meth c H locs cells slots (MQ below (Zi D cs A hz rz) args s mc ms A) (F0 m 41 ls [.int y0]) := by
  obtain ⟨hx, hb, hml, hown, hts, -⟩ := id C
  unfold B_X9_keysWithVersions_41 at hJ
  refine lv_if_le (tgt := 47) hx hb dX9_keysWithVersions_41 (by decide) (fun c1 => ?_) (fun c1 => ?_)
  · have hJ := it_pos c1 hJ
    exact sb_X9_keysWithVersions_47 C hz2 N k9 t0 m9 i9 _ _ _ _ hJ hk0 w hl
  · have hJ := it_neg c1 hJ
    refine lv_iinc (v := x2 + (1 : Int32)) (lv' := [(2, .int (x2 + (1 : Int32))), (0, .ref t0), (1, .int x1), (3, .int x3)]) hx hb dX9_keysWithVersions_44 hl (k := 2) rfl rfl (by decide) rfl (fun ls hl => ?_)
    exact sb_X9_keysWithVersions_47 C hz2 N k9 t0 m9 i9 _ _ _ _ hJ hk0 w (lv_sub (l' := [(0, .ref t0), (1, .int x1), (2, .int (x2 + (1 : Int32))), (3, .int x3)]) hl [1, 2, 0, 3] rfl)
def B_X9_keysWithVersions_28 (N : Nat) (k9 : Hp → Int32 → Int32 → Int32 → Option (Hp × Int32)) (t0 : Nat) (h : Hp) (x1 : Int32) (x2 : Int32) (x3 : Int32) (y0 : Option Nat) : Option (Hp × Int32) := nl y0 (B_X9_keysWithVersions_47 N k9 t0 h x1 x2 x3) (fun a2 => ck (h.kd a2 = 6) ((J_X3_keptAbove N a2 h x1).bind (fun z => B_X9_keysWithVersions_41 N k9 t0 z.1 x1 x2 x3 z.2)))
theorem mb_X9_keysWithVersions_28 (N : Nat) (k9 : Hp → Int32 → Int32 → Int32 → Option (Hp × Int32)) (t0 : Nat) (h : Hp) (x1 : Int32) (x2 : Int32) (x3 : Int32) (y0 : Option Nat) (m9 : ∀ (h : Hp) (x1 : Int32) (x2 : Int32) (x3 : Int32), k9 h x1 x2 x3 = some (hz, rz) → Mo h hz) (hJ : B_X9_keysWithVersions_28 N k9 t0 h x1 x2 x3 y0 = some (hz, rz)) : Mo h hz := by
  unfold B_X9_keysWithVersions_28 at hJ
  cases ea2 : y0 with
  | none =>
    have hJ := nl_none ea2 hJ
    exact mb_X9_keysWithVersions_47 N k9 t0 _ _ _ _ m9 hJ
  | some a2 =>
    have hJ := nl_some ea2 hJ
    obtain ⟨-, hJ⟩ := ck_some hJ
    obtain ⟨⟨h4, r5⟩, e6, hJ⟩ := ob_some hJ
    exact (mo_X3_keptAbove N a2 h x1 e6).tr (mb_X9_keysWithVersions_41 N k9 t0 _ _ _ _ _ m9 hJ)
set_option maxRecDepth 100000 in
set_option maxHeartbeats 4000000 in
theorem sb_X9_keysWithVersions_28 (C : Cx p s m args meth c cX9_keysWithVersions 5 (some .int) RX9 D cs A h0.se) (hz2 : hz.nx ≤ h0.nx + mc ∧ hz.su ≤ h0.su + ms) (N : Nat) (k9 : Hp → Int32 → Int32 → Int32 → Option (Hp × Int32)) (t0 : Nat) (m9 : ∀ (h : Hp) (x1 : Int32) (x2 : Int32) (x3 : Int32), k9 h x1 x2 x3 = some (hz, rz) → Mo h hz) (i9 : ∀ (h : Hp) (x1 : Int32) (x2 : Int32) (x3 : Int32) (H : Heap) (locs : List Loc) (cells slots : Nat) (ls : Array Slot), k9 h x1 x2 x3 = some (hz, rz) → h.kd t0 = 12 → Wo D cs A s h0 h H locs cells slots → lv_has ls 5 [(0, .ref t0), (1, .int x1), (2, .int x2), (3, .int x3)] → W p l e { frames := 4, cells := mc, slots := ms, locals := 120 } s m args below meth c H locs cells slots (MQ below (Zi D cs A hz rz) args s mc ms A) (F0 m 9 ls [])) (h : Hp) (x1 : Int32) (x2 : Int32) (x3 : Int32) (y0 : Option Nat) (hJ : B_X9_keysWithVersions_28 N k9 t0 h x1 x2 x3 y0 = some (hz, rz)) (hk0 : h.kd t0 = 12) {H : Heap} {locs : List Loc} {cells slots : Nat} (w : Wo D cs A s h0 h H locs cells slots) {ls : Array Slot} (hl : lv_has ls 5 [(0, .ref t0), (1, .int x1), (2, .int x2), (3, .int x3)]) : W p l e { frames := 4, cells := mc, slots := ms, locals := 120 } s m args below meth c H locs cells slots (MQ below (Zi D cs A hz rz) args s mc ms A) (F0 m 28 ls [va_rf y0]) := by
  obtain ⟨hx, hb, hml, hown, hts, -⟩ := id C
  unfold B_X9_keysWithVersions_28 at hJ
  refine jv_astore (i := 4) (lv' := [(4, va_rf y0), (0, .ref t0), (1, .int x1), (2, .int x2), (3, .int x3)]) hx hb dX9_keysWithVersions_28 hl (by decide) rfl (fun ls hl => ?_)
  refine jv_aload hx hb dX9_keysWithVersions_30 (lv_at hl 0 rfl) ?_
  refine jv_ifnull (tgt := 47) hx hb dX9_keysWithVersions_32 (by decide) (fun ea2 => ?_) (fun a2 ea2 => ?_)
  · have hJ := nl_none ea2 hJ
    exact sb_X9_keysWithVersions_47 C hz2 N k9 t0 m9 i9 _ _ _ _ hJ hk0 w (lv_sub (l' := [(0, .ref t0), (1, .int x1), (2, .int x2), (3, .int x3)]) hl [1, 2, 3, 4] rfl)
  · have hJ := nl_some ea2 hJ
    rw [ea2] at hl
    refine lv_aload hx hb dX9_keysWithVersions_35 (lv_at hl 0 rfl) ?_
    refine lv_iload_n hx hb dX9_keysWithVersions_37 rfl (lv_at hl 2 rfl) ?_
    obtain ⟨hk3, hJ⟩ := ck_some hJ
    obtain ⟨⟨h4, r5⟩, e6, hJ⟩ := ob_some hJ
    refine jc_Vi (As := [.int x1]) C w (cc_X3_keptAbove N a2 h x1 hk3 e6) (mo_X3_keptAbove N a2 h x1 e6) (mb_X9_keysWithVersions_41 N k9 t0 _ _ _ _ _ m9 hJ) hz2 hk3 (by decide) rfl (fs := fs6 h a2) rfl rfl ⟨tw_2_216, tw_2_213, tw_2_214, tw_2_215, tw_1_22⟩ cd_X3_keptAbove ⟨by decide, by decide⟩ hl.1 (by first | exact Nat.le_of_ble_eq_true rfl | simp [rf_cat, cat_i, cat_l, cat_r]) rfl dX9_keysWithVersions_38 (fun H locs w1 => ?_)
    have hk7 := kd_keep w (mo_X3_keptAbove N a2 h x1 e6) hk0 (by decide)
    have w := w1
    exact sb_X9_keysWithVersions_41 C hz2 N k9 t0 m9 i9 _ _ _ _ _ hJ hk7 w (lv_sub (l' := [(0, .ref t0), (1, .int x1), (2, .int x2), (3, .int x3)]) hl [1, 2, 3, 4] rfl)
def B_X9_keysWithVersions_17 (N : Nat) (k9 : Hp → Int32 → Int32 → Int32 → Option (Hp × Int32)) (t0 : Nat) (h : Hp) (x1 : Int32) (x2 : Int32) (x3 : Int32) (y0 : Int32) (y1 : Int32) : Option (Hp × Int32) := if y1 ≤ y0 then (some (h, x2)) else (dr h 8 (h.fr 1200 t0) (fun a9 => (J_X5_chainAt N a9 h x3).bind (fun z => B_X9_keysWithVersions_28 N k9 t0 z.1 x1 x2 x3 z.2)))
theorem mb_X9_keysWithVersions_17 (N : Nat) (k9 : Hp → Int32 → Int32 → Int32 → Option (Hp × Int32)) (t0 : Nat) (h : Hp) (x1 : Int32) (x2 : Int32) (x3 : Int32) (y0 : Int32) (y1 : Int32) (m9 : ∀ (h : Hp) (x1 : Int32) (x2 : Int32) (x3 : Int32), k9 h x1 x2 x3 = some (hz, rz) → Mo h hz) (hJ : B_X9_keysWithVersions_17 N k9 t0 h x1 x2 x3 y0 y1 = some (hz, rz)) : Mo h hz := by
  unfold B_X9_keysWithVersions_17 at hJ
  by_cases c8 : y1 ≤ y0
  · have hJ := it_pos c8 hJ
    obtain ⟨rfl, -⟩ := rs2 hJ
    exact ⟨fun _ _ => rfl, Nat.le_refl _, Nat.le_refl _, rfl, fun _ _ => rfl⟩
  · have hJ := it_neg c8 hJ
    obtain ⟨a9, ea9, -, hJ⟩ := dr_some hJ
    obtain ⟨⟨h10, r11⟩, e12, hJ⟩ := ob_some hJ
    exact (mo_X5_chainAt N a9 h x3 e12).tr (mb_X9_keysWithVersions_28 N k9 t0 _ _ _ _ _ m9 hJ)
set_option maxRecDepth 100000 in
set_option maxHeartbeats 4000000 in
theorem sb_X9_keysWithVersions_17 (C : Cx p s m args meth c cX9_keysWithVersions 5 (some .int) RX9 D cs A h0.se) (hz2 : hz.nx ≤ h0.nx + mc ∧ hz.su ≤ h0.su + ms) (N : Nat) (k9 : Hp → Int32 → Int32 → Int32 → Option (Hp × Int32)) (t0 : Nat) (m9 : ∀ (h : Hp) (x1 : Int32) (x2 : Int32) (x3 : Int32), k9 h x1 x2 x3 = some (hz, rz) → Mo h hz) (i9 : ∀ (h : Hp) (x1 : Int32) (x2 : Int32) (x3 : Int32) (H : Heap) (locs : List Loc) (cells slots : Nat) (ls : Array Slot), k9 h x1 x2 x3 = some (hz, rz) → h.kd t0 = 12 → Wo D cs A s h0 h H locs cells slots → lv_has ls 5 [(0, .ref t0), (1, .int x1), (2, .int x2), (3, .int x3)] → W p l e { frames := 4, cells := mc, slots := ms, locals := 120 } s m args below meth c H locs cells slots (MQ below (Zi D cs A hz rz) args s mc ms A) (F0 m 9 ls [])) (h : Hp) (x1 : Int32) (x2 : Int32) (x3 : Int32) (y0 : Int32) (y1 : Int32) (hJ : B_X9_keysWithVersions_17 N k9 t0 h x1 x2 x3 y0 y1 = some (hz, rz)) (hk0 : h.kd t0 = 12) {H : Heap} {locs : List Loc} {cells slots : Nat} (w : Wo D cs A s h0 h H locs cells slots) {ls : Array Slot} (hl : lv_has ls 5 [(0, .ref t0), (1, .int x1), (2, .int x2), (3, .int x3)]) : W p l e { frames := 4, cells := mc, slots := ms, locals := 120 } s m args below meth c H locs cells slots (MQ below (Zi D cs A hz rz) args s mc ms A) (F0 m 17 ls [.int y1, .int y0]) := by
  obtain ⟨hx, hb, hml, hown, hts, -⟩ := id C
  unfold B_X9_keysWithVersions_17 at hJ
  refine lv_icmp_ge (tgt := 53) hx hb dX9_keysWithVersions_17 (by decide) (fun c8 => ?_) (fun c8 => ?_)
  · have hJ := it_pos c8 hJ
    refine lv_iload_n hx hb dX9_keysWithVersions_53 rfl (lv_at hl 2 rfl) ?_
    obtain ⟨rfl, rfl⟩ := rs2 hJ
    exact jr_iret C w hz2 dX9_keysWithVersions_54
  · have hJ := it_neg c8 hJ
    refine lv_aload_n hx hb dX9_keysWithVersions_20 rfl (lv_at hl 0 rfl) ?_
    refine fg_1200 C w hk0 tw_1_132 dX9_keysWithVersions_21 ?_
    refine lv_iload_n hx hb dX9_keysWithVersions_24 rfl (lv_at hl 3 rfl) ?_
    obtain ⟨a9, ea9, hka9, hJ⟩ := dr_some hJ
    rw [ea9]
    obtain ⟨⟨h10, r11⟩, e12, hJ⟩ := ob_some hJ
    refine jc_Vq (As := [.int x3]) C w (cc_X5_chainAt N a9 h x3 hka9 e12) (mo_X5_chainAt N a9 h x3 e12) (mb_X9_keysWithVersions_28 N k9 t0 _ _ _ _ _ m9 hJ) hz2 hka9 (by decide) rfl (fs := fs8 h a9) rfl rfl ⟨tw_2_212, tw_2_237, tw_2_210, tw_2_211, tw_1_2⟩ cd_X5_chainAt ⟨by decide, by decide⟩ hl.1 (by first | exact Nat.le_of_ble_eq_true rfl | simp [rf_cat, cat_i, cat_l, cat_r]) rfl dX9_keysWithVersions_25 (fun H locs w1 => ?_)
    have hk13 := kd_keep w (mo_X5_chainAt N a9 h x3 e12) hk0 (by decide)
    have w := w1
    exact sb_X9_keysWithVersions_28 C hz2 N k9 t0 m9 i9 _ _ _ _ _ hJ hk13 w hl
def B_X9_keysWithVersions_9 (N : Nat) (k9 : Hp → Int32 → Int32 → Int32 → Option (Hp × Int32)) (t0 : Nat) (h : Hp) (x1 : Int32) (x2 : Int32) (x3 : Int32) : Option (Hp × Int32) := dr h 8 (h.fr 1200 t0) (fun a14 => (J_X5_size N a14 h).bind (fun z => B_X9_keysWithVersions_17 N k9 t0 z.1 x1 x2 x3 x3 z.2))
theorem mb_X9_keysWithVersions_9 (N : Nat) (k9 : Hp → Int32 → Int32 → Int32 → Option (Hp × Int32)) (t0 : Nat) (h : Hp) (x1 : Int32) (x2 : Int32) (x3 : Int32) (m9 : ∀ (h : Hp) (x1 : Int32) (x2 : Int32) (x3 : Int32), k9 h x1 x2 x3 = some (hz, rz) → Mo h hz) (hJ : B_X9_keysWithVersions_9 N k9 t0 h x1 x2 x3 = some (hz, rz)) : Mo h hz := by
  unfold B_X9_keysWithVersions_9 at hJ
  obtain ⟨a14, ea14, -, hJ⟩ := dr_some hJ
  obtain ⟨⟨h15, r16⟩, e17, hJ⟩ := ob_some hJ
  exact (mo_X5_size N a14 h e17).tr (mb_X9_keysWithVersions_17 N k9 t0 _ _ _ _ _ _ m9 hJ)
set_option maxRecDepth 100000 in
set_option maxHeartbeats 4000000 in
theorem sb_X9_keysWithVersions_9 (C : Cx p s m args meth c cX9_keysWithVersions 5 (some .int) RX9 D cs A h0.se) (hz2 : hz.nx ≤ h0.nx + mc ∧ hz.su ≤ h0.su + ms) (N : Nat) (k9 : Hp → Int32 → Int32 → Int32 → Option (Hp × Int32)) (t0 : Nat) (m9 : ∀ (h : Hp) (x1 : Int32) (x2 : Int32) (x3 : Int32), k9 h x1 x2 x3 = some (hz, rz) → Mo h hz) (i9 : ∀ (h : Hp) (x1 : Int32) (x2 : Int32) (x3 : Int32) (H : Heap) (locs : List Loc) (cells slots : Nat) (ls : Array Slot), k9 h x1 x2 x3 = some (hz, rz) → h.kd t0 = 12 → Wo D cs A s h0 h H locs cells slots → lv_has ls 5 [(0, .ref t0), (1, .int x1), (2, .int x2), (3, .int x3)] → W p l e { frames := 4, cells := mc, slots := ms, locals := 120 } s m args below meth c H locs cells slots (MQ below (Zi D cs A hz rz) args s mc ms A) (F0 m 9 ls [])) (h : Hp) (x1 : Int32) (x2 : Int32) (x3 : Int32) (hJ : B_X9_keysWithVersions_9 N k9 t0 h x1 x2 x3 = some (hz, rz)) (hk0 : h.kd t0 = 12) {H : Heap} {locs : List Loc} {cells slots : Nat} (w : Wo D cs A s h0 h H locs cells slots) {ls : Array Slot} (hl : lv_has ls 5 [(0, .ref t0), (1, .int x1), (2, .int x2), (3, .int x3)]) : W p l e { frames := 4, cells := mc, slots := ms, locals := 120 } s m args below meth c H locs cells slots (MQ below (Zi D cs A hz rz) args s mc ms A) (F0 m 9 ls []) := by
  obtain ⟨hx, hb, hml, hown, hts, -⟩ := id C
  unfold B_X9_keysWithVersions_9 at hJ
  refine lv_iload_n hx hb dX9_keysWithVersions_9 rfl (lv_at hl 3 rfl) ?_
  refine lv_aload_n hx hb dX9_keysWithVersions_10 rfl (lv_at hl 0 rfl) ?_
  refine fg_1200 C w hk0 tw_1_132 dX9_keysWithVersions_11 ?_
  obtain ⟨a14, ea14, hka14, hJ⟩ := dr_some hJ
  rw [ea14]
  obtain ⟨⟨h15, r16⟩, e17, hJ⟩ := ob_some hJ
  refine jc_Vi (As := []) C w (cc_X5_size N a14 h hka14 e17) (mo_X5_size N a14 h e17) (mb_X9_keysWithVersions_17 N k9 t0 _ _ _ _ _ _ m9 hJ) hz2 hka14 (by decide) rfl (fs := fs8 h a14) rfl rfl ⟨tw_2_181, tw_2_178, tw_2_179, tw_2_180, tw_1_2⟩ cd_X5_size ⟨by decide, by decide⟩ hl.1 (by first | exact Nat.le_of_ble_eq_true rfl | simp [rf_cat, cat_i, cat_l, cat_r]) rfl dX9_keysWithVersions_14 (fun H locs w1 => ?_)
  have hk18 := kd_keep w (mo_X5_size N a14 h e17) hk0 (by decide)
  have w := w1
  exact sb_X9_keysWithVersions_17 C hz2 N k9 t0 m9 i9 _ _ _ _ _ _ hJ hk18 w hl
def L_X9_keysWithVersions_9 (N : Nat) (t0 : Nat) : Nat → Hp → Int32 → Int32 → Int32 → Option (Hp × Int32)
  | 0 => fun _ _ _ _ => none
  | n + 1 => fun h x1 x2 x3 => B_X9_keysWithVersions_9 N (L_X9_keysWithVersions_9 N t0 n) t0 h x1 x2 x3
theorem ml_X9_keysWithVersions_9 (N : Nat) (t0 : Nat) : ∀ (n : Nat) (h : Hp) (x1 : Int32) (x2 : Int32) (x3 : Int32), L_X9_keysWithVersions_9 N t0 n h x1 x2 x3 = some (hz, rz) → Mo h hz := by
  intro n
  induction n with
  | zero => intro h x1 x2 x3 hJ; cases hJ
  | succ n ih => intro h x1 x2 x3 hJ; exact mb_X9_keysWithVersions_9 N (L_X9_keysWithVersions_9 N t0 n) t0 h x1 x2 x3 ih hJ
theorem sl_X9_keysWithVersions_9 (C : Cx p s m args meth c cX9_keysWithVersions 5 (some .int) RX9 D cs A h0.se) (hz2 : hz.nx ≤ h0.nx + mc ∧ hz.su ≤ h0.su + ms) (N : Nat) (t0 : Nat) : ∀ n : Nat, ∀ (h : Hp) (x1 : Int32) (x2 : Int32) (x3 : Int32) (H : Heap) (locs : List Loc) (cells slots : Nat) (ls : Array Slot), L_X9_keysWithVersions_9 N t0 n h x1 x2 x3 = some (hz, rz) → h.kd t0 = 12 → Wo D cs A s h0 h H locs cells slots → lv_has ls 5 [(0, .ref t0), (1, .int x1), (2, .int x2), (3, .int x3)] → W p l e { frames := 4, cells := mc, slots := ms, locals := 120 } s m args below meth c H locs cells slots (MQ below (Zi D cs A hz rz) args s mc ms A) (F0 m 9 ls []) := by
  intro n
  induction n with
  | zero => intro h x1 x2 x3 H locs cells slots ls hJ; cases hJ
  | succ n ih =>
    intro h x1 x2 x3 H locs cells slots ls hJ hk0 w hl
    exact sb_X9_keysWithVersions_9 C hz2 N (L_X9_keysWithVersions_9 N t0 n) t0 (ml_X9_keysWithVersions_9 N t0 n) ih h x1 x2 x3 hJ hk0 w hl
def B_X9_keysWithVersions_4 (N : Nat) (t0 : Nat) (h : Hp) (y0 : Int32) : Option (Hp × Int32) := L_X9_keysWithVersions_9 N t0 N h y0 (0 : Int32) (0 : Int32)
theorem mb_X9_keysWithVersions_4 (N : Nat) (t0 : Nat) (h : Hp) (y0 : Int32) (hJ : B_X9_keysWithVersions_4 N t0 h y0 = some (hz, rz)) : Mo h hz := by
  unfold B_X9_keysWithVersions_4 at hJ
  exact ml_X9_keysWithVersions_9 N t0 N _ _ _ _ hJ
set_option maxRecDepth 100000 in
set_option maxHeartbeats 4000000 in
theorem sb_X9_keysWithVersions_4 (C : Cx p s m args meth c cX9_keysWithVersions 5 (some .int) RX9 D cs A h0.se) (hz2 : hz.nx ≤ h0.nx + mc ∧ hz.su ≤ h0.su + ms) (N : Nat) (t0 : Nat) (h : Hp) (y0 : Int32) (hJ : B_X9_keysWithVersions_4 N t0 h y0 = some (hz, rz)) (hk0 : h.kd t0 = 12) {H : Heap} {locs : List Loc} {cells slots : Nat} (w : Wo D cs A s h0 h H locs cells slots) {ls : Array Slot} (hl : lv_has ls 5 [(0, .ref t0)]) : W p l e { frames := 4, cells := mc, slots := ms, locals := 120 } s m args below meth c H locs cells slots (MQ below (Zi D cs A hz rz) args s mc ms A) (F0 m 4 ls [.int y0]) := by
  obtain ⟨hx, hb, hml, hown, hts, -⟩ := id C
  unfold B_X9_keysWithVersions_4 at hJ
  refine lv_istore_n (i := 1) (lv' := [(1, .int y0), (0, .ref t0)]) hx hb dX9_keysWithVersions_4 rfl hl (by decide) rfl (fun ls hl => ?_)
  refine lv_iconst (v := (0 : Int32)) hx hb dX9_keysWithVersions_5 (by decide) ?_
  refine lv_istore_n (i := 2) (lv' := [(2, .int (0 : Int32)), (1, .int y0), (0, .ref t0)]) hx hb dX9_keysWithVersions_6 rfl hl (by decide) rfl (fun ls hl => ?_)
  refine lv_iconst (v := (0 : Int32)) hx hb dX9_keysWithVersions_7 (by decide) ?_
  refine lv_istore_n (i := 3) (lv' := [(3, .int (0 : Int32)), (2, .int (0 : Int32)), (1, .int y0), (0, .ref t0)]) hx hb dX9_keysWithVersions_8 rfl hl (by decide) rfl (fun ls hl => ?_)
  exact sl_X9_keysWithVersions_9 C hz2 N t0 N _ _ _ _ _ _ _ _ _ hJ hk0 w (lv_sub (l' := [(0, .ref t0), (1, .int y0), (2, .int (0 : Int32)), (3, .int (0 : Int32))]) hl [3, 2, 1, 0] rfl)
def B_X9_keysWithVersions_0 (N : Nat) (t0 : Nat) (h : Hp) : Option (Hp × Int32) := (J_X9_horizon N t0 h).bind (fun z => B_X9_keysWithVersions_4 N t0 z.1 z.2)
theorem mb_X9_keysWithVersions_0 (N : Nat) (t0 : Nat) (h : Hp) (hJ : B_X9_keysWithVersions_0 N t0 h = some (hz, rz)) : Mo h hz := by
  unfold B_X9_keysWithVersions_0 at hJ
  obtain ⟨⟨h19, r20⟩, e21, hJ⟩ := ob_some hJ
  exact (mo_X9_horizon N t0 h e21).tr (mb_X9_keysWithVersions_4 N t0 _ _ hJ)
set_option maxRecDepth 100000 in
set_option maxHeartbeats 4000000 in
theorem sb_X9_keysWithVersions_0 (C : Cx p s m args meth c cX9_keysWithVersions 5 (some .int) RX9 D cs A h0.se) (hz2 : hz.nx ≤ h0.nx + mc ∧ hz.su ≤ h0.su + ms) (N : Nat) (t0 : Nat) (h : Hp) (hJ : B_X9_keysWithVersions_0 N t0 h = some (hz, rz)) (hk0 : h.kd t0 = 12) {H : Heap} {locs : List Loc} {cells slots : Nat} (w : Wo D cs A s h0 h H locs cells slots) {ls : Array Slot} (hl : lv_has ls 5 [(0, .ref t0)]) : W p l e { frames := 4, cells := mc, slots := ms, locals := 120 } s m args below meth c H locs cells slots (MQ below (Zi D cs A hz rz) args s mc ms A) (F0 m 0 ls []) := by
  obtain ⟨hx, hb, hml, hown, hts, -⟩ := id C
  unfold B_X9_keysWithVersions_0 at hJ
  refine lv_aload_n hx hb dX9_keysWithVersions_0 rfl (lv_at hl 0 rfl) ?_
  obtain ⟨⟨h19, r20⟩, e21, hJ⟩ := ob_some hJ
  refine jc_Vi (As := []) C w (cc_X9_horizon N t0 h hk0 e21) (mo_X9_horizon N t0 h e21) (mb_X9_keysWithVersions_4 N t0 _ _ hJ) hz2 hk0 (by decide) rfl (fs := fs12 h t0) rfl rfl ⟨tw_2_173, tw_2_170, tw_2_172, ts_7, tw_1_1⟩ cd_X9_horizon ⟨by decide, by decide⟩ hl.1 (by first | exact Nat.le_of_ble_eq_true rfl | simp [rf_cat, cat_i, cat_l, cat_r]) rfl dX9_keysWithVersions_1 (fun H locs w1 => ?_)
  have hk22 := kd_keep w (mo_X9_horizon N t0 h e21) hk0 (by decide)
  have w := w1
  exact sb_X9_keysWithVersions_4 C hz2 N t0 _ _ hJ hk22 w hl
def J_X9_keysWithVersions (N : Nat) (t0 : Nat) (h : Hp) : Option (Hp × Int32) := B_X9_keysWithVersions_0 N t0 h
theorem mo_X9_keysWithVersions (N : Nat) (t0 : Nat) (h : Hp) (hJ : J_X9_keysWithVersions N t0 h = some (hz, rz)) : Mo h hz := mb_X9_keysWithVersions_0 N t0 h hJ
theorem cd_X9_keysWithVersions : Cd yX9_keysWithVersions 0 := ⟨by decide +kernel, by decide +kernel, by decide +kernel⟩
theorem cc_X9_keysWithVersions (N : Nat) (t0 : Nat) (h : Hp) (hk0 : h.kd t0 = 12) (hJ : J_X9_keysWithVersions N t0 h = some (hz, rz)) : Ci l yX9_keysWithVersions cX9_keysWithVersions 5 (some .int) 4 120 D cs h hz [.ref t0] rz := by
  intro mc ms g1 g2
  refine je_any (by decide) (by simp [lg_sl, rf_cat, cat_i, cat_l, cat_r]) ?_
  intro p e s m args below meth c C hin2 w ls hl
  have hl : lv_has ls 5 [(0, .ref t0)] := hl
  exact sb_X9_keysWithVersions_0 C ⟨g1, g2⟩ N t0 h hJ hk0 w hl
end G_X9_keysWithVersions
section G_X9_count
variable {p : Program} {l : Launch} {e : Env} {s : State} {m : MethodId} {args : Array Value} {below : List Frame} {meth : Method} {c : Code} {D : va_G} {cs : C4} {A : Nat → Prop} {h0 hz : Hp} {mc ms : Nat} {rz : Int32}
def B_X9_count_129 (N : Nat) (t0 : Nat) (h : Hp) : Option (Hp × Int32) := some (h, (-1 : Int32))
theorem mb_X9_count_129 (N : Nat) (t0 : Nat) (h : Hp) (hJ : B_X9_count_129 N t0 h = some (hz, rz)) : Mo h hz := by
  unfold B_X9_count_129 at hJ
  obtain ⟨rfl, -⟩ := rs2 hJ
  exact ⟨fun _ _ => rfl, Nat.le_refl _, Nat.le_refl _, rfl, fun _ _ => rfl⟩
set_option maxRecDepth 100000 in
set_option maxHeartbeats 4000000 in
theorem sb_X9_count_129 (C : Cx p s m args meth c cX9_count 2 (some .int) RX9 D cs A h0.se) (hz2 : hz.nx ≤ h0.nx + mc ∧ hz.su ≤ h0.su + ms) (N : Nat) (t0 : Nat) (h : Hp) (hJ : B_X9_count_129 N t0 h = some (hz, rz)) (hk0 : h.kd t0 = 12) {H : Heap} {locs : List Loc} {cells slots : Nat} (w : Wo D cs A s h0 h H locs cells slots) {ls : Array Slot} (hl : lv_has ls 2 [(0, .ref t0)]) : W p l e { frames := 5, cells := mc, slots := ms, locals := 150 } s m args below meth c H locs cells slots (MQ below (Zi D cs A hz rz) args s mc ms A) (F0 m 129 ls []) := by
  obtain ⟨hx, hb, hml, hown, hts, -⟩ := id C
  unfold B_X9_count_129 at hJ
  refine lv_iconst (v := (-1 : Int32)) hx hb dX9_count_129 (by decide) ?_
  obtain ⟨rfl, rfl⟩ := rs2 hJ
  exact jr_iret C w hz2 dX9_count_130
def B_X9_count_128 (N : Nat) (t0 : Nat) (h : Hp) (y0 : Int32) : Option (Hp × Int32) := some (h, y0)
theorem mb_X9_count_128 (N : Nat) (t0 : Nat) (h : Hp) (y0 : Int32) (hJ : B_X9_count_128 N t0 h y0 = some (hz, rz)) : Mo h hz := by
  unfold B_X9_count_128 at hJ
  obtain ⟨rfl, -⟩ := rs2 hJ
  exact ⟨fun _ _ => rfl, Nat.le_refl _, Nat.le_refl _, rfl, fun _ _ => rfl⟩
set_option maxRecDepth 100000 in
set_option maxHeartbeats 4000000 in
theorem sb_X9_count_128 (C : Cx p s m args meth c cX9_count 2 (some .int) RX9 D cs A h0.se) (hz2 : hz.nx ≤ h0.nx + mc ∧ hz.su ≤ h0.su + ms) (N : Nat) (t0 : Nat) (h : Hp) (y0 : Int32) (hJ : B_X9_count_128 N t0 h y0 = some (hz, rz)) (hk0 : h.kd t0 = 12) {H : Heap} {locs : List Loc} {cells slots : Nat} (w : Wo D cs A s h0 h H locs cells slots) {ls : Array Slot} (hl : lv_has ls 2 [(0, .ref t0)]) : W p l e { frames := 5, cells := mc, slots := ms, locals := 150 } s m args below meth c H locs cells slots (MQ below (Zi D cs A hz rz) args s mc ms A) (F0 m 128 ls [.int y0]) := by
  obtain ⟨hx, hb, hml, hown, hts, -⟩ := id C
  unfold B_X9_count_128 at hJ
  obtain ⟨rfl, rfl⟩ := rs2 hJ
  exact jr_iret C w hz2 dX9_count_128
def B_X9_count_120 (N : Nat) (t0 : Nat) (h : Hp) (y0 : Int32) : Option (Hp × Int32) := some (h, y0)
theorem mb_X9_count_120 (N : Nat) (t0 : Nat) (h : Hp) (y0 : Int32) (hJ : B_X9_count_120 N t0 h y0 = some (hz, rz)) : Mo h hz := by
  unfold B_X9_count_120 at hJ
  obtain ⟨rfl, -⟩ := rs2 hJ
  exact ⟨fun _ _ => rfl, Nat.le_refl _, Nat.le_refl _, rfl, fun _ _ => rfl⟩
set_option maxRecDepth 100000 in
set_option maxHeartbeats 4000000 in
theorem sb_X9_count_120 (C : Cx p s m args meth c cX9_count 2 (some .int) RX9 D cs A h0.se) (hz2 : hz.nx ≤ h0.nx + mc ∧ hz.su ≤ h0.su + ms) (N : Nat) (t0 : Nat) (h : Hp) (y0 : Int32) (hJ : B_X9_count_120 N t0 h y0 = some (hz, rz)) (hk0 : h.kd t0 = 12) {H : Heap} {locs : List Loc} {cells slots : Nat} (w : Wo D cs A s h0 h H locs cells slots) {ls : Array Slot} (hl : lv_has ls 2 [(0, .ref t0)]) : W p l e { frames := 5, cells := mc, slots := ms, locals := 150 } s m args below meth c H locs cells slots (MQ below (Zi D cs A hz rz) args s mc ms A) (F0 m 120 ls [.int y0]) := by
  obtain ⟨hx, hb, hml, hown, hts, -⟩ := id C
  unfold B_X9_count_120 at hJ
  obtain ⟨rfl, rfl⟩ := rs2 hJ
  exact jr_iret C w hz2 dX9_count_120
def B_X9_count_115 (N : Nat) (t0 : Nat) (h : Hp) (y0 : Int32) : Option (Hp × Int32) := some (h, y0)
theorem mb_X9_count_115 (N : Nat) (t0 : Nat) (h : Hp) (y0 : Int32) (hJ : B_X9_count_115 N t0 h y0 = some (hz, rz)) : Mo h hz := by
  unfold B_X9_count_115 at hJ
  obtain ⟨rfl, -⟩ := rs2 hJ
  exact ⟨fun _ _ => rfl, Nat.le_refl _, Nat.le_refl _, rfl, fun _ _ => rfl⟩
set_option maxRecDepth 100000 in
set_option maxHeartbeats 4000000 in
theorem sb_X9_count_115 (C : Cx p s m args meth c cX9_count 2 (some .int) RX9 D cs A h0.se) (hz2 : hz.nx ≤ h0.nx + mc ∧ hz.su ≤ h0.su + ms) (N : Nat) (t0 : Nat) (h : Hp) (y0 : Int32) (hJ : B_X9_count_115 N t0 h y0 = some (hz, rz)) (hk0 : h.kd t0 = 12) {H : Heap} {locs : List Loc} {cells slots : Nat} (w : Wo D cs A s h0 h H locs cells slots) {ls : Array Slot} (hl : lv_has ls 2 [(0, .ref t0)]) : W p l e { frames := 5, cells := mc, slots := ms, locals := 150 } s m args below meth c H locs cells slots (MQ below (Zi D cs A hz rz) args s mc ms A) (F0 m 115 ls [.int y0]) := by
  obtain ⟨hx, hb, hml, hown, hts, -⟩ := id C
  unfold B_X9_count_115 at hJ
  obtain ⟨rfl, rfl⟩ := rs2 hJ
  exact jr_iret C w hz2 dX9_count_115
def B_X9_count_110 (N : Nat) (t0 : Nat) (h : Hp) (y0 : Int32) : Option (Hp × Int32) := some (h, y0)
theorem mb_X9_count_110 (N : Nat) (t0 : Nat) (h : Hp) (y0 : Int32) (hJ : B_X9_count_110 N t0 h y0 = some (hz, rz)) : Mo h hz := by
  unfold B_X9_count_110 at hJ
  obtain ⟨rfl, -⟩ := rs2 hJ
  exact ⟨fun _ _ => rfl, Nat.le_refl _, Nat.le_refl _, rfl, fun _ _ => rfl⟩
set_option maxRecDepth 100000 in
set_option maxHeartbeats 4000000 in
theorem sb_X9_count_110 (C : Cx p s m args meth c cX9_count 2 (some .int) RX9 D cs A h0.se) (hz2 : hz.nx ≤ h0.nx + mc ∧ hz.su ≤ h0.su + ms) (N : Nat) (t0 : Nat) (h : Hp) (y0 : Int32) (hJ : B_X9_count_110 N t0 h y0 = some (hz, rz)) (hk0 : h.kd t0 = 12) {H : Heap} {locs : List Loc} {cells slots : Nat} (w : Wo D cs A s h0 h H locs cells slots) {ls : Array Slot} (hl : lv_has ls 2 [(0, .ref t0)]) : W p l e { frames := 5, cells := mc, slots := ms, locals := 150 } s m args below meth c H locs cells slots (MQ below (Zi D cs A hz rz) args s mc ms A) (F0 m 110 ls [.int y0]) := by
  obtain ⟨hx, hb, hml, hown, hts, -⟩ := id C
  unfold B_X9_count_110 at hJ
  obtain ⟨rfl, rfl⟩ := rs2 hJ
  exact jr_iret C w hz2 dX9_count_110
def B_X9_count_105 (N : Nat) (t0 : Nat) (h : Hp) (y0 : Int32) : Option (Hp × Int32) := some (h, y0)
theorem mb_X9_count_105 (N : Nat) (t0 : Nat) (h : Hp) (y0 : Int32) (hJ : B_X9_count_105 N t0 h y0 = some (hz, rz)) : Mo h hz := by
  unfold B_X9_count_105 at hJ
  obtain ⟨rfl, -⟩ := rs2 hJ
  exact ⟨fun _ _ => rfl, Nat.le_refl _, Nat.le_refl _, rfl, fun _ _ => rfl⟩
set_option maxRecDepth 100000 in
set_option maxHeartbeats 4000000 in
theorem sb_X9_count_105 (C : Cx p s m args meth c cX9_count 2 (some .int) RX9 D cs A h0.se) (hz2 : hz.nx ≤ h0.nx + mc ∧ hz.su ≤ h0.su + ms) (N : Nat) (t0 : Nat) (h : Hp) (y0 : Int32) (hJ : B_X9_count_105 N t0 h y0 = some (hz, rz)) (hk0 : h.kd t0 = 12) {H : Heap} {locs : List Loc} {cells slots : Nat} (w : Wo D cs A s h0 h H locs cells slots) {ls : Array Slot} (hl : lv_has ls 2 [(0, .ref t0)]) : W p l e { frames := 5, cells := mc, slots := ms, locals := 150 } s m args below meth c H locs cells slots (MQ below (Zi D cs A hz rz) args s mc ms A) (F0 m 105 ls [.int y0]) := by
  obtain ⟨hx, hb, hml, hown, hts, -⟩ := id C
  unfold B_X9_count_105 at hJ
  obtain ⟨rfl, rfl⟩ := rs2 hJ
  exact jr_iret C w hz2 dX9_count_105
def B_X9_count_99 (N : Nat) (t0 : Nat) (h : Hp) (y0 : Int32) (y1 : Int32) : Option (Hp × Int32) := some (h, y0 - y1)
theorem mb_X9_count_99 (N : Nat) (t0 : Nat) (h : Hp) (y0 : Int32) (y1 : Int32) (hJ : B_X9_count_99 N t0 h y0 y1 = some (hz, rz)) : Mo h hz := by
  unfold B_X9_count_99 at hJ
  obtain ⟨rfl, -⟩ := rs2 hJ
  exact ⟨fun _ _ => rfl, Nat.le_refl _, Nat.le_refl _, rfl, fun _ _ => rfl⟩
set_option maxRecDepth 100000 in
set_option maxHeartbeats 4000000 in
theorem sb_X9_count_99 (C : Cx p s m args meth c cX9_count 2 (some .int) RX9 D cs A h0.se) (hz2 : hz.nx ≤ h0.nx + mc ∧ hz.su ≤ h0.su + ms) (N : Nat) (t0 : Nat) (h : Hp) (y0 : Int32) (y1 : Int32) (hJ : B_X9_count_99 N t0 h y0 y1 = some (hz, rz)) (hk0 : h.kd t0 = 12) {H : Heap} {locs : List Loc} {cells slots : Nat} (w : Wo D cs A s h0 h H locs cells slots) {ls : Array Slot} (hl : lv_has ls 2 [(0, .ref t0)]) : W p l e { frames := 5, cells := mc, slots := ms, locals := 150 } s m args below meth c H locs cells slots (MQ below (Zi D cs A hz rz) args s mc ms A) (F0 m 99 ls [.int y1, .int y0]) := by
  obtain ⟨hx, hb, hml, hown, hts, -⟩ := id C
  unfold B_X9_count_99 at hJ
  refine lv_isub hx hb dX9_count_99 ?_
  obtain ⟨rfl, rfl⟩ := rs2 hJ
  exact jr_iret C w hz2 dX9_count_100
def B_X9_count_95 (N : Nat) (t0 : Nat) (h : Hp) (y0 : Int32) : Option (Hp × Int32) := (J_X9_horizon N t0 h).bind (fun z => B_X9_count_99 N t0 z.1 y0 z.2)
theorem mb_X9_count_95 (N : Nat) (t0 : Nat) (h : Hp) (y0 : Int32) (hJ : B_X9_count_95 N t0 h y0 = some (hz, rz)) : Mo h hz := by
  unfold B_X9_count_95 at hJ
  obtain ⟨⟨h1, r2⟩, e3, hJ⟩ := ob_some hJ
  exact (mo_X9_horizon N t0 h e3).tr (mb_X9_count_99 N t0 _ _ _ hJ)
set_option maxRecDepth 100000 in
set_option maxHeartbeats 4000000 in
theorem sb_X9_count_95 (C : Cx p s m args meth c cX9_count 2 (some .int) RX9 D cs A h0.se) (hz2 : hz.nx ≤ h0.nx + mc ∧ hz.su ≤ h0.su + ms) (N : Nat) (t0 : Nat) (h : Hp) (y0 : Int32) (hJ : B_X9_count_95 N t0 h y0 = some (hz, rz)) (hk0 : h.kd t0 = 12) {H : Heap} {locs : List Loc} {cells slots : Nat} (w : Wo D cs A s h0 h H locs cells slots) {ls : Array Slot} (hl : lv_has ls 2 [(0, .ref t0)]) : W p l e { frames := 5, cells := mc, slots := ms, locals := 150 } s m args below meth c H locs cells slots (MQ below (Zi D cs A hz rz) args s mc ms A) (F0 m 95 ls [.int y0]) := by
  obtain ⟨hx, hb, hml, hown, hts, -⟩ := id C
  unfold B_X9_count_95 at hJ
  refine lv_aload_n hx hb dX9_count_95 rfl (lv_at hl 0 rfl) ?_
  obtain ⟨⟨h1, r2⟩, e3, hJ⟩ := ob_some hJ
  refine jc_Vi (As := []) C w (cc_X9_horizon N t0 h hk0 e3) (mo_X9_horizon N t0 h e3) (mb_X9_count_99 N t0 _ _ _ hJ) hz2 hk0 (by decide) rfl (fs := fs12 h t0) rfl rfl ⟨tw_2_173, tw_2_170, tw_2_172, ts_7, tw_1_1⟩ cd_X9_horizon ⟨by decide, by decide⟩ hl.1 (by first | exact Nat.le_of_ble_eq_true rfl | simp [rf_cat, cat_i, cat_l, cat_r]) rfl dX9_count_96 (fun H locs w1 => ?_)
  have hk4 := kd_keep w (mo_X9_horizon N t0 h e3) hk0 (by decide)
  have w := w1
  exact sb_X9_count_99 C hz2 N t0 _ _ _ hJ hk4 w hl
def B_X9_count_87 (N : Nat) (t0 : Nat) (h : Hp) (y0 : Int32) : Option (Hp × Int32) := some (h, y0)
theorem mb_X9_count_87 (N : Nat) (t0 : Nat) (h : Hp) (y0 : Int32) (hJ : B_X9_count_87 N t0 h y0 = some (hz, rz)) : Mo h hz := by
  unfold B_X9_count_87 at hJ
  obtain ⟨rfl, -⟩ := rs2 hJ
  exact ⟨fun _ _ => rfl, Nat.le_refl _, Nat.le_refl _, rfl, fun _ _ => rfl⟩
set_option maxRecDepth 100000 in
set_option maxHeartbeats 4000000 in
theorem sb_X9_count_87 (C : Cx p s m args meth c cX9_count 2 (some .int) RX9 D cs A h0.se) (hz2 : hz.nx ≤ h0.nx + mc ∧ hz.su ≤ h0.su + ms) (N : Nat) (t0 : Nat) (h : Hp) (y0 : Int32) (hJ : B_X9_count_87 N t0 h y0 = some (hz, rz)) (hk0 : h.kd t0 = 12) {H : Heap} {locs : List Loc} {cells slots : Nat} (w : Wo D cs A s h0 h H locs cells slots) {ls : Array Slot} (hl : lv_has ls 2 [(0, .ref t0)]) : W p l e { frames := 5, cells := mc, slots := ms, locals := 150 } s m args below meth c H locs cells slots (MQ below (Zi D cs A hz rz) args s mc ms A) (F0 m 87 ls [.int y0]) := by
  obtain ⟨hx, hb, hml, hown, hts, -⟩ := id C
  unfold B_X9_count_87 at hJ
  obtain ⟨rfl, rfl⟩ := rs2 hJ
  exact jr_iret C w hz2 dX9_count_87
def B_X9_count_17 (N : Nat) (t0 : Nat) (h : Hp) (x1 : Int32) : Option (Hp × Int32) := if x1 = (0 : Int32) then (dr h 2 (h.fr 1201 t0) (fun a6 => (J_Jx4a65c_size_8abf5 N a6 h).bind (fun z => B_X9_count_87 N t0 z.1 z.2))) else (if x1 = (1 : Int32) then (B_X9_count_129 N t0 h) else (if x1 = (2 : Int32) then (B_X9_count_129 N t0 h) else (if x1 = (3 : Int32) then (B_X9_count_129 N t0 h) else (if x1 = (4 : Int32) then (B_X9_count_129 N t0 h) else (if x1 = (5 : Int32) then (B_X9_count_129 N t0 h) else (if x1 = (6 : Int32) then (dr h 2 (h.fr 1203 t0) (fun a17 => (J_Jx4a65c_size_8abf5 N a17 h).bind (fun z => B_X9_count_95 N t0 z.1 z.2))) else (if x1 = (7 : Int32) then ((J_X9_allRuns N t0 h).bind (fun z => B_X9_count_105 N t0 z.1 z.2)) else (if x1 = (8 : Int32) then ((J_X9_keptVersions N t0 h).bind (fun z => B_X9_count_110 N t0 z.1 z.2)) else (if x1 = (9 : Int32) then ((J_X9_keysWithVersions N t0 h).bind (fun z => B_X9_count_115 N t0 z.1 z.2)) else (if x1 = (10 : Int32) then ((J_X9_horizon N t0 h).bind (fun z => B_X9_count_120 N t0 z.1 z.2)) else (if x1 = (11 : Int32) then (dr h 2 (h.fr 1203 t0) (fun a43 => (J_Jx4a65c_size_8abf5 N a43 h).bind (fun z => B_X9_count_128 N t0 z.1 z.2))) else (B_X9_count_129 N t0 h))))))))))))
theorem mb_X9_count_17 (N : Nat) (t0 : Nat) (h : Hp) (x1 : Int32) (hJ : B_X9_count_17 N t0 h x1 = some (hz, rz)) : Mo h hz := by
  unfold B_X9_count_17 at hJ
  by_cases c5 : x1 = (0 : Int32)
  · have hJ := it_pos c5 hJ
    obtain ⟨a6, ea6, -, hJ⟩ := dr_some hJ
    obtain ⟨⟨h7, r8⟩, e9, hJ⟩ := ob_some hJ
    exact (mo_Jx4a65c_size_8abf5 N a6 h e9).tr (mb_X9_count_87 N t0 _ _ hJ)
  · have hJ := it_neg c5 hJ
    by_cases c11 : x1 = (1 : Int32)
    · have hJ := it_pos c11 hJ
      exact mb_X9_count_129 N t0 _ hJ
    · have hJ := it_neg c11 hJ
      by_cases c12 : x1 = (2 : Int32)
      · have hJ := it_pos c12 hJ
        exact mb_X9_count_129 N t0 _ hJ
      · have hJ := it_neg c12 hJ
        by_cases c13 : x1 = (3 : Int32)
        · have hJ := it_pos c13 hJ
          exact mb_X9_count_129 N t0 _ hJ
        · have hJ := it_neg c13 hJ
          by_cases c14 : x1 = (4 : Int32)
          · have hJ := it_pos c14 hJ
            exact mb_X9_count_129 N t0 _ hJ
          · have hJ := it_neg c14 hJ
            by_cases c15 : x1 = (5 : Int32)
            · have hJ := it_pos c15 hJ
              exact mb_X9_count_129 N t0 _ hJ
            · have hJ := it_neg c15 hJ
              by_cases c16 : x1 = (6 : Int32)
              · have hJ := it_pos c16 hJ
                obtain ⟨a17, ea17, -, hJ⟩ := dr_some hJ
                obtain ⟨⟨h18, r19⟩, e20, hJ⟩ := ob_some hJ
                exact (mo_Jx4a65c_size_8abf5 N a17 h e20).tr (mb_X9_count_95 N t0 _ _ hJ)
              · have hJ := it_neg c16 hJ
                by_cases c22 : x1 = (7 : Int32)
                · have hJ := it_pos c22 hJ
                  obtain ⟨⟨h23, r24⟩, e25, hJ⟩ := ob_some hJ
                  exact (mo_X9_allRuns N t0 h e25).tr (mb_X9_count_105 N t0 _ _ hJ)
                · have hJ := it_neg c22 hJ
                  by_cases c27 : x1 = (8 : Int32)
                  · have hJ := it_pos c27 hJ
                    obtain ⟨⟨h28, r29⟩, e30, hJ⟩ := ob_some hJ
                    exact (mo_X9_keptVersions N t0 h e30).tr (mb_X9_count_110 N t0 _ _ hJ)
                  · have hJ := it_neg c27 hJ
                    by_cases c32 : x1 = (9 : Int32)
                    · have hJ := it_pos c32 hJ
                      obtain ⟨⟨h33, r34⟩, e35, hJ⟩ := ob_some hJ
                      exact (mo_X9_keysWithVersions N t0 h e35).tr (mb_X9_count_115 N t0 _ _ hJ)
                    · have hJ := it_neg c32 hJ
                      by_cases c37 : x1 = (10 : Int32)
                      · have hJ := it_pos c37 hJ
                        obtain ⟨⟨h38, r39⟩, e40, hJ⟩ := ob_some hJ
                        exact (mo_X9_horizon N t0 h e40).tr (mb_X9_count_120 N t0 _ _ hJ)
                      · have hJ := it_neg c37 hJ
                        by_cases c42 : x1 = (11 : Int32)
                        · have hJ := it_pos c42 hJ
                          obtain ⟨a43, ea43, -, hJ⟩ := dr_some hJ
                          obtain ⟨⟨h44, r45⟩, e46, hJ⟩ := ob_some hJ
                          exact (mo_Jx4a65c_size_8abf5 N a43 h e46).tr (mb_X9_count_128 N t0 _ _ hJ)
                        · have hJ := it_neg c42 hJ
                          exact mb_X9_count_129 N t0 _ hJ
set_option maxRecDepth 100000 in
set_option maxHeartbeats 4000000 in
theorem sb_X9_count_17 (C : Cx p s m args meth c cX9_count 2 (some .int) RX9 D cs A h0.se) (hz2 : hz.nx ≤ h0.nx + mc ∧ hz.su ≤ h0.su + ms) (N : Nat) (t0 : Nat) (h : Hp) (x1 : Int32) (hJ : B_X9_count_17 N t0 h x1 = some (hz, rz)) (hk0 : h.kd t0 = 12) {H : Heap} {locs : List Loc} {cells slots : Nat} (w : Wo D cs A s h0 h H locs cells slots) {ls : Array Slot} (hl : lv_has ls 2 [(0, .ref t0), (1, .int x1)]) : W p l e { frames := 5, cells := mc, slots := ms, locals := 150 } s m args below meth c H locs cells slots (MQ below (Zi D cs A hz rz) args s mc ms A) (F0 m 17 ls []) := by
  obtain ⟨hx, hb, hml, hown, hts, -⟩ := id C
  unfold B_X9_count_17 at hJ
  refine lv_iload_n hx hb dX9_count_17 rfl (lv_at hl 1 rfl) ?_
  by_cases c5 : x1 = (0 : Int32)
  · have hJ := it_pos c5 hJ
    refine lv_tableIn (tgt := 80) hx hb dX9_count_18 (by rw [c5]; decide) (by rw [c5]; decide) (off := 62) (by rw [c5]; rfl) (by decide) ?_
    refine lv_aload_n hx hb dX9_count_80 rfl (lv_at hl 0 rfl) ?_
    refine fg_1201 C w hk0 tw_1_133 dX9_count_81 ?_
    obtain ⟨a6, ea6, hka6, hJ⟩ := dr_some hJ
    rw [ea6]
    obtain ⟨⟨h7, r8⟩, e9, hJ⟩ := ob_some hJ
    refine jc_Vi (As := []) C w (cc_Jx4a65c_size_8abf5 N a6 h hka6 e9) (mo_Jx4a65c_size_8abf5 N a6 h e9) (mb_X9_count_87 N t0 _ _ hJ) hz2 hka6 (by decide) rfl (fs := fs2 h a6) rfl rfl ⟨tw_1_182, tw_1_179, tw_1_180, tw_1_181, tw_1_5⟩ cd_Jx4a65c_size_8abf5 ⟨by decide, by decide⟩ hl.1 (by first | exact Nat.le_of_ble_eq_true rfl | simp [rf_cat, cat_i, cat_l, cat_r]) rfl dX9_count_84 (fun H locs w1 => ?_)
    have hk10 := kd_keep w (mo_Jx4a65c_size_8abf5 N a6 h e9) hk0 (by decide)
    have w := w1
    exact sb_X9_count_87 C hz2 N t0 _ _ hJ hk10 w (lv_sub (l' := [(0, .ref t0)]) hl [0] rfl)
  · have hJ := it_neg c5 hJ
    by_cases c11 : x1 = (1 : Int32)
    · have hJ := it_pos c11 hJ
      refine lv_tableIn (tgt := 129) hx hb dX9_count_18 (by rw [c11]; decide) (by rw [c11]; decide) (off := 111) (by rw [c11]; rfl) (by decide) ?_
      exact sb_X9_count_129 C hz2 N t0 _ hJ hk0 w (lv_sub (l' := [(0, .ref t0)]) hl [0] rfl)
    · have hJ := it_neg c11 hJ
      by_cases c12 : x1 = (2 : Int32)
      · have hJ := it_pos c12 hJ
        refine lv_tableIn (tgt := 129) hx hb dX9_count_18 (by rw [c12]; decide) (by rw [c12]; decide) (off := 111) (by rw [c12]; rfl) (by decide) ?_
        exact sb_X9_count_129 C hz2 N t0 _ hJ hk0 w (lv_sub (l' := [(0, .ref t0)]) hl [0] rfl)
      · have hJ := it_neg c12 hJ
        by_cases c13 : x1 = (3 : Int32)
        · have hJ := it_pos c13 hJ
          refine lv_tableIn (tgt := 129) hx hb dX9_count_18 (by rw [c13]; decide) (by rw [c13]; decide) (off := 111) (by rw [c13]; rfl) (by decide) ?_
          exact sb_X9_count_129 C hz2 N t0 _ hJ hk0 w (lv_sub (l' := [(0, .ref t0)]) hl [0] rfl)
        · have hJ := it_neg c13 hJ
          by_cases c14 : x1 = (4 : Int32)
          · have hJ := it_pos c14 hJ
            refine lv_tableIn (tgt := 129) hx hb dX9_count_18 (by rw [c14]; decide) (by rw [c14]; decide) (off := 111) (by rw [c14]; rfl) (by decide) ?_
            exact sb_X9_count_129 C hz2 N t0 _ hJ hk0 w (lv_sub (l' := [(0, .ref t0)]) hl [0] rfl)
          · have hJ := it_neg c14 hJ
            by_cases c15 : x1 = (5 : Int32)
            · have hJ := it_pos c15 hJ
              refine lv_tableIn (tgt := 129) hx hb dX9_count_18 (by rw [c15]; decide) (by rw [c15]; decide) (off := 111) (by rw [c15]; rfl) (by decide) ?_
              exact sb_X9_count_129 C hz2 N t0 _ hJ hk0 w (lv_sub (l' := [(0, .ref t0)]) hl [0] rfl)
            · have hJ := it_neg c15 hJ
              by_cases c16 : x1 = (6 : Int32)
              · have hJ := it_pos c16 hJ
                refine lv_tableIn (tgt := 88) hx hb dX9_count_18 (by rw [c16]; decide) (by rw [c16]; decide) (off := 70) (by rw [c16]; rfl) (by decide) ?_
                refine lv_aload_n hx hb dX9_count_88 rfl (lv_at hl 0 rfl) ?_
                refine fg_1203 C w hk0 tw_1_135 dX9_count_89 ?_
                obtain ⟨a17, ea17, hka17, hJ⟩ := dr_some hJ
                rw [ea17]
                obtain ⟨⟨h18, r19⟩, e20, hJ⟩ := ob_some hJ
                refine jc_Vi (As := []) C w (cc_Jx4a65c_size_8abf5 N a17 h hka17 e20) (mo_Jx4a65c_size_8abf5 N a17 h e20) (mb_X9_count_95 N t0 _ _ hJ) hz2 hka17 (by decide) rfl (fs := fs2 h a17) rfl rfl ⟨tw_1_182, tw_1_179, tw_1_180, tw_1_181, tw_1_5⟩ cd_Jx4a65c_size_8abf5 ⟨by decide, by decide⟩ hl.1 (by first | exact Nat.le_of_ble_eq_true rfl | simp [rf_cat, cat_i, cat_l, cat_r]) rfl dX9_count_92 (fun H locs w1 => ?_)
                have hk21 := kd_keep w (mo_Jx4a65c_size_8abf5 N a17 h e20) hk0 (by decide)
                have w := w1
                exact sb_X9_count_95 C hz2 N t0 _ _ hJ hk21 w (lv_sub (l' := [(0, .ref t0)]) hl [0] rfl)
              · have hJ := it_neg c16 hJ
                by_cases c22 : x1 = (7 : Int32)
                · have hJ := it_pos c22 hJ
                  refine lv_tableIn (tgt := 101) hx hb dX9_count_18 (by rw [c22]; decide) (by rw [c22]; decide) (off := 83) (by rw [c22]; rfl) (by decide) ?_
                  refine lv_aload_n hx hb dX9_count_101 rfl (lv_at hl 0 rfl) ?_
                  obtain ⟨⟨h23, r24⟩, e25, hJ⟩ := ob_some hJ
                  refine jc_Vi (As := []) C w (cc_X9_allRuns N t0 h hk0 e25) (mo_X9_allRuns N t0 h e25) (mb_X9_count_105 N t0 _ _ hJ) hz2 hk0 (by decide) rfl (fs := fs12 h t0) rfl rfl ⟨tw_2_228, tw_2_225, tw_2_227, ts_9, tw_1_1⟩ cd_X9_allRuns ⟨by decide, by decide⟩ hl.1 (by first | exact Nat.le_of_ble_eq_true rfl | simp [rf_cat, cat_i, cat_l, cat_r]) rfl dX9_count_102 (fun H locs w1 => ?_)
                  have hk26 := kd_keep w (mo_X9_allRuns N t0 h e25) hk0 (by decide)
                  have w := w1
                  exact sb_X9_count_105 C hz2 N t0 _ _ hJ hk26 w (lv_sub (l' := [(0, .ref t0)]) hl [0] rfl)
                · have hJ := it_neg c22 hJ
                  by_cases c27 : x1 = (8 : Int32)
                  · have hJ := it_pos c27 hJ
                    refine lv_tableIn (tgt := 106) hx hb dX9_count_18 (by rw [c27]; decide) (by rw [c27]; decide) (off := 88) (by rw [c27]; rfl) (by decide) ?_
                    refine lv_aload_n hx hb dX9_count_106 rfl (lv_at hl 0 rfl) ?_
                    obtain ⟨⟨h28, r29⟩, e30, hJ⟩ := ob_some hJ
                    refine jc_Vi (As := []) C w (cc_X9_keptVersions N t0 h hk0 e30) (mo_X9_keptVersions N t0 h e30) (mb_X9_count_110 N t0 _ _ hJ) hz2 hk0 (by decide) rfl (fs := fs12 h t0) rfl rfl ⟨tw_2_236, tw_2_233, tw_2_235, ts_11, tw_1_1⟩ cd_X9_keptVersions ⟨by decide, by decide⟩ hl.1 (by first | exact Nat.le_of_ble_eq_true rfl | simp [rf_cat, cat_i, cat_l, cat_r]) rfl dX9_count_107 (fun H locs w1 => ?_)
                    have hk31 := kd_keep w (mo_X9_keptVersions N t0 h e30) hk0 (by decide)
                    have w := w1
                    exact sb_X9_count_110 C hz2 N t0 _ _ hJ hk31 w (lv_sub (l' := [(0, .ref t0)]) hl [0] rfl)
                  · have hJ := it_neg c27 hJ
                    by_cases c32 : x1 = (9 : Int32)
                    · have hJ := it_pos c32 hJ
                      refine lv_tableIn (tgt := 111) hx hb dX9_count_18 (by rw [c32]; decide) (by rw [c32]; decide) (off := 93) (by rw [c32]; rfl) (by decide) ?_
                      refine lv_aload_n hx hb dX9_count_111 rfl (lv_at hl 0 rfl) ?_
                      obtain ⟨⟨h33, r34⟩, e35, hJ⟩ := ob_some hJ
                      refine jc_Vi (As := []) C w (cc_X9_keysWithVersions N t0 h hk0 e35) (mo_X9_keysWithVersions N t0 h e35) (mb_X9_count_115 N t0 _ _ hJ) hz2 hk0 (by decide) rfl (fs := fs12 h t0) rfl rfl ⟨tw_3_1, tw_2_238, tw_3_0, ts_12, tw_1_1⟩ cd_X9_keysWithVersions ⟨by decide, by decide⟩ hl.1 (by first | exact Nat.le_of_ble_eq_true rfl | simp [rf_cat, cat_i, cat_l, cat_r]) rfl dX9_count_112 (fun H locs w1 => ?_)
                      have hk36 := kd_keep w (mo_X9_keysWithVersions N t0 h e35) hk0 (by decide)
                      have w := w1
                      exact sb_X9_count_115 C hz2 N t0 _ _ hJ hk36 w (lv_sub (l' := [(0, .ref t0)]) hl [0] rfl)
                    · have hJ := it_neg c32 hJ
                      by_cases c37 : x1 = (10 : Int32)
                      · have hJ := it_pos c37 hJ
                        refine lv_tableIn (tgt := 116) hx hb dX9_count_18 (by rw [c37]; decide) (by rw [c37]; decide) (off := 98) (by rw [c37]; rfl) (by decide) ?_
                        refine lv_aload_n hx hb dX9_count_116 rfl (lv_at hl 0 rfl) ?_
                        obtain ⟨⟨h38, r39⟩, e40, hJ⟩ := ob_some hJ
                        refine jc_Vi (As := []) C w (cc_X9_horizon N t0 h hk0 e40) (mo_X9_horizon N t0 h e40) (mb_X9_count_120 N t0 _ _ hJ) hz2 hk0 (by decide) rfl (fs := fs12 h t0) rfl rfl ⟨tw_2_173, tw_2_170, tw_2_172, ts_7, tw_1_1⟩ cd_X9_horizon ⟨by decide, by decide⟩ hl.1 (by first | exact Nat.le_of_ble_eq_true rfl | simp [rf_cat, cat_i, cat_l, cat_r]) rfl dX9_count_117 (fun H locs w1 => ?_)
                        have hk41 := kd_keep w (mo_X9_horizon N t0 h e40) hk0 (by decide)
                        have w := w1
                        exact sb_X9_count_120 C hz2 N t0 _ _ hJ hk41 w (lv_sub (l' := [(0, .ref t0)]) hl [0] rfl)
                      · have hJ := it_neg c37 hJ
                        by_cases c42 : x1 = (11 : Int32)
                        · have hJ := it_pos c42 hJ
                          refine lv_tableIn (tgt := 121) hx hb dX9_count_18 (by rw [c42]; decide) (by rw [c42]; decide) (off := 103) (by rw [c42]; rfl) (by decide) ?_
                          refine lv_aload_n hx hb dX9_count_121 rfl (lv_at hl 0 rfl) ?_
                          refine fg_1203 C w hk0 tw_1_135 dX9_count_122 ?_
                          obtain ⟨a43, ea43, hka43, hJ⟩ := dr_some hJ
                          rw [ea43]
                          obtain ⟨⟨h44, r45⟩, e46, hJ⟩ := ob_some hJ
                          refine jc_Vi (As := []) C w (cc_Jx4a65c_size_8abf5 N a43 h hka43 e46) (mo_Jx4a65c_size_8abf5 N a43 h e46) (mb_X9_count_128 N t0 _ _ hJ) hz2 hka43 (by decide) rfl (fs := fs2 h a43) rfl rfl ⟨tw_1_182, tw_1_179, tw_1_180, tw_1_181, tw_1_5⟩ cd_Jx4a65c_size_8abf5 ⟨by decide, by decide⟩ hl.1 (by first | exact Nat.le_of_ble_eq_true rfl | simp [rf_cat, cat_i, cat_l, cat_r]) rfl dX9_count_125 (fun H locs w1 => ?_)
                          have hk47 := kd_keep w (mo_Jx4a65c_size_8abf5 N a43 h e46) hk0 (by decide)
                          have w := w1
                          exact sb_X9_count_128 C hz2 N t0 _ _ hJ hk47 w (lv_sub (l' := [(0, .ref t0)]) hl [0] rfl)
                        · have hJ := it_neg c42 hJ
                          refine lv_tableOut (tgt := 129) hx hb dX9_count_18 (by have := ne_ti (n := 0) rfl c5; have := ne_ti (n := 1) rfl c11; have := ne_ti (n := 2) rfl c12; have := ne_ti (n := 3) rfl c13; have := ne_ti (n := 4) rfl c14; have := ne_ti (n := 5) rfl c15; have := ne_ti (n := 6) rfl c16; have := ne_ti (n := 7) rfl c22; have := ne_ti (n := 8) rfl c27; have := ne_ti (n := 9) rfl c32; have := ne_ti (n := 10) rfl c37; have := ne_ti (n := 11) rfl c42;  omega) (by decide) ?_
                          exact sb_X9_count_129 C hz2 N t0 _ hJ hk0 w (lv_sub (l' := [(0, .ref t0)]) hl [0] rfl)
def B_X9_count_0 (N : Nat) (t0 : Nat) (h : Hp) (x1 : Int32) : Option (Hp × Int32) := if x1 < (1 : Int32) then (B_X9_count_17 N t0 h x1) else (if (5 : Int32) < x1 then (B_X9_count_17 N t0 h x1) else (dr h 20 (h.fr 1204 t0) (fun a50 => ck (¬ (x1 < 0 ∨ h.al a50 ≤ x1.toNatClampNeg)) (some (h, h.ai a50 x1.toNatClampNeg)))))
theorem mb_X9_count_0 (N : Nat) (t0 : Nat) (h : Hp) (x1 : Int32) (hJ : B_X9_count_0 N t0 h x1 = some (hz, rz)) : Mo h hz := by
  unfold B_X9_count_0 at hJ
  by_cases c48 : x1 < (1 : Int32)
  · have hJ := it_pos c48 hJ
    exact mb_X9_count_17 N t0 _ _ hJ
  · have hJ := it_neg c48 hJ
    by_cases c49 : (5 : Int32) < x1
    · have hJ := it_pos c49 hJ
      exact mb_X9_count_17 N t0 _ _ hJ
    · have hJ := it_neg c49 hJ
      obtain ⟨a50, ea50, -, hJ⟩ := dr_some hJ
      obtain ⟨-, hJ⟩ := ck_some hJ
      obtain ⟨rfl, -⟩ := rs2 hJ
      exact ⟨fun _ _ => rfl, Nat.le_refl _, Nat.le_refl _, rfl, fun _ _ => rfl⟩
set_option maxRecDepth 100000 in
set_option maxHeartbeats 4000000 in
theorem sb_X9_count_0 (C : Cx p s m args meth c cX9_count 2 (some .int) RX9 D cs A h0.se) (hz2 : hz.nx ≤ h0.nx + mc ∧ hz.su ≤ h0.su + ms) (N : Nat) (t0 : Nat) (h : Hp) (x1 : Int32) (hJ : B_X9_count_0 N t0 h x1 = some (hz, rz)) (hk0 : h.kd t0 = 12) {H : Heap} {locs : List Loc} {cells slots : Nat} (w : Wo D cs A s h0 h H locs cells slots) {ls : Array Slot} (hl : lv_has ls 2 [(0, .ref t0), (1, .int x1)]) : W p l e { frames := 5, cells := mc, slots := ms, locals := 150 } s m args below meth c H locs cells slots (MQ below (Zi D cs A hz rz) args s mc ms A) (F0 m 0 ls []) := by
  obtain ⟨hx, hb, hml, hown, hts, -⟩ := id C
  unfold B_X9_count_0 at hJ
  refine lv_iload_n hx hb dX9_count_0 rfl (lv_at hl 1 rfl) ?_
  refine lv_iconst (v := (1 : Int32)) hx hb dX9_count_1 (by decide) ?_
  refine lv_icmp_lt (tgt := 17) hx hb dX9_count_2 (by decide) (fun c48 => ?_) (fun c48 => ?_)
  · have hJ := it_pos c48 hJ
    exact sb_X9_count_17 C hz2 N t0 _ _ hJ hk0 w hl
  · have hJ := it_neg c48 hJ
    refine lv_iload_n hx hb dX9_count_5 rfl (lv_at hl 1 rfl) ?_
    refine lv_iconst (v := (5 : Int32)) hx hb dX9_count_6 (by decide) ?_
    refine lv_icmp_gt (tgt := 17) hx hb dX9_count_7 (by decide) (fun c49 => ?_) (fun c49 => ?_)
    · have hJ := it_pos c49 hJ
      exact sb_X9_count_17 C hz2 N t0 _ _ hJ hk0 w hl
    · have hJ := it_neg c49 hJ
      refine lv_aload_n hx hb dX9_count_10 rfl (lv_at hl 0 rfl) ?_
      refine fg_1204 C w hk0 tw_1_136 dX9_count_11 ?_
      refine lv_iload_n hx hb dX9_count_14 rfl (lv_at hl 1 rfl) ?_
      obtain ⟨a50, ea50, hka50, hJ⟩ := dr_some hJ
      rw [ea50]
      obtain ⟨hi51, hJ⟩ := ck_some hJ
      refine jr_iald C w hka50 hi51 dX9_count_15 ?_
      obtain ⟨rfl, rfl⟩ := rs2 hJ
      exact jr_iret C w hz2 dX9_count_16
def J_X9_count (N : Nat) (t0 : Nat) (h : Hp) (x1 : Int32) : Option (Hp × Int32) := B_X9_count_0 N t0 h x1
theorem mo_X9_count (N : Nat) (t0 : Nat) (h : Hp) (x1 : Int32) (hJ : J_X9_count N t0 h x1 = some (hz, rz)) : Mo h hz := mb_X9_count_0 N t0 h x1 hJ
theorem cd_X9_count : Cd yX9_count 1 := ⟨by decide +kernel, by decide +kernel, by decide +kernel⟩
theorem cc_X9_count (N : Nat) (t0 : Nat) (h : Hp) (x1 : Int32) (hk0 : h.kd t0 = 12) (hJ : J_X9_count N t0 h x1 = some (hz, rz)) : Ci l yX9_count cX9_count 2 (some .int) 5 150 D cs h hz [.ref t0, .int x1] rz := by
  intro mc ms g1 g2
  refine je_any (by decide) (by simp [lg_sl, rf_cat, cat_i, cat_l, cat_r]) ?_
  intro p e s m args below meth c C hin2 w ls hl
  have hl : lv_has ls 2 [(0, .ref t0), (1, .int x1)] := hl
  exact sb_X9_count_0 C ⟨g1, g2⟩ N t0 h x1 hJ hk0 w hl
end G_X9_count
section G_X9_astray
variable {p : Program} {l : Launch} {e : Env} {s : State} {m : MethodId} {args : Array Value} {below : List Frame} {meth : Method} {c : Code} {D : va_G} {cs : C4} {A : Nat → Prop} {h0 hz : Hp} {mc ms : Nat} {rz : Int32}
def B_X9_astray_75 (N : Nat) (t0 : Nat) (h : Hp) : Option (Hp × Int32) := some (h, h.fi 1213 t0)
theorem mb_X9_astray_75 (N : Nat) (t0 : Nat) (h : Hp) (hJ : B_X9_astray_75 N t0 h = some (hz, rz)) : Mo h hz := by
  unfold B_X9_astray_75 at hJ
  obtain ⟨rfl, -⟩ := rs2 hJ
  exact ⟨fun _ _ => rfl, Nat.le_refl _, Nat.le_refl _, rfl, fun _ _ => rfl⟩
set_option maxRecDepth 100000 in
set_option maxHeartbeats 4000000 in
theorem sb_X9_astray_75 (C : Cx p s m args meth c cX9_astray 2 (some .int) RX9 D cs A h0.se) (hz2 : hz.nx ≤ h0.nx + mc ∧ hz.su ≤ h0.su + ms) (N : Nat) (t0 : Nat) (h : Hp) (hJ : B_X9_astray_75 N t0 h = some (hz, rz)) (hk0 : h.kd t0 = 12) {H : Heap} {locs : List Loc} {cells slots : Nat} (w : Wo D cs A s h0 h H locs cells slots) {ls : Array Slot} (hl : lv_has ls 2 [(0, .ref t0)]) : W p l e { frames := 10, cells := mc, slots := ms, locals := 320 } s m args below meth c H locs cells slots (MQ below (Zi D cs A hz rz) args s mc ms A) (F0 m 75 ls []) := by
  obtain ⟨hx, hb, hml, hown, hts, -⟩ := id C
  unfold B_X9_astray_75 at hJ
  refine lv_aload_n hx hb dX9_astray_75 rfl (lv_at hl 0 rfl) ?_
  refine fg_1213 C w hk0 tw_1_145 dX9_astray_76 ?_
  obtain ⟨rfl, rfl⟩ := rs2 hJ
  exact jr_iret C w hz2 dX9_astray_79
def B_X9_astray_72 (N : Nat) (t0 : Nat) (h : Hp) (y0 : Option Nat) (y1 : Int32) : Option (Hp × Int32) := dr h 12 y0 (fun a1 => B_X9_astray_75 N t0 (h.sfi 1212 a1 y1))
theorem mb_X9_astray_72 (N : Nat) (t0 : Nat) (h : Hp) (y0 : Option Nat) (y1 : Int32) (hJ : B_X9_astray_72 N t0 h y0 y1 = some (hz, rz)) : Mo h hz := by
  unfold B_X9_astray_72 at hJ
  obtain ⟨a1, ea1, -, hJ⟩ := dr_some hJ
  exact (Mo.tr (show Mo h (h.sfi 1212 a1 y1) from ⟨fun _ _ => rfl, Nat.le_refl _, Nat.le_refl _, rfl, fun _ _ => rfl⟩) (mb_X9_astray_75 N t0 _ hJ))
set_option maxRecDepth 100000 in
set_option maxHeartbeats 4000000 in
theorem sb_X9_astray_72 (C : Cx p s m args meth c cX9_astray 2 (some .int) RX9 D cs A h0.se) (hz2 : hz.nx ≤ h0.nx + mc ∧ hz.su ≤ h0.su + ms) (N : Nat) (t0 : Nat) (h : Hp) (y0 : Option Nat) (y1 : Int32) (hJ : B_X9_astray_72 N t0 h y0 y1 = some (hz, rz)) (hk0 : h.kd t0 = 12) {H : Heap} {locs : List Loc} {cells slots : Nat} (w : Wo D cs A s h0 h H locs cells slots) {ls : Array Slot} (hl : lv_has ls 2 [(0, .ref t0)]) : W p l e { frames := 10, cells := mc, slots := ms, locals := 320 } s m args below meth c H locs cells slots (MQ below (Zi D cs A hz rz) args s mc ms A) (F0 m 72 ls [.int y1, va_rf y0]) := by
  obtain ⟨hx, hb, hml, hown, hts, -⟩ := id C
  unfold B_X9_astray_72 at hJ
  obtain ⟨a1, ea1, hka1, hJ⟩ := dr_some hJ
  rw [ea1]
  refine fp_1212 (x := y1) C w hka1 tw_1_144 dX9_astray_72 (fun H locs w => ?_)
  exact sb_X9_astray_75 C hz2 N t0 _ hJ hk0 w hl
def B_X9_astray_61 (N : Nat) (t0 : Nat) (h : Hp) (y0 : Option Nat) (y1 : Int32) : Option (Hp × Int32) := dr h 12 y0 (fun a2 => dr (h.sfi 1213 a2 y1) 2 ((h.sfi 1213 a2 y1).fr 1203 t0) (fun a3 => (J_Jx4a65c_size_8abf5 N a3 (h.sfi 1213 a2 y1)).bind (fun z => B_X9_astray_72 N t0 z.1 (some t0) z.2)))
theorem mb_X9_astray_61 (N : Nat) (t0 : Nat) (h : Hp) (y0 : Option Nat) (y1 : Int32) (hJ : B_X9_astray_61 N t0 h y0 y1 = some (hz, rz)) : Mo h hz := by
  unfold B_X9_astray_61 at hJ
  obtain ⟨a2, ea2, -, hJ⟩ := dr_some hJ
  obtain ⟨a3, ea3, -, hJ⟩ := dr_some hJ
  obtain ⟨⟨h4, r5⟩, e6, hJ⟩ := ob_some hJ
  exact (Mo.tr (show Mo h (h.sfi 1213 a2 y1) from ⟨fun _ _ => rfl, Nat.le_refl _, Nat.le_refl _, rfl, fun _ _ => rfl⟩) ((mo_Jx4a65c_size_8abf5 N a3 (h.sfi 1213 a2 y1) e6).tr (mb_X9_astray_72 N t0 _ _ _ hJ)))
set_option maxRecDepth 100000 in
set_option maxHeartbeats 4000000 in
theorem sb_X9_astray_61 (C : Cx p s m args meth c cX9_astray 2 (some .int) RX9 D cs A h0.se) (hz2 : hz.nx ≤ h0.nx + mc ∧ hz.su ≤ h0.su + ms) (N : Nat) (t0 : Nat) (h : Hp) (y0 : Option Nat) (y1 : Int32) (hJ : B_X9_astray_61 N t0 h y0 y1 = some (hz, rz)) (hk0 : h.kd t0 = 12) {H : Heap} {locs : List Loc} {cells slots : Nat} (w : Wo D cs A s h0 h H locs cells slots) {ls : Array Slot} (hl : lv_has ls 2 [(0, .ref t0)]) : W p l e { frames := 10, cells := mc, slots := ms, locals := 320 } s m args below meth c H locs cells slots (MQ below (Zi D cs A hz rz) args s mc ms A) (F0 m 61 ls [.int y1, va_rf y0]) := by
  obtain ⟨hx, hb, hml, hown, hts, -⟩ := id C
  unfold B_X9_astray_61 at hJ
  obtain ⟨a2, ea2, hka2, hJ⟩ := dr_some hJ
  rw [ea2]
  refine fp_1213 (x := y1) C w hka2 tw_1_145 dX9_astray_61 (fun H locs w => ?_)
  refine lv_aload_n hx hb dX9_astray_64 rfl (lv_at hl 0 rfl) ?_
  refine lv_aload_n hx hb dX9_astray_65 rfl (lv_at hl 0 rfl) ?_
  refine fg_1203 C w hk0 tw_1_135 dX9_astray_66 ?_
  obtain ⟨a3, ea3, hka3, hJ⟩ := dr_some hJ
  rw [ea3]
  obtain ⟨⟨h4, r5⟩, e6, hJ⟩ := ob_some hJ
  refine jc_Vi (As := []) C w (cc_Jx4a65c_size_8abf5 N a3 (h.sfi 1213 a2 y1) hka3 e6) (mo_Jx4a65c_size_8abf5 N a3 (h.sfi 1213 a2 y1) e6) (mb_X9_astray_72 N t0 _ _ _ hJ) hz2 hka3 (by decide) rfl (fs := fs2 (h.sfi 1213 a2 y1) a3) rfl rfl ⟨tw_1_182, tw_1_179, tw_1_180, tw_1_181, tw_1_5⟩ cd_Jx4a65c_size_8abf5 ⟨by decide, by decide⟩ hl.1 (by first | exact Nat.le_of_ble_eq_true rfl | simp [rf_cat, cat_i, cat_l, cat_r]) rfl dX9_astray_69 (fun H locs w1 => ?_)
  have hk7 := kd_keep w (mo_Jx4a65c_size_8abf5 N a3 (h.sfi 1213 a2 y1) e6) hk0 (by decide)
  have w := w1
  exact sb_X9_astray_72 C hz2 N t0 _ _ _ hJ hk7 w hl
def B_X9_astray_54 (N : Nat) (t0 : Nat) (h : Hp) (y0 : Option Nat) (y1 : Int32) : Option (Hp × Int32) := B_X9_astray_61 N t0 h y0 y1
theorem mb_X9_astray_54 (N : Nat) (t0 : Nat) (h : Hp) (y0 : Option Nat) (y1 : Int32) (hJ : B_X9_astray_54 N t0 h y0 y1 = some (hz, rz)) : Mo h hz := by
  unfold B_X9_astray_54 at hJ
  exact mb_X9_astray_61 N t0 _ _ _ hJ
set_option maxRecDepth 100000 in
set_option maxHeartbeats 4000000 in
theorem sb_X9_astray_54 (C : Cx p s m args meth c cX9_astray 2 (some .int) RX9 D cs A h0.se) (hz2 : hz.nx ≤ h0.nx + mc ∧ hz.su ≤ h0.su + ms) (N : Nat) (t0 : Nat) (h : Hp) (y0 : Option Nat) (y1 : Int32) (hJ : B_X9_astray_54 N t0 h y0 y1 = some (hz, rz)) (hk0 : h.kd t0 = 12) {H : Heap} {locs : List Loc} {cells slots : Nat} (w : Wo D cs A s h0 h H locs cells slots) {ls : Array Slot} (hl : lv_has ls 2 [(0, .ref t0)]) : W p l e { frames := 10, cells := mc, slots := ms, locals := 320 } s m args below meth c H locs cells slots (MQ below (Zi D cs A hz rz) args s mc ms A) (F0 m 54 ls [.int y1, va_rf y0]) := by
  obtain ⟨hx, hb, hml, hown, hts, -⟩ := id C
  unfold B_X9_astray_54 at hJ
  refine lv_goto (tgt := 61) hx hb dX9_astray_54 (by decide) ?_
  exact sb_X9_astray_61 C hz2 N t0 _ _ _ hJ hk0 w hl
def B_X9_astray_43 (N : Nat) (t0 : Nat) (h : Hp) (x1 : Option Nat) (y0 : Option Nat) (y1 : Int32) : Option (Hp × Int32) := if y1 = 0 then (dr h 4 x1 (fun a9 => (J_X1_onRings N a9 h).bind (fun z => B_X9_astray_61 N t0 z.1 y0 z.2))) else (dr h 4 x1 (fun a14 => (J_X1_differences N a14 h (h.fr 1206 t0)).bind (fun z => B_X9_astray_54 N t0 z.1 y0 z.2)))
theorem mb_X9_astray_43 (N : Nat) (t0 : Nat) (h : Hp) (x1 : Option Nat) (y0 : Option Nat) (y1 : Int32) (hJ : B_X9_astray_43 N t0 h x1 y0 y1 = some (hz, rz)) : Mo h hz := by
  unfold B_X9_astray_43 at hJ
  by_cases c8 : y1 = 0
  · have hJ := it_pos c8 hJ
    obtain ⟨a9, ea9, -, hJ⟩ := dr_some hJ
    obtain ⟨⟨h10, r11⟩, e12, hJ⟩ := ob_some hJ
    exact (mo_X1_onRings N a9 h e12).tr (mb_X9_astray_61 N t0 _ _ _ hJ)
  · have hJ := it_neg c8 hJ
    obtain ⟨a14, ea14, -, hJ⟩ := dr_some hJ
    obtain ⟨⟨h15, r16⟩, e17, hJ⟩ := ob_some hJ
    exact (mo_X1_differences N a14 h (h.fr 1206 t0) e17).tr (mb_X9_astray_54 N t0 _ _ _ hJ)
set_option maxRecDepth 100000 in
set_option maxHeartbeats 4000000 in
theorem sb_X9_astray_43 (C : Cx p s m args meth c cX9_astray 2 (some .int) RX9 D cs A h0.se) (hz2 : hz.nx ≤ h0.nx + mc ∧ hz.su ≤ h0.su + ms) (N : Nat) (t0 : Nat) (h : Hp) (x1 : Option Nat) (y0 : Option Nat) (y1 : Int32) (hJ : B_X9_astray_43 N t0 h x1 y0 y1 = some (hz, rz)) (hk0 : h.kd t0 = 12) {H : Heap} {locs : List Loc} {cells slots : Nat} (w : Wo D cs A s h0 h H locs cells slots) {ls : Array Slot} (hl : lv_has ls 2 [(0, .ref t0), (1, va_rf x1)]) : W p l e { frames := 10, cells := mc, slots := ms, locals := 320 } s m args below meth c H locs cells slots (MQ below (Zi D cs A hz rz) args s mc ms A) (F0 m 43 ls [.int y1, va_rf y0]) := by
  obtain ⟨hx, hb, hml, hown, hts, -⟩ := id C
  unfold B_X9_astray_43 at hJ
  refine lv_if_eq (tgt := 57) hx hb dX9_astray_43 (by decide) (fun c8 => ?_) (fun c8 => ?_)
  · have hJ := it_pos c8 hJ
    refine jv_aload_n hx hb dX9_astray_57 rfl (lv_at hl 1 rfl) ?_
    obtain ⟨a9, ea9, hka9, hJ⟩ := dr_some hJ
    rw [ea9] at hl
    rw [ea9]
    obtain ⟨⟨h10, r11⟩, e12, hJ⟩ := ob_some hJ
    refine jc_Vi (As := []) C w (cc_X1_onRings N a9 h hka9 e12) (mo_X1_onRings N a9 h e12) (mb_X9_astray_61 N t0 _ _ _ hJ) hz2 hka9 (by decide) rfl (fs := fs4 h a9) rfl rfl ⟨tw_5_94, tw_5_91, tw_5_92, tw_5_93, tw_1_34⟩ cd_X1_onRings ⟨by decide, by decide⟩ hl.1 (by first | exact Nat.le_of_ble_eq_true rfl | simp [rf_cat, cat_i, cat_l, cat_r]) rfl dX9_astray_58 (fun H locs w1 => ?_)
    have hk13 := kd_keep w (mo_X1_onRings N a9 h e12) hk0 (by decide)
    have w := w1
    exact sb_X9_astray_61 C hz2 N t0 _ _ _ hJ hk13 w (lv_sub (l' := [(0, .ref t0)]) hl [0] rfl)
  · have hJ := it_neg c8 hJ
    refine jv_aload_n hx hb dX9_astray_46 rfl (lv_at hl 1 rfl) ?_
    refine lv_aload_n hx hb dX9_astray_47 rfl (lv_at hl 0 rfl) ?_
    refine fg_1206 C w hk0 tw_1_138 dX9_astray_48 ?_
    obtain ⟨a14, ea14, hka14, hJ⟩ := dr_some hJ
    rw [ea14] at hl
    rw [ea14]
    obtain ⟨⟨h15, r16⟩, e17, hJ⟩ := ob_some hJ
    refine jc_Vi (As := [va_rf (h.fr 1206 t0)]) C w (cc_X1_differences N a14 h (h.fr 1206 t0) hka14 e17) (mo_X1_differences N a14 h (h.fr 1206 t0) e17) (mb_X9_astray_54 N t0 _ _ _ hJ) hz2 hka14 (by decide) rfl (fs := fs4 h a14) rfl rfl ⟨tw_3_77, tw_3_74, tw_3_75, tw_3_76, tw_1_34⟩ cd_X1_differences ⟨by decide, by decide⟩ hl.1 (by first | exact Nat.le_of_ble_eq_true rfl | simp [rf_cat, cat_i, cat_l, cat_r]) rfl dX9_astray_51 (fun H locs w1 => ?_)
    have hk18 := kd_keep w (mo_X1_differences N a14 h (h.fr 1206 t0) e17) hk0 (by decide)
    have w := w1
    exact sb_X9_astray_54 C hz2 N t0 _ _ _ hJ hk18 w (lv_sub (l' := [(0, .ref t0)]) hl [0] rfl)
def B_X9_astray_38 (N : Nat) (t0 : Nat) (h : Hp) (x1 : Option Nat) : Option (Hp × Int32) := dr h 4 x1 (fun a19 => (J_X1_lineUp N a19 h).bind (fun z => B_X9_astray_43 N t0 z.1 (some a19) (some t0) z.2))
theorem mb_X9_astray_38 (N : Nat) (t0 : Nat) (h : Hp) (x1 : Option Nat) (hJ : B_X9_astray_38 N t0 h x1 = some (hz, rz)) : Mo h hz := by
  unfold B_X9_astray_38 at hJ
  obtain ⟨a19, ea19, -, hJ⟩ := dr_some hJ
  obtain ⟨⟨h20, r21⟩, e22, hJ⟩ := ob_some hJ
  exact (mo_X1_lineUp N a19 h e22).tr (mb_X9_astray_43 N t0 _ _ _ _ hJ)
set_option maxRecDepth 100000 in
set_option maxHeartbeats 4000000 in
theorem sb_X9_astray_38 (C : Cx p s m args meth c cX9_astray 2 (some .int) RX9 D cs A h0.se) (hz2 : hz.nx ≤ h0.nx + mc ∧ hz.su ≤ h0.su + ms) (N : Nat) (t0 : Nat) (h : Hp) (x1 : Option Nat) (hJ : B_X9_astray_38 N t0 h x1 = some (hz, rz)) (hk0 : h.kd t0 = 12) {H : Heap} {locs : List Loc} {cells slots : Nat} (w : Wo D cs A s h0 h H locs cells slots) {ls : Array Slot} (hl : lv_has ls 2 [(0, .ref t0), (1, va_rf x1)]) : W p l e { frames := 10, cells := mc, slots := ms, locals := 320 } s m args below meth c H locs cells slots (MQ below (Zi D cs A hz rz) args s mc ms A) (F0 m 38 ls []) := by
  obtain ⟨hx, hb, hml, hown, hts, -⟩ := id C
  unfold B_X9_astray_38 at hJ
  refine lv_aload_n hx hb dX9_astray_38 rfl (lv_at hl 0 rfl) ?_
  refine jv_aload_n hx hb dX9_astray_39 rfl (lv_at hl 1 rfl) ?_
  obtain ⟨a19, ea19, hka19, hJ⟩ := dr_some hJ
  rw [ea19] at hl
  rw [ea19]
  obtain ⟨⟨h20, r21⟩, e22, hJ⟩ := ob_some hJ
  refine jc_Vi (As := []) C w (cc_X1_lineUp N a19 h hka19 e22) (mo_X1_lineUp N a19 h e22) (mb_X9_astray_43 N t0 _ _ _ _ hJ) hz2 hka19 (by decide) rfl (fs := fs4 h a19) rfl rfl ⟨tw_3_64, tw_3_61, tw_3_62, tw_3_63, tw_1_34⟩ cd_X1_lineUp ⟨by decide, by decide⟩ hl.1 (by first | exact Nat.le_of_ble_eq_true rfl | simp [rf_cat, cat_i, cat_l, cat_r]) rfl dX9_astray_40 (fun H locs w1 => ?_)
  have hk23 := kd_keep w (mo_X1_lineUp N a19 h e22) hk0 (by decide)
  have w := w1
  exact sb_X9_astray_43 C hz2 N t0 _ _ _ _ hJ hk23 w hl
def B_X9_astray_34 (N : Nat) (t0 : Nat) (h : Hp) (x1 : Option Nat) : Option (Hp × Int32) := dr h 4 x1 (fun a24 => (J_X1_drawLookings N a24 h).bind (fun z => B_X9_astray_38 N t0 z.1 (some a24)))
theorem mb_X9_astray_34 (N : Nat) (t0 : Nat) (h : Hp) (x1 : Option Nat) (hJ : B_X9_astray_34 N t0 h x1 = some (hz, rz)) : Mo h hz := by
  unfold B_X9_astray_34 at hJ
  obtain ⟨a24, ea24, -, hJ⟩ := dr_some hJ
  obtain ⟨⟨h25, r26⟩, e27, hJ⟩ := ob_some hJ
  exact (mo_X1_drawLookings N a24 h e27).tr (mb_X9_astray_38 N t0 _ _ hJ)
set_option maxRecDepth 100000 in
set_option maxHeartbeats 4000000 in
theorem sb_X9_astray_34 (C : Cx p s m args meth c cX9_astray 2 (some .int) RX9 D cs A h0.se) (hz2 : hz.nx ≤ h0.nx + mc ∧ hz.su ≤ h0.su + ms) (N : Nat) (t0 : Nat) (h : Hp) (x1 : Option Nat) (hJ : B_X9_astray_34 N t0 h x1 = some (hz, rz)) (hk0 : h.kd t0 = 12) {H : Heap} {locs : List Loc} {cells slots : Nat} (w : Wo D cs A s h0 h H locs cells slots) {ls : Array Slot} (hl : lv_has ls 2 [(0, .ref t0), (1, va_rf x1)]) : W p l e { frames := 10, cells := mc, slots := ms, locals := 320 } s m args below meth c H locs cells slots (MQ below (Zi D cs A hz rz) args s mc ms A) (F0 m 34 ls []) := by
  obtain ⟨hx, hb, hml, hown, hts, -⟩ := id C
  unfold B_X9_astray_34 at hJ
  refine jv_aload_n hx hb dX9_astray_34 rfl (lv_at hl 1 rfl) ?_
  obtain ⟨a24, ea24, hka24, hJ⟩ := dr_some hJ
  rw [ea24] at hl
  rw [ea24]
  obtain ⟨⟨h25, r26⟩, e27, hJ⟩ := ob_some hJ
  refine jc_Vv (As := []) C w (cc_X1_drawLookings N a24 h hka24 e27) (mo_X1_drawLookings N a24 h e27) (mb_X9_astray_38 N t0 _ _ hJ) hz2 hka24 (by decide) rfl (fs := fs4 h a24) rfl rfl ⟨tw_3_45, tw_3_42, tw_3_43, tw_3_44, tw_1_34⟩ cd_X1_drawLookings ⟨by decide, by decide⟩ hl.1 (by first | exact Nat.le_of_ble_eq_true rfl | simp [rf_cat, cat_i, cat_l, cat_r]) rfl dX9_astray_35 (fun H locs w1 => ?_)
  have hk28 := kd_keep w (mo_X1_drawLookings N a24 h e27) hk0 (by decide)
  have w := w1
  exact sb_X9_astray_38 C hz2 N t0 _ _ hJ hk28 w hl
def B_X9_astray_29 (N : Nat) (t0 : Nat) (h : Hp) (y0 : Option Nat) : Option (Hp × Int32) := dr h 4 y0 (fun a29 => (J_X1_drawVersions N a29 h).bind (fun z => B_X9_astray_34 N t0 z.1 (some a29)))
theorem mb_X9_astray_29 (N : Nat) (t0 : Nat) (h : Hp) (y0 : Option Nat) (hJ : B_X9_astray_29 N t0 h y0 = some (hz, rz)) : Mo h hz := by
  unfold B_X9_astray_29 at hJ
  obtain ⟨a29, ea29, -, hJ⟩ := dr_some hJ
  obtain ⟨⟨h30, r31⟩, e32, hJ⟩ := ob_some hJ
  exact (mo_X1_drawVersions N a29 h e32).tr (mb_X9_astray_34 N t0 _ _ hJ)
set_option maxRecDepth 100000 in
set_option maxHeartbeats 4000000 in
theorem sb_X9_astray_29 (C : Cx p s m args meth c cX9_astray 2 (some .int) RX9 D cs A h0.se) (hz2 : hz.nx ≤ h0.nx + mc ∧ hz.su ≤ h0.su + ms) (N : Nat) (t0 : Nat) (h : Hp) (y0 : Option Nat) (hJ : B_X9_astray_29 N t0 h y0 = some (hz, rz)) (hk0 : h.kd t0 = 12) {H : Heap} {locs : List Loc} {cells slots : Nat} (w : Wo D cs A s h0 h H locs cells slots) {ls : Array Slot} (hl : lv_has ls 2 [(0, .ref t0)]) : W p l e { frames := 10, cells := mc, slots := ms, locals := 320 } s m args below meth c H locs cells slots (MQ below (Zi D cs A hz rz) args s mc ms A) (F0 m 29 ls [va_rf y0]) := by
  obtain ⟨hx, hb, hml, hown, hts, -⟩ := id C
  unfold B_X9_astray_29 at hJ
  refine jv_astore_n (i := 1) (lv' := [(1, va_rf y0), (0, .ref t0)]) hx hb dX9_astray_29 rfl hl (by decide) rfl (fun ls hl => ?_)
  refine jv_aload_n hx hb dX9_astray_30 rfl (lv_at hl 0 rfl) ?_
  obtain ⟨a29, ea29, hka29, hJ⟩ := dr_some hJ
  rw [ea29] at hl
  rw [ea29]
  obtain ⟨⟨h30, r31⟩, e32, hJ⟩ := ob_some hJ
  refine jc_Vv (As := []) C w (cc_X1_drawVersions N a29 h hka29 e32) (mo_X1_drawVersions N a29 h e32) (mb_X9_astray_34 N t0 _ _ hJ) hz2 hka29 (by decide) rfl (fs := fs4 h a29) rfl rfl ⟨tw_3_35, tw_3_32, tw_3_33, tw_3_34, tw_1_34⟩ cd_X1_drawVersions ⟨by decide, by decide⟩ hl.1 (by first | exact Nat.le_of_ble_eq_true rfl | simp [rf_cat, cat_i, cat_l, cat_r]) rfl dX9_astray_31 (fun H locs w1 => ?_)
  have hk33 := kd_keep w (mo_X1_drawVersions N a29 h e32) hk0 (by decide)
  have w := w1
  exact sb_X9_astray_34 C hz2 N t0 _ _ hJ hk33 w (lv_sub (l' := [(0, .ref t0), (1, .ref a29)]) hl [1, 0] rfl)
def B_X9_astray_17 (N : Nat) (t0 : Nat) (h : Hp) (y0 : Option Nat) : Option (Hp × Int32) := dr h 4 y0 (fun a34 => (J_X1_init N a34 h (h.fr 1200 t0) (h.fr 1203 t0)).bind (fun z => B_X9_astray_29 N t0 z.1 (some a34)))
theorem mb_X9_astray_17 (N : Nat) (t0 : Nat) (h : Hp) (y0 : Option Nat) (hJ : B_X9_astray_17 N t0 h y0 = some (hz, rz)) : Mo h hz := by
  unfold B_X9_astray_17 at hJ
  obtain ⟨a34, ea34, -, hJ⟩ := dr_some hJ
  obtain ⟨⟨h35, r36⟩, e37, hJ⟩ := ob_some hJ
  exact (mo_X1_init N a34 h (h.fr 1200 t0) (h.fr 1203 t0) e37).tr (mb_X9_astray_29 N t0 _ _ hJ)
set_option maxRecDepth 100000 in
set_option maxHeartbeats 4000000 in
theorem sb_X9_astray_17 (C : Cx p s m args meth c cX9_astray 2 (some .int) RX9 D cs A h0.se) (hz2 : hz.nx ≤ h0.nx + mc ∧ hz.su ≤ h0.su + ms) (N : Nat) (t0 : Nat) (h : Hp) (y0 : Option Nat) (hJ : B_X9_astray_17 N t0 h y0 = some (hz, rz)) (hk0 : h.kd t0 = 12) {H : Heap} {locs : List Loc} {cells slots : Nat} (w : Wo D cs A s h0 h H locs cells slots) {ls : Array Slot} (hl : lv_has ls 2 [(0, .ref t0)]) : W p l e { frames := 10, cells := mc, slots := ms, locals := 320 } s m args below meth c H locs cells slots (MQ below (Zi D cs A hz rz) args s mc ms A) (F0 m 17 ls [va_rf y0]) := by
  obtain ⟨hx, hb, hml, hown, hts, -⟩ := id C
  unfold B_X9_astray_17 at hJ
  refine lv_dup hx hb dX9_astray_17 (rf_cat _) ?_
  refine lv_aload_n hx hb dX9_astray_18 rfl (lv_at hl 0 rfl) ?_
  refine fg_1200 C w hk0 tw_1_132 dX9_astray_19 ?_
  refine lv_aload_n hx hb dX9_astray_22 rfl (lv_at hl 0 rfl) ?_
  refine fg_1203 C w hk0 tw_1_135 dX9_astray_23 ?_
  obtain ⟨a34, ea34, hka34, hJ⟩ := dr_some hJ
  rw [ea34]
  obtain ⟨⟨h35, r36⟩, e37, hJ⟩ := ob_some hJ
  refine jc_I (As := [va_rf (h.fr 1200 t0), va_rf (h.fr 1203 t0)]) C w (cc_X1_init N a34 h (h.fr 1200 t0) (h.fr 1203 t0) hka34 e37) (mo_X1_init N a34 h (h.fr 1200 t0) (h.fr 1203 t0) e37) (mb_X9_astray_29 N t0 _ _ hJ) hz2 tw_3_10 tw_3_8 tw_3_9 tw_1_34 rfl cd_X1_init ⟨by decide, by decide⟩ hl.1 (by first | exact Nat.le_of_ble_eq_true rfl | simp [rf_cat, cat_i, cat_l, cat_r]) rfl dX9_astray_26 (fun H locs w1 => ?_)
  have hk38 := kd_keep w (mo_X1_init N a34 h (h.fr 1200 t0) (h.fr 1203 t0) e37) hk0 (by decide)
  have w := w1
  exact sb_X9_astray_29 C hz2 N t0 _ _ hJ hk38 w hl
def B_X9_astray_11 (N : Nat) (t0 : Nat) (h : Hp) (y0 : Int32) (y1 : Int32) : Option (Hp × Int32) := if y0 = y1 then (B_X9_astray_75 N t0 h) else (B_X9_astray_17 N t0 (h.new 4 0 6) (some h.nx))
theorem mb_X9_astray_11 (N : Nat) (t0 : Nat) (h : Hp) (y0 : Int32) (y1 : Int32) (hJ : B_X9_astray_11 N t0 h y0 y1 = some (hz, rz)) : Mo h hz := by
  unfold B_X9_astray_11 at hJ
  by_cases c39 : y0 = y1
  · have hJ := it_pos c39 hJ
    exact mb_X9_astray_75 N t0 _ hJ
  · have hJ := it_neg c39 hJ
    exact (Mo.new h _ _ _).tr (mb_X9_astray_17 N t0 _ _ hJ)
set_option maxRecDepth 100000 in
set_option maxHeartbeats 4000000 in
theorem sb_X9_astray_11 (C : Cx p s m args meth c cX9_astray 2 (some .int) RX9 D cs A h0.se) (hz2 : hz.nx ≤ h0.nx + mc ∧ hz.su ≤ h0.su + ms) (N : Nat) (t0 : Nat) (h : Hp) (y0 : Int32) (y1 : Int32) (hJ : B_X9_astray_11 N t0 h y0 y1 = some (hz, rz)) (hk0 : h.kd t0 = 12) {H : Heap} {locs : List Loc} {cells slots : Nat} (w : Wo D cs A s h0 h H locs cells slots) {ls : Array Slot} (hl : lv_has ls 2 [(0, .ref t0)]) : W p l e { frames := 10, cells := mc, slots := ms, locals := 320 } s m args below meth c H locs cells slots (MQ below (Zi D cs A hz rz) args s mc ms A) (F0 m 11 ls [.int y1, .int y0]) := by
  obtain ⟨hx, hb, hml, hown, hts, -⟩ := id C
  unfold B_X9_astray_11 at hJ
  refine lv_icmp_eq (tgt := 75) hx hb dX9_astray_11 (by decide) (fun c39 => ?_) (fun c39 => ?_)
  · have hJ := it_pos c39 hJ
    exact sb_X9_astray_75 C hz2 N t0 _ hJ hk0 w hl
  · have hJ := it_neg c39 hJ
    have w0 := w
    refine fn_4 C w (mb_X9_astray_17 N t0 _ _ hJ) hz2 tw_3_6 dX9_astray_14 (fun H w => ?_)
    have hk40 := kd_new (k := 4) (n := 0) (sl := 6) w0 hk0 (by decide)
    exact sb_X9_astray_17 C hz2 N t0 _ _ hJ hk40 w hl
def B_X9_astray_0 (N : Nat) (t0 : Nat) (h : Hp) : Option (Hp × Int32) := dr h 2 (h.fr 1203 t0) (fun a41 => (J_Jx4a65c_size_8abf5 N a41 h).bind (fun z => B_X9_astray_11 N t0 z.1 (h.fi 1212 t0) z.2))
theorem mb_X9_astray_0 (N : Nat) (t0 : Nat) (h : Hp) (hJ : B_X9_astray_0 N t0 h = some (hz, rz)) : Mo h hz := by
  unfold B_X9_astray_0 at hJ
  obtain ⟨a41, ea41, -, hJ⟩ := dr_some hJ
  obtain ⟨⟨h42, r43⟩, e44, hJ⟩ := ob_some hJ
  exact (mo_Jx4a65c_size_8abf5 N a41 h e44).tr (mb_X9_astray_11 N t0 _ _ _ hJ)
set_option maxRecDepth 100000 in
set_option maxHeartbeats 4000000 in
theorem sb_X9_astray_0 (C : Cx p s m args meth c cX9_astray 2 (some .int) RX9 D cs A h0.se) (hz2 : hz.nx ≤ h0.nx + mc ∧ hz.su ≤ h0.su + ms) (N : Nat) (t0 : Nat) (h : Hp) (hJ : B_X9_astray_0 N t0 h = some (hz, rz)) (hk0 : h.kd t0 = 12) {H : Heap} {locs : List Loc} {cells slots : Nat} (w : Wo D cs A s h0 h H locs cells slots) {ls : Array Slot} (hl : lv_has ls 2 [(0, .ref t0)]) : W p l e { frames := 10, cells := mc, slots := ms, locals := 320 } s m args below meth c H locs cells slots (MQ below (Zi D cs A hz rz) args s mc ms A) (F0 m 0 ls []) := by
  obtain ⟨hx, hb, hml, hown, hts, -⟩ := id C
  unfold B_X9_astray_0 at hJ
  refine lv_aload_n hx hb dX9_astray_0 rfl (lv_at hl 0 rfl) ?_
  refine fg_1212 C w hk0 tw_1_144 dX9_astray_1 ?_
  refine lv_aload_n hx hb dX9_astray_4 rfl (lv_at hl 0 rfl) ?_
  refine fg_1203 C w hk0 tw_1_135 dX9_astray_5 ?_
  obtain ⟨a41, ea41, hka41, hJ⟩ := dr_some hJ
  rw [ea41]
  obtain ⟨⟨h42, r43⟩, e44, hJ⟩ := ob_some hJ
  refine jc_Vi (As := []) C w (cc_Jx4a65c_size_8abf5 N a41 h hka41 e44) (mo_Jx4a65c_size_8abf5 N a41 h e44) (mb_X9_astray_11 N t0 _ _ _ hJ) hz2 hka41 (by decide) rfl (fs := fs2 h a41) rfl rfl ⟨tw_1_182, tw_1_179, tw_1_180, tw_1_181, tw_1_5⟩ cd_Jx4a65c_size_8abf5 ⟨by decide, by decide⟩ hl.1 (by first | exact Nat.le_of_ble_eq_true rfl | simp [rf_cat, cat_i, cat_l, cat_r]) rfl dX9_astray_8 (fun H locs w1 => ?_)
  have hk45 := kd_keep w (mo_Jx4a65c_size_8abf5 N a41 h e44) hk0 (by decide)
  have w := w1
  exact sb_X9_astray_11 C hz2 N t0 _ _ _ hJ hk45 w hl
def J_X9_astray (N : Nat) (t0 : Nat) (h : Hp) : Option (Hp × Int32) := B_X9_astray_0 N t0 h
theorem mo_X9_astray (N : Nat) (t0 : Nat) (h : Hp) (hJ : J_X9_astray N t0 h = some (hz, rz)) : Mo h hz := mb_X9_astray_0 N t0 h hJ
theorem cd_X9_astray : Cd yX9_astray 0 := ⟨by decide +kernel, by decide +kernel, by decide +kernel⟩
theorem cc_X9_astray (N : Nat) (t0 : Nat) (h : Hp) (hk0 : h.kd t0 = 12) (hJ : J_X9_astray N t0 h = some (hz, rz)) : Ci l yX9_astray cX9_astray 2 (some .int) 10 320 D cs h hz [.ref t0] rz := by
  intro mc ms g1 g2
  refine je_any (by decide) (by simp [lg_sl, rf_cat, cat_i, cat_l, cat_r]) ?_
  intro p e s m args below meth c C hin2 w ls hl
  have hl : lv_has ls 2 [(0, .ref t0)] := hl
  exact sb_X9_astray_0 C ⟨g1, g2⟩ N t0 h hJ hk0 w hl
end G_X9_astray
section G_X9_activeOne
variable {p : Program} {l : Launch} {e : Env} {s : State} {m : MethodId} {args : Array Value} {below : List Frame} {meth : Method} {c : Code} {D : va_G} {cs : C4} {A : Nat → Prop} {h0 hz : Hp} {mc ms : Nat} {rz : Option Nat}
def B_X9_activeOne_18 (N : Nat) (t0 : Nat) (h : Hp) : Option (Hp × Option Nat) := none
theorem mb_X9_activeOne_18 (N : Nat) (t0 : Nat) (h : Hp) (hJ : B_X9_activeOne_18 N t0 h = some (hz, rz)) : Mo h hz := by
  unfold B_X9_activeOne_18 at hJ
  cases hJ
set_option maxRecDepth 100000 in
set_option maxHeartbeats 4000000 in
theorem sb_X9_activeOne_18 (C : Cx p s m args meth c cX9_activeOne 3 (some (.object "RingKeeper$Transaction")) RX9 D cs A h0.se) (hz2 : hz.nx ≤ h0.nx + mc ∧ hz.su ≤ h0.su + ms) (N : Nat) (t0 : Nat) (h : Hp) (hJ : B_X9_activeOne_18 N t0 h = some (hz, rz)) (hk0 : h.kd t0 = 12) {H : Heap} {locs : List Loc} {cells slots : Nat} (w : Wo D cs A s h0 h H locs cells slots) {ls : Array Slot} (hl : lv_has ls 3 [(0, .ref t0)]) : W p l e { frames := 4, cells := mc, slots := ms, locals := 120 } s m args below meth c H locs cells slots (MQ below (Zq D cs A hz rz) args s mc ms A) (F0 m 18 ls []) := by
  obtain ⟨hx, hb, hml, hown, hts, -⟩ := id C
  unfold B_X9_activeOne_18 at hJ
  cases hJ
def B_X9_activeOne_5 (N : Nat) (t0 : Nat) (h : Hp) (y0 : Option Nat) : Option (Hp × Option Nat) := nl y0 (B_X9_activeOne_18 N t0 h) (fun a1 => ck (h.kd a1 = 10) (if (h.fi 1006 a1) = (1 : Int32) then (some (h, some a1)) else (B_X9_activeOne_18 N t0 h)))
theorem mb_X9_activeOne_5 (N : Nat) (t0 : Nat) (h : Hp) (y0 : Option Nat) (hJ : B_X9_activeOne_5 N t0 h y0 = some (hz, rz)) : Mo h hz := by
  unfold B_X9_activeOne_5 at hJ
  cases ea1 : y0 with
  | none =>
    have hJ := nl_none ea1 hJ
    exact mb_X9_activeOne_18 N t0 _ hJ
  | some a1 =>
    have hJ := nl_some ea1 hJ
    obtain ⟨-, hJ⟩ := ck_some hJ
    by_cases c3 : (h.fi 1006 a1) = (1 : Int32)
    · have hJ := it_pos c3 hJ
      obtain ⟨rfl, -⟩ := rs2 hJ
      exact ⟨fun _ _ => rfl, Nat.le_refl _, Nat.le_refl _, rfl, fun _ _ => rfl⟩
    · have hJ := it_neg c3 hJ
      exact mb_X9_activeOne_18 N t0 _ hJ
set_option maxRecDepth 100000 in
set_option maxHeartbeats 4000000 in
theorem sb_X9_activeOne_5 (C : Cx p s m args meth c cX9_activeOne 3 (some (.object "RingKeeper$Transaction")) RX9 D cs A h0.se) (hz2 : hz.nx ≤ h0.nx + mc ∧ hz.su ≤ h0.su + ms) (N : Nat) (t0 : Nat) (h : Hp) (y0 : Option Nat) (hJ : B_X9_activeOne_5 N t0 h y0 = some (hz, rz)) (hk0 : h.kd t0 = 12) {H : Heap} {locs : List Loc} {cells slots : Nat} (w : Wo D cs A s h0 h H locs cells slots) {ls : Array Slot} (hl : lv_has ls 3 [(0, .ref t0)]) : W p l e { frames := 4, cells := mc, slots := ms, locals := 120 } s m args below meth c H locs cells slots (MQ below (Zq D cs A hz rz) args s mc ms A) (F0 m 5 ls [va_rf y0]) := by
  obtain ⟨hx, hb, hml, hown, hts, -⟩ := id C
  unfold B_X9_activeOne_5 at hJ
  refine jv_astore_n (i := 2) (lv' := [(2, va_rf y0), (0, .ref t0)]) hx hb dX9_activeOne_5 rfl hl (by decide) rfl (fun ls hl => ?_)
  refine jv_aload_n hx hb dX9_activeOne_6 rfl (lv_at hl 0 rfl) ?_
  refine jv_ifnull (tgt := 18) hx hb dX9_activeOne_7 (by decide) (fun ea1 => ?_) (fun a1 ea1 => ?_)
  · have hJ := nl_none ea1 hJ
    exact sb_X9_activeOne_18 C hz2 N t0 _ hJ hk0 w (lv_sub (l' := [(0, .ref t0)]) hl [1] rfl)
  · have hJ := nl_some ea1 hJ
    rw [ea1] at hl
    refine lv_aload_n hx hb dX9_activeOne_10 rfl (lv_at hl 0 rfl) ?_
    obtain ⟨hk2, hJ⟩ := ck_some hJ
    refine fg_1006 C w hk2 tw_2_26 dX9_activeOne_11 ?_
    refine lv_iconst (v := (1 : Int32)) hx hb dX9_activeOne_14 (by decide) ?_
    refine lv_icmp_eq (tgt := 29) hx hb dX9_activeOne_15 (by decide) (fun c3 => ?_) (fun c3 => ?_)
    · have hJ := it_pos c3 hJ
      refine lv_aload_n hx hb dX9_activeOne_29 rfl (lv_at hl 0 rfl) ?_
      obtain ⟨rfl, rfl⟩ := rs2 hJ
      exact jr_aret (r := some a1) C w (Or.inl ⟨_, rfl⟩) hz2 dX9_activeOne_30
    · have hJ := it_neg c3 hJ
      exact sb_X9_activeOne_18 C hz2 N t0 _ hJ hk0 w (lv_sub (l' := [(0, .ref t0)]) hl [1] rfl)
def B_X9_activeOne_0 (N : Nat) (t0 : Nat) (h : Hp) (x1 : Int32) : Option (Hp × Option Nat) := (J_X9_numbered N t0 h x1).bind (fun z => B_X9_activeOne_5 N t0 z.1 z.2)
theorem mb_X9_activeOne_0 (N : Nat) (t0 : Nat) (h : Hp) (x1 : Int32) (hJ : B_X9_activeOne_0 N t0 h x1 = some (hz, rz)) : Mo h hz := by
  unfold B_X9_activeOne_0 at hJ
  obtain ⟨⟨h4, r5⟩, e6, hJ⟩ := ob_some hJ
  exact (mo_X9_numbered N t0 h x1 e6).tr (mb_X9_activeOne_5 N t0 _ _ hJ)
set_option maxRecDepth 100000 in
set_option maxHeartbeats 4000000 in
theorem sb_X9_activeOne_0 (C : Cx p s m args meth c cX9_activeOne 3 (some (.object "RingKeeper$Transaction")) RX9 D cs A h0.se) (hz2 : hz.nx ≤ h0.nx + mc ∧ hz.su ≤ h0.su + ms) (N : Nat) (t0 : Nat) (h : Hp) (x1 : Int32) (hJ : B_X9_activeOne_0 N t0 h x1 = some (hz, rz)) (hk0 : h.kd t0 = 12) {H : Heap} {locs : List Loc} {cells slots : Nat} (w : Wo D cs A s h0 h H locs cells slots) {ls : Array Slot} (hl : lv_has ls 3 [(0, .ref t0), (1, .int x1)]) : W p l e { frames := 4, cells := mc, slots := ms, locals := 120 } s m args below meth c H locs cells slots (MQ below (Zq D cs A hz rz) args s mc ms A) (F0 m 0 ls []) := by
  obtain ⟨hx, hb, hml, hown, hts, -⟩ := id C
  unfold B_X9_activeOne_0 at hJ
  refine lv_aload_n hx hb dX9_activeOne_0 rfl (lv_at hl 0 rfl) ?_
  refine lv_iload_n hx hb dX9_activeOne_1 rfl (lv_at hl 1 rfl) ?_
  obtain ⟨⟨h4, r5⟩, e6, hJ⟩ := ob_some hJ
  refine jc_Vq (As := [.int x1]) C w (cc_X9_numbered N t0 h x1 hk0 e6) (mo_X9_numbered N t0 h x1 e6) (mb_X9_activeOne_5 N t0 _ _ hJ) hz2 hk0 (by decide) rfl (fs := fs12 h t0) rfl rfl ⟨tw_2_165, tw_2_162, tw_2_164, ts_5, tw_1_1⟩ cd_X9_numbered ⟨by decide, by decide⟩ hl.1 (by first | exact Nat.le_of_ble_eq_true rfl | simp [rf_cat, cat_i, cat_l, cat_r]) rfl dX9_activeOne_2 (fun H locs w1 => ?_)
  have hk7 := kd_keep w (mo_X9_numbered N t0 h x1 e6) hk0 (by decide)
  have w := w1
  exact sb_X9_activeOne_5 C hz2 N t0 _ _ hJ hk7 w (lv_sub (l' := [(0, .ref t0)]) hl [0] rfl)
def J_X9_activeOne (N : Nat) (t0 : Nat) (h : Hp) (x1 : Int32) : Option (Hp × Option Nat) := B_X9_activeOne_0 N t0 h x1
theorem mo_X9_activeOne (N : Nat) (t0 : Nat) (h : Hp) (x1 : Int32) (hJ : J_X9_activeOne N t0 h x1 = some (hz, rz)) : Mo h hz := mb_X9_activeOne_0 N t0 h x1 hJ
theorem cd_X9_activeOne : Cd yX9_activeOne 1 := ⟨by decide +kernel, by decide +kernel, by decide +kernel⟩
theorem cc_X9_activeOne (N : Nat) (t0 : Nat) (h : Hp) (x1 : Int32) (hk0 : h.kd t0 = 12) (hJ : J_X9_activeOne N t0 h x1 = some (hz, rz)) : Cq l yX9_activeOne cX9_activeOne 3 (some (.object "RingKeeper$Transaction")) 4 120 D cs h hz [.ref t0, .int x1] rz := by
  intro mc ms g1 g2
  refine je_any (by decide) (by simp [lg_sl, rf_cat, cat_i, cat_l, cat_r]) ?_
  intro p e s m args below meth c C hin2 w ls hl
  have hl : lv_has ls 3 [(0, .ref t0), (1, .int x1)] := hl
  exact sb_X9_activeOne_0 C ⟨g1, g2⟩ N t0 h x1 hJ hk0 w hl
end G_X9_activeOne
section G_X9_blame
variable {p : Program} {l : Launch} {e : Env} {s : State} {m : MethodId} {args : Array Value} {below : List Frame} {meth : Method} {c : Code} {D : va_G} {cs : C4} {A : Nat → Prop} {h0 hz : Hp} {mc ms : Nat}
def B_X9_blame_29 (N : Nat) (t0 : Nat) (h : Hp) : Option (Hp × Unit) := some (h, ())
theorem mb_X9_blame_29 (N : Nat) (t0 : Nat) (h : Hp) (hJ : B_X9_blame_29 N t0 h = some (hz, ())) : Mo h hz := by
  unfold B_X9_blame_29 at hJ
  obtain ⟨rfl, -⟩ := rs2 hJ
  exact ⟨fun _ _ => rfl, Nat.le_refl _, Nat.le_refl _, rfl, fun _ _ => rfl⟩
set_option maxRecDepth 100000 in
set_option maxHeartbeats 4000000 in
theorem sb_X9_blame_29 (C : Cx p s m args meth c cX9_blame 5 none RX9 D cs A h0.se) (hz2 : hz.nx ≤ h0.nx + mc ∧ hz.su ≤ h0.su + ms) (N : Nat) (t0 : Nat) (h : Hp) (hJ : B_X9_blame_29 N t0 h = some (hz, ())) (hk0 : h.kd t0 = 12) {H : Heap} {locs : List Loc} {cells slots : Nat} (w : Wo D cs A s h0 h H locs cells slots) {ls : Array Slot} (hl : lv_has ls 5 [(0, .ref t0)]) : W p l e { frames := 0, cells := mc, slots := ms, locals := 0 } s m args below meth c H locs cells slots (MQ below (Zv D cs A hz) args s mc ms A) (F0 m 29 ls []) := by
  obtain ⟨hx, hb, hml, hown, hts, -⟩ := id C
  unfold B_X9_blame_29 at hJ
  obtain ⟨rfl, -⟩ := rs2 hJ
  exact jr_vret C w hz2 dX9_blame_29
def B_X9_blame_0 (N : Nat) (t0 : Nat) (h : Hp) (x1 : Int32) (x2 : Int32) (x3 : Int32) (x4 : Int32) : Option (Hp × Unit) := dr h 20 (h.fr 1205 t0) (fun a1 => ck (¬ ((0 : Int32) < 0 ∨ h.al a1 ≤ (0 : Int32).toNatClampNeg)) (dr (h.sai a1 (0 : Int32).toNatClampNeg x1) 20 ((h.sai a1 (0 : Int32).toNatClampNeg x1).fr 1205 t0) (fun a3 => ck (¬ ((1 : Int32) < 0 ∨ (h.sai a1 (0 : Int32).toNatClampNeg x1).al a3 ≤ (1 : Int32).toNatClampNeg)) (dr ((h.sai a1 (0 : Int32).toNatClampNeg x1).sai a3 (1 : Int32).toNatClampNeg x2) 20 (((h.sai a1 (0 : Int32).toNatClampNeg x1).sai a3 (1 : Int32).toNatClampNeg x2).fr 1205 t0) (fun a5 => ck (¬ ((2 : Int32) < 0 ∨ ((h.sai a1 (0 : Int32).toNatClampNeg x1).sai a3 (1 : Int32).toNatClampNeg x2).al a5 ≤ (2 : Int32).toNatClampNeg)) (dr (((h.sai a1 (0 : Int32).toNatClampNeg x1).sai a3 (1 : Int32).toNatClampNeg x2).sai a5 (2 : Int32).toNatClampNeg x3) 20 ((((h.sai a1 (0 : Int32).toNatClampNeg x1).sai a3 (1 : Int32).toNatClampNeg x2).sai a5 (2 : Int32).toNatClampNeg x3).fr 1205 t0) (fun a7 => ck (¬ ((3 : Int32) < 0 ∨ (((h.sai a1 (0 : Int32).toNatClampNeg x1).sai a3 (1 : Int32).toNatClampNeg x2).sai a5 (2 : Int32).toNatClampNeg x3).al a7 ≤ (3 : Int32).toNatClampNeg)) (B_X9_blame_29 N t0 ((((h.sai a1 (0 : Int32).toNatClampNeg x1).sai a3 (1 : Int32).toNatClampNeg x2).sai a5 (2 : Int32).toNatClampNeg x3).sai a7 (3 : Int32).toNatClampNeg x4)))))))))
theorem mb_X9_blame_0 (N : Nat) (t0 : Nat) (h : Hp) (x1 : Int32) (x2 : Int32) (x3 : Int32) (x4 : Int32) (hJ : B_X9_blame_0 N t0 h x1 x2 x3 x4 = some (hz, ())) : Mo h hz := by
  unfold B_X9_blame_0 at hJ
  obtain ⟨a1, ea1, -, hJ⟩ := dr_some hJ
  obtain ⟨-, hJ⟩ := ck_some hJ
  obtain ⟨a3, ea3, -, hJ⟩ := dr_some hJ
  obtain ⟨-, hJ⟩ := ck_some hJ
  obtain ⟨a5, ea5, -, hJ⟩ := dr_some hJ
  obtain ⟨-, hJ⟩ := ck_some hJ
  obtain ⟨a7, ea7, -, hJ⟩ := dr_some hJ
  obtain ⟨-, hJ⟩ := ck_some hJ
  exact (Mo.tr (show Mo h ((((h.sai a1 (0 : Int32).toNatClampNeg x1).sai a3 (1 : Int32).toNatClampNeg x2).sai a5 (2 : Int32).toNatClampNeg x3).sai a7 (3 : Int32).toNatClampNeg x4) from ⟨fun _ _ => rfl, Nat.le_refl _, Nat.le_refl _, rfl, fun _ _ => rfl⟩) (mb_X9_blame_29 N t0 _ hJ))
set_option maxRecDepth 100000 in
set_option maxHeartbeats 4000000 in
theorem sb_X9_blame_0 (C : Cx p s m args meth c cX9_blame 5 none RX9 D cs A h0.se) (hz2 : hz.nx ≤ h0.nx + mc ∧ hz.su ≤ h0.su + ms) (N : Nat) (t0 : Nat) (h : Hp) (x1 : Int32) (x2 : Int32) (x3 : Int32) (x4 : Int32) (hJ : B_X9_blame_0 N t0 h x1 x2 x3 x4 = some (hz, ())) (hk0 : h.kd t0 = 12) {H : Heap} {locs : List Loc} {cells slots : Nat} (w : Wo D cs A s h0 h H locs cells slots) {ls : Array Slot} (hl : lv_has ls 5 [(0, .ref t0), (1, .int x1), (2, .int x2), (3, .int x3), (4, .int x4)]) : W p l e { frames := 0, cells := mc, slots := ms, locals := 0 } s m args below meth c H locs cells slots (MQ below (Zv D cs A hz) args s mc ms A) (F0 m 0 ls []) := by
  obtain ⟨hx, hb, hml, hown, hts, -⟩ := id C
  unfold B_X9_blame_0 at hJ
  refine lv_aload_n hx hb dX9_blame_0 rfl (lv_at hl 0 rfl) ?_
  refine fg_1205 C w hk0 tw_1_137 dX9_blame_1 ?_
  refine lv_iconst (v := (0 : Int32)) hx hb dX9_blame_4 (by decide) ?_
  refine lv_iload_n hx hb dX9_blame_5 rfl (lv_at hl 1 rfl) ?_
  obtain ⟨a1, ea1, hka1, hJ⟩ := dr_some hJ
  rw [ea1]
  obtain ⟨hi2, hJ⟩ := ck_some hJ
  refine jr_iast C w hka1 hi2 dX9_blame_6 (fun H locs w => ?_)
  refine lv_aload_n hx hb dX9_blame_7 rfl (lv_at hl 0 rfl) ?_
  refine fg_1205 C w hk0 tw_1_137 dX9_blame_8 ?_
  refine lv_iconst (v := (1 : Int32)) hx hb dX9_blame_11 (by decide) ?_
  refine lv_iload_n hx hb dX9_blame_12 rfl (lv_at hl 2 rfl) ?_
  obtain ⟨a3, ea3, hka3, hJ⟩ := dr_some hJ
  rw [ea3]
  obtain ⟨hi4, hJ⟩ := ck_some hJ
  refine jr_iast C w hka3 hi4 dX9_blame_13 (fun H locs w => ?_)
  refine lv_aload_n hx hb dX9_blame_14 rfl (lv_at hl 0 rfl) ?_
  refine fg_1205 C w hk0 tw_1_137 dX9_blame_15 ?_
  refine lv_iconst (v := (2 : Int32)) hx hb dX9_blame_18 (by decide) ?_
  refine lv_iload_n hx hb dX9_blame_19 rfl (lv_at hl 3 rfl) ?_
  obtain ⟨a5, ea5, hka5, hJ⟩ := dr_some hJ
  rw [ea5]
  obtain ⟨hi6, hJ⟩ := ck_some hJ
  refine jr_iast C w hka5 hi6 dX9_blame_20 (fun H locs w => ?_)
  refine lv_aload_n hx hb dX9_blame_21 rfl (lv_at hl 0 rfl) ?_
  refine fg_1205 C w hk0 tw_1_137 dX9_blame_22 ?_
  refine lv_iconst (v := (3 : Int32)) hx hb dX9_blame_25 (by decide) ?_
  refine lv_iload hx hb dX9_blame_26 (lv_at hl 4 rfl) ?_
  obtain ⟨a7, ea7, hka7, hJ⟩ := dr_some hJ
  rw [ea7]
  obtain ⟨hi8, hJ⟩ := ck_some hJ
  refine jr_iast C w hka7 hi8 dX9_blame_28 (fun H locs w => ?_)
  exact sb_X9_blame_29 C hz2 N t0 _ hJ hk0 w (lv_sub (l' := [(0, .ref t0)]) hl [0] rfl)
def J_X9_blame (N : Nat) (t0 : Nat) (h : Hp) (x1 : Int32) (x2 : Int32) (x3 : Int32) (x4 : Int32) : Option (Hp × Unit) := B_X9_blame_0 N t0 h x1 x2 x3 x4
theorem mo_X9_blame (N : Nat) (t0 : Nat) (h : Hp) (x1 : Int32) (x2 : Int32) (x3 : Int32) (x4 : Int32) (hJ : J_X9_blame N t0 h x1 x2 x3 x4 = some (hz, ())) : Mo h hz := mb_X9_blame_0 N t0 h x1 x2 x3 x4 hJ
theorem cd_X9_blame : Cd yX9_blame 4 := ⟨by decide +kernel, by decide +kernel, by decide +kernel⟩
theorem cc_X9_blame (N : Nat) (t0 : Nat) (h : Hp) (x1 : Int32) (x2 : Int32) (x3 : Int32) (x4 : Int32) (hk0 : h.kd t0 = 12) (hJ : J_X9_blame N t0 h x1 x2 x3 x4 = some (hz, ())) : Cv l yX9_blame cX9_blame 5 none 0 0 D cs h hz [.ref t0, .int x1, .int x2, .int x3, .int x4] := by
  intro mc ms g1 g2
  refine je_any (by decide) (by simp [lg_sl, rf_cat, cat_i, cat_l, cat_r]) ?_
  intro p e s m args below meth c C hin2 w ls hl
  have hl : lv_has ls 5 [(0, .ref t0), (1, .int x1), (2, .int x2), (3, .int x3), (4, .int x4)] := hl
  exact sb_X9_blame_0 C ⟨g1, g2⟩ N t0 h x1 x2 x3 x4 hJ hk0 w hl
end G_X9_blame
section G_X9_blameDanger
variable {p : Program} {l : Launch} {e : Env} {s : State} {m : MethodId} {args : Array Value} {below : List Frame} {meth : Method} {c : Code} {D : va_G} {cs : C4} {A : Nat → Prop} {h0 hz : Hp} {mc ms : Nat}
def B_X9_blameDanger_34 (N : Nat) (t0 : Nat) (h : Hp) : Option (Hp × Unit) := some (h, ())
theorem mb_X9_blameDanger_34 (N : Nat) (t0 : Nat) (h : Hp) (hJ : B_X9_blameDanger_34 N t0 h = some (hz, ())) : Mo h hz := by
  unfold B_X9_blameDanger_34 at hJ
  obtain ⟨rfl, -⟩ := rs2 hJ
  exact ⟨fun _ _ => rfl, Nat.le_refl _, Nat.le_refl _, rfl, fun _ _ => rfl⟩
set_option maxRecDepth 100000 in
set_option maxHeartbeats 4000000 in
theorem sb_X9_blameDanger_34 (C : Cx p s m args meth c cX9_blameDanger 4 none RX9 D cs A h0.se) (hz2 : hz.nx ≤ h0.nx + mc ∧ hz.su ≤ h0.su + ms) (N : Nat) (t0 : Nat) (h : Hp) (hJ : B_X9_blameDanger_34 N t0 h = some (hz, ())) (hk0 : h.kd t0 = 12) {H : Heap} {locs : List Loc} {cells slots : Nat} (w : Wo D cs A s h0 h H locs cells slots) {ls : Array Slot} (hl : lv_has ls 4 [(0, .ref t0)]) : W p l e { frames := 4, cells := mc, slots := ms, locals := 120 } s m args below meth c H locs cells slots (MQ below (Zv D cs A hz) args s mc ms A) (F0 m 34 ls []) := by
  obtain ⟨hx, hb, hml, hown, hts, -⟩ := id C
  unfold B_X9_blameDanger_34 at hJ
  obtain ⟨rfl, -⟩ := rs2 hJ
  exact jr_vret C w hz2 dX9_blameDanger_34
def B_X9_blameDanger_31 (N : Nat) (t0 : Nat) (h : Hp) (y0 : Option Nat) (y1 : Int32) (y2 : Int32) (y3 : Int32) (y4 : Int32) : Option (Hp × Unit) := dr h 12 y0 (fun a1 => (J_X9_blame N a1 h y1 y2 y3 y4).bind (fun z => B_X9_blameDanger_34 N t0 z.1))
theorem mb_X9_blameDanger_31 (N : Nat) (t0 : Nat) (h : Hp) (y0 : Option Nat) (y1 : Int32) (y2 : Int32) (y3 : Int32) (y4 : Int32) (hJ : B_X9_blameDanger_31 N t0 h y0 y1 y2 y3 y4 = some (hz, ())) : Mo h hz := by
  unfold B_X9_blameDanger_31 at hJ
  obtain ⟨a1, ea1, -, hJ⟩ := dr_some hJ
  obtain ⟨⟨h2, r3⟩, e4, hJ⟩ := ob_some hJ
  exact (mo_X9_blame N a1 h y1 y2 y3 y4 e4).tr (mb_X9_blameDanger_34 N t0 _ hJ)
set_option maxRecDepth 100000 in
set_option maxHeartbeats 4000000 in
theorem sb_X9_blameDanger_31 (C : Cx p s m args meth c cX9_blameDanger 4 none RX9 D cs A h0.se) (hz2 : hz.nx ≤ h0.nx + mc ∧ hz.su ≤ h0.su + ms) (N : Nat) (t0 : Nat) (h : Hp) (y0 : Option Nat) (y1 : Int32) (y2 : Int32) (y3 : Int32) (y4 : Int32) (hJ : B_X9_blameDanger_31 N t0 h y0 y1 y2 y3 y4 = some (hz, ())) (hk0 : h.kd t0 = 12) {H : Heap} {locs : List Loc} {cells slots : Nat} (w : Wo D cs A s h0 h H locs cells slots) {ls : Array Slot} (hl : lv_has ls 4 [(0, .ref t0)]) : W p l e { frames := 4, cells := mc, slots := ms, locals := 120 } s m args below meth c H locs cells slots (MQ below (Zv D cs A hz) args s mc ms A) (F0 m 31 ls [.int y4, .int y3, .int y2, .int y1, va_rf y0]) := by
  obtain ⟨hx, hb, hml, hown, hts, -⟩ := id C
  unfold B_X9_blameDanger_31 at hJ
  obtain ⟨a1, ea1, hka1, hJ⟩ := dr_some hJ
  rw [ea1]
  obtain ⟨⟨h2, r3⟩, e4, hJ⟩ := ob_some hJ
  refine jc_Vv (As := [.int y1, .int y2, .int y3, .int y4]) C w (cc_X9_blame N a1 h y1 y2 y3 y4 hka1 e4) (mo_X9_blame N a1 h y1 y2 y3 y4 e4) (mb_X9_blameDanger_34 N t0 _ hJ) hz2 hka1 (by decide) rfl (fs := fs12 h a1) rfl rfl ⟨tw_5_199, tw_5_196, tw_5_198, ts_23, tw_1_1⟩ cd_X9_blame ⟨by decide, by decide⟩ hl.1 (by first | exact Nat.le_of_ble_eq_true rfl | simp [rf_cat, cat_i, cat_l, cat_r]) rfl dX9_blameDanger_31 (fun H locs w1 => ?_)
  have hk5 := kd_keep w (mo_X9_blame N a1 h y1 y2 y3 y4 e4) hk0 (by decide)
  have w := w1
  exact sb_X9_blameDanger_34 C hz2 N t0 _ hJ hk5 w hl
def B_X9_blameDanger_8 (N : Nat) (t0 : Nat) (h : Hp) (x1 : Option Nat) (x2 : Option Nat) (y0 : Option Nat) : Option (Hp × Unit) := dr h 10 x1 (fun a6 => dr h 10 x2 (fun a7 => nl y0 (B_X9_blameDanger_31 N t0 h (some t0) (2 : Int32) (h.fi 1000 a6) (h.fi 1000 a7) (0 : Int32)) (fun a8 => ck (h.kd a8 = 10) (B_X9_blameDanger_31 N t0 h (some t0) (2 : Int32) (h.fi 1000 a6) (h.fi 1000 a7) (h.fi 1000 a8)))))
theorem mb_X9_blameDanger_8 (N : Nat) (t0 : Nat) (h : Hp) (x1 : Option Nat) (x2 : Option Nat) (y0 : Option Nat) (hJ : B_X9_blameDanger_8 N t0 h x1 x2 y0 = some (hz, ())) : Mo h hz := by
  unfold B_X9_blameDanger_8 at hJ
  obtain ⟨a6, ea6, -, hJ⟩ := dr_some hJ
  obtain ⟨a7, ea7, -, hJ⟩ := dr_some hJ
  cases ea8 : y0 with
  | none =>
    have hJ := nl_none ea8 hJ
    exact mb_X9_blameDanger_31 N t0 _ _ _ _ _ _ hJ
  | some a8 =>
    have hJ := nl_some ea8 hJ
    obtain ⟨-, hJ⟩ := ck_some hJ
    exact mb_X9_blameDanger_31 N t0 _ _ _ _ _ _ hJ
set_option maxRecDepth 100000 in
set_option maxHeartbeats 4000000 in
theorem sb_X9_blameDanger_8 (C : Cx p s m args meth c cX9_blameDanger 4 none RX9 D cs A h0.se) (hz2 : hz.nx ≤ h0.nx + mc ∧ hz.su ≤ h0.su + ms) (N : Nat) (t0 : Nat) (h : Hp) (x1 : Option Nat) (x2 : Option Nat) (y0 : Option Nat) (hJ : B_X9_blameDanger_8 N t0 h x1 x2 y0 = some (hz, ())) (hk0 : h.kd t0 = 12) {H : Heap} {locs : List Loc} {cells slots : Nat} (w : Wo D cs A s h0 h H locs cells slots) {ls : Array Slot} (hl : lv_has ls 4 [(0, .ref t0), (1, va_rf x1), (2, va_rf x2)]) : W p l e { frames := 4, cells := mc, slots := ms, locals := 120 } s m args below meth c H locs cells slots (MQ below (Zv D cs A hz) args s mc ms A) (F0 m 8 ls [va_rf y0]) := by
  obtain ⟨hx, hb, hml, hown, hts, -⟩ := id C
  unfold B_X9_blameDanger_8 at hJ
  refine jv_astore_n (i := 3) (lv' := [(3, va_rf y0), (0, .ref t0), (1, va_rf x1), (2, va_rf x2)]) hx hb dX9_blameDanger_8 rfl hl (by decide) (by simp [List.filter, rf_cat, cat_i, cat_l, cat_r]) (fun ls hl => ?_)
  refine lv_aload_n hx hb dX9_blameDanger_9 rfl (lv_at hl 1 rfl) ?_
  refine lv_iconst (v := (2 : Int32)) hx hb dX9_blameDanger_10 (by decide) ?_
  refine jv_aload_n hx hb dX9_blameDanger_11 rfl (lv_at hl 2 rfl) ?_
  obtain ⟨a6, ea6, hka6, hJ⟩ := dr_some hJ
  rw [ea6] at hl
  rw [ea6]
  refine fg_1000 C w hka6 tw_2_10 dX9_blameDanger_12 ?_
  refine jv_aload_n hx hb dX9_blameDanger_15 rfl (lv_at hl 3 rfl) ?_
  obtain ⟨a7, ea7, hka7, hJ⟩ := dr_some hJ
  rw [ea7] at hl
  rw [ea7]
  refine fg_1000 C w hka7 tw_2_10 dX9_blameDanger_16 ?_
  refine jv_aload_n hx hb dX9_blameDanger_19 rfl (lv_at hl 0 rfl) ?_
  refine jv_ifnonnull (tgt := 27) hx hb dX9_blameDanger_20 (by decide) (fun a8 ea8 => ?_) (fun ea8 => ?_)
  · have hJ := nl_some ea8 hJ
    rw [ea8] at hl
    refine lv_aload_n hx hb dX9_blameDanger_27 rfl (lv_at hl 0 rfl) ?_
    obtain ⟨hk9, hJ⟩ := ck_some hJ
    refine fg_1000 C w hk9 tw_2_10 dX9_blameDanger_28 ?_
    exact sb_X9_blameDanger_31 C hz2 N t0 _ _ _ _ _ _ hJ hk0 w (lv_sub (l' := [(0, .ref t0)]) hl [1] rfl)
  · have hJ := nl_none ea8 hJ
    refine lv_iconst (v := (0 : Int32)) hx hb dX9_blameDanger_23 (by decide) ?_
    refine lv_goto (tgt := 31) hx hb dX9_blameDanger_24 (by decide) ?_
    exact sb_X9_blameDanger_31 C hz2 N t0 _ _ _ _ _ _ hJ hk0 w (lv_sub (l' := [(0, .ref t0)]) hl [1] rfl)
def B_X9_blameDanger_0 (N : Nat) (t0 : Nat) (h : Hp) (x1 : Option Nat) (x2 : Option Nat) : Option (Hp × Unit) := dr h 10 x2 (fun a10 => (J_X9_withMoment N t0 h (h.fi 1008 a10)).bind (fun z => B_X9_blameDanger_8 N t0 z.1 x1 (some a10) z.2))
theorem mb_X9_blameDanger_0 (N : Nat) (t0 : Nat) (h : Hp) (x1 : Option Nat) (x2 : Option Nat) (hJ : B_X9_blameDanger_0 N t0 h x1 x2 = some (hz, ())) : Mo h hz := by
  unfold B_X9_blameDanger_0 at hJ
  obtain ⟨a10, ea10, -, hJ⟩ := dr_some hJ
  obtain ⟨⟨h11, r12⟩, e13, hJ⟩ := ob_some hJ
  exact (mo_X9_withMoment N t0 h (h.fi 1008 a10) e13).tr (mb_X9_blameDanger_8 N t0 _ _ _ _ hJ)
set_option maxRecDepth 100000 in
set_option maxHeartbeats 4000000 in
theorem sb_X9_blameDanger_0 (C : Cx p s m args meth c cX9_blameDanger 4 none RX9 D cs A h0.se) (hz2 : hz.nx ≤ h0.nx + mc ∧ hz.su ≤ h0.su + ms) (N : Nat) (t0 : Nat) (h : Hp) (x1 : Option Nat) (x2 : Option Nat) (hJ : B_X9_blameDanger_0 N t0 h x1 x2 = some (hz, ())) (hk0 : h.kd t0 = 12) {H : Heap} {locs : List Loc} {cells slots : Nat} (w : Wo D cs A s h0 h H locs cells slots) {ls : Array Slot} (hl : lv_has ls 4 [(0, .ref t0), (1, va_rf x1), (2, va_rf x2)]) : W p l e { frames := 4, cells := mc, slots := ms, locals := 120 } s m args below meth c H locs cells slots (MQ below (Zv D cs A hz) args s mc ms A) (F0 m 0 ls []) := by
  obtain ⟨hx, hb, hml, hown, hts, -⟩ := id C
  unfold B_X9_blameDanger_0 at hJ
  refine lv_aload_n hx hb dX9_blameDanger_0 rfl (lv_at hl 0 rfl) ?_
  refine jv_aload_n hx hb dX9_blameDanger_1 rfl (lv_at hl 2 rfl) ?_
  obtain ⟨a10, ea10, hka10, hJ⟩ := dr_some hJ
  rw [ea10] at hl
  rw [ea10]
  refine fg_1008 C w hka10 tw_2_31 dX9_blameDanger_2 ?_
  obtain ⟨⟨h11, r12⟩, e13, hJ⟩ := ob_some hJ
  refine jc_Vq (As := [.int (h.fi 1008 a10)]) C w (cc_X9_withMoment N t0 h (h.fi 1008 a10) hk0 e13) (mo_X9_withMoment N t0 h (h.fi 1008 a10) e13) (mb_X9_blameDanger_8 N t0 _ _ _ _ hJ) hz2 hk0 (by decide) rfl (fs := fs12 h t0) rfl rfl ⟨tw_2_232, tw_2_229, tw_2_231, ts_10, tw_1_1⟩ cd_X9_withMoment ⟨by decide, by decide⟩ hl.1 (by first | exact Nat.le_of_ble_eq_true rfl | simp [rf_cat, cat_i, cat_l, cat_r]) rfl dX9_blameDanger_5 (fun H locs w1 => ?_)
  have hk14 := kd_keep w (mo_X9_withMoment N t0 h (h.fi 1008 a10) e13) hk0 (by decide)
  have w := w1
  exact sb_X9_blameDanger_8 C hz2 N t0 _ _ _ _ hJ hk14 w hl
def J_X9_blameDanger (N : Nat) (t0 : Nat) (h : Hp) (x1 : Option Nat) (x2 : Option Nat) : Option (Hp × Unit) := B_X9_blameDanger_0 N t0 h x1 x2
theorem mo_X9_blameDanger (N : Nat) (t0 : Nat) (h : Hp) (x1 : Option Nat) (x2 : Option Nat) (hJ : J_X9_blameDanger N t0 h x1 x2 = some (hz, ())) : Mo h hz := mb_X9_blameDanger_0 N t0 h x1 x2 hJ
theorem cd_X9_blameDanger : Cd yX9_blameDanger 2 := ⟨by decide +kernel, by decide +kernel, by decide +kernel⟩
theorem cc_X9_blameDanger (N : Nat) (t0 : Nat) (h : Hp) (x1 : Option Nat) (x2 : Option Nat) (hk0 : h.kd t0 = 12) (hJ : J_X9_blameDanger N t0 h x1 x2 = some (hz, ())) : Cv l yX9_blameDanger cX9_blameDanger 4 none 4 120 D cs h hz [.ref t0, va_rf x1, va_rf x2] := by
  intro mc ms g1 g2
  refine je_any (by decide) (by simp [lg_sl, rf_cat, cat_i, cat_l, cat_r]) ?_
  intro p e s m args below meth c C hin2 w ls hl
  have hl : lv_has ls 4 [(0, .ref t0), (1, va_rf x1), (2, va_rf x2)] := by simpa [lv_args, rf_cat, cat_i, cat_l, cat_r] using hl
  exact sb_X9_blameDanger_0 C ⟨g1, g2⟩ N t0 h x1 x2 hJ hk0 w hl
end G_X9_blameDanger
section G_X9_end
variable {p : Program} {l : Launch} {e : Env} {s : State} {m : MethodId} {args : Array Value} {below : List Frame} {meth : Method} {c : Code} {D : va_G} {cs : C4} {A : Nat → Prop} {h0 hz : Hp} {mc ms : Nat}
def B_X9_end_104 (N : Nat) (k78 : Hp → (Option Nat) → Int32 → Option (Hp × Unit)) (t0 : Nat) (h : Hp) (x1 : Option Nat) (x3 : Int32) : Option (Hp × Unit) := k78 h x1 (x3 + (1 : Int32))
theorem mb_X9_end_104 (N : Nat) (k78 : Hp → (Option Nat) → Int32 → Option (Hp × Unit)) (t0 : Nat) (h : Hp) (x1 : Option Nat) (x3 : Int32) (m78 : ∀ (h : Hp) (x1 : Option Nat) (x3 : Int32), k78 h x1 x3 = some (hz, ()) → Mo h hz) (hJ : B_X9_end_104 N k78 t0 h x1 x3 = some (hz, ())) : Mo h hz := by
  unfold B_X9_end_104 at hJ
  exact m78 _ _ _ hJ
set_option maxRecDepth 100000 in
set_option maxHeartbeats 4000000 in
theorem sb_X9_end_104 (C : Cx p s m args meth c cX9_end 4 none RX9 D cs A h0.se) (hz2 : hz.nx ≤ h0.nx + mc ∧ hz.su ≤ h0.su + ms) (N : Nat) (k78 : Hp → (Option Nat) → Int32 → Option (Hp × Unit)) (t0 : Nat) (m78 : ∀ (h : Hp) (x1 : Option Nat) (x3 : Int32), k78 h x1 x3 = some (hz, ()) → Mo h hz) (i78 : ∀ (h : Hp) (x1 : Option Nat) (x3 : Int32) (H : Heap) (locs : List Loc) (cells slots : Nat) (ls : Array Slot), k78 h x1 x3 = some (hz, ()) → h.kd t0 = 12 → Wo D cs A s h0 h H locs cells slots → lv_has ls 4 [(0, .ref t0), (1, va_rf x1), (3, .int x3)] → W p l e { frames := 3, cells := mc, slots := ms, locals := 120 } s m args below meth c H locs cells slots (MQ below (Zv D cs A hz) args s mc ms A) (F0 m 78 ls [])) (h : Hp) (x1 : Option Nat) (x3 : Int32) (hJ : B_X9_end_104 N k78 t0 h x1 x3 = some (hz, ())) (hk0 : h.kd t0 = 12) {H : Heap} {locs : List Loc} {cells slots : Nat} (w : Wo D cs A s h0 h H locs cells slots) {ls : Array Slot} (hl : lv_has ls 4 [(0, .ref t0), (1, va_rf x1), (3, .int x3)]) : W p l e { frames := 3, cells := mc, slots := ms, locals := 120 } s m args below meth c H locs cells slots (MQ below (Zv D cs A hz) args s mc ms A) (F0 m 104 ls []) := by
  obtain ⟨hx, hb, hml, hown, hts, -⟩ := id C
  unfold B_X9_end_104 at hJ
  refine lv_iinc (v := x3 + (1 : Int32)) (lv' := [(3, .int (x3 + (1 : Int32))), (0, .ref t0), (1, va_rf x1)]) hx hb dX9_end_104 hl (k := 2) rfl rfl (by decide) rfl (fun ls hl => ?_)
  refine lv_goto (tgt := 78) hx hb dX9_end_107 (by decide) ?_
  exact i78 _ _ _ _ _ _ _ _ hJ hk0 w (lv_sub (l' := [(0, .ref t0), (1, va_rf x1), (3, .int (x3 + (1 : Int32)))]) hl [1, 2, 0] rfl)
def B_X9_end_97 (N : Nat) (k78 : Hp → (Option Nat) → Int32 → Option (Hp × Unit)) (t0 : Nat) (h : Hp) (x1 : Option Nat) (x3 : Int32) (y0 : Option Nat) : Option (Hp × Unit) := dr h 10 y0 (fun a1 => (J_X7_heedEndOf N a1 h x1).bind (fun z => B_X9_end_104 N k78 t0 z.1 x1 x3))
theorem mb_X9_end_97 (N : Nat) (k78 : Hp → (Option Nat) → Int32 → Option (Hp × Unit)) (t0 : Nat) (h : Hp) (x1 : Option Nat) (x3 : Int32) (y0 : Option Nat) (m78 : ∀ (h : Hp) (x1 : Option Nat) (x3 : Int32), k78 h x1 x3 = some (hz, ()) → Mo h hz) (hJ : B_X9_end_97 N k78 t0 h x1 x3 y0 = some (hz, ())) : Mo h hz := by
  unfold B_X9_end_97 at hJ
  obtain ⟨a1, ea1, -, hJ⟩ := dr_some hJ
  obtain ⟨⟨h2, r3⟩, e4, hJ⟩ := ob_some hJ
  exact (mo_X7_heedEndOf N a1 h x1 e4).tr (mb_X9_end_104 N k78 t0 _ _ _ m78 hJ)
set_option maxRecDepth 100000 in
set_option maxHeartbeats 4000000 in
theorem sb_X9_end_97 (C : Cx p s m args meth c cX9_end 4 none RX9 D cs A h0.se) (hz2 : hz.nx ≤ h0.nx + mc ∧ hz.su ≤ h0.su + ms) (N : Nat) (k78 : Hp → (Option Nat) → Int32 → Option (Hp × Unit)) (t0 : Nat) (m78 : ∀ (h : Hp) (x1 : Option Nat) (x3 : Int32), k78 h x1 x3 = some (hz, ()) → Mo h hz) (i78 : ∀ (h : Hp) (x1 : Option Nat) (x3 : Int32) (H : Heap) (locs : List Loc) (cells slots : Nat) (ls : Array Slot), k78 h x1 x3 = some (hz, ()) → h.kd t0 = 12 → Wo D cs A s h0 h H locs cells slots → lv_has ls 4 [(0, .ref t0), (1, va_rf x1), (3, .int x3)] → W p l e { frames := 3, cells := mc, slots := ms, locals := 120 } s m args below meth c H locs cells slots (MQ below (Zv D cs A hz) args s mc ms A) (F0 m 78 ls [])) (h : Hp) (x1 : Option Nat) (x3 : Int32) (y0 : Option Nat) (hJ : B_X9_end_97 N k78 t0 h x1 x3 y0 = some (hz, ())) (hk0 : h.kd t0 = 12) {H : Heap} {locs : List Loc} {cells slots : Nat} (w : Wo D cs A s h0 h H locs cells slots) {ls : Array Slot} (hl : lv_has ls 4 [(0, .ref t0), (1, va_rf x1), (3, .int x3)]) : W p l e { frames := 3, cells := mc, slots := ms, locals := 120 } s m args below meth c H locs cells slots (MQ below (Zv D cs A hz) args s mc ms A) (F0 m 97 ls [va_rf y0]) := by
  obtain ⟨hx, hb, hml, hown, hts, -⟩ := id C
  unfold B_X9_end_97 at hJ
  obtain ⟨a1, ea1, hka1, hJ⟩ := dr_some hJ
  rw [ea1]
  refine va_castS hx hb hown (hts _ tw_1_221) (C.2.2.2.2.2.1.1 10 _ rfl).2 (recv_at C w hka1 (by decide) rfl (fs := fs10 h a1) rfl) dX9_end_97 ?_
  refine jv_aload_n hx hb dX9_end_100 rfl (lv_at hl 1 rfl) ?_
  obtain ⟨⟨h2, r3⟩, e4, hJ⟩ := ob_some hJ
  refine jc_Vv (As := [va_rf x1]) C w (cc_X7_heedEndOf N a1 h x1 hka1 e4) (mo_X7_heedEndOf N a1 h x1 e4) (mb_X9_end_104 N k78 t0 _ _ _ m78 hJ) hz2 hka1 (by decide) rfl (fs := fs10 h a1) rfl rfl ⟨tw_5_208, tw_5_205, tw_5_206, tw_5_207, tw_1_9⟩ cd_X7_heedEndOf ⟨by decide, by decide⟩ hl.1 (by first | exact Nat.le_of_ble_eq_true rfl | simp [rf_cat, cat_i, cat_l, cat_r]) rfl dX9_end_101 (fun H locs w1 => ?_)
  have hk5 := kd_keep w (mo_X7_heedEndOf N a1 h x1 e4) hk0 (by decide)
  have w := w1
  exact sb_X9_end_104 C hz2 N k78 t0 m78 i78 _ _ _ hJ hk5 w hl
def B_X9_end_86 (N : Nat) (k78 : Hp → (Option Nat) → Int32 → Option (Hp × Unit)) (t0 : Nat) (h : Hp) (x1 : Option Nat) (x3 : Int32) (y0 : Int32) (y1 : Int32) : Option (Hp × Unit) := if y1 ≤ y0 then (some (h, ())) else (dr h 2 (h.fr 1202 t0) (fun a7 => (J_Jx4a65c_get_915e3 N a7 h x3).bind (fun z => B_X9_end_97 N k78 t0 z.1 x1 x3 z.2)))
theorem mb_X9_end_86 (N : Nat) (k78 : Hp → (Option Nat) → Int32 → Option (Hp × Unit)) (t0 : Nat) (h : Hp) (x1 : Option Nat) (x3 : Int32) (y0 : Int32) (y1 : Int32) (m78 : ∀ (h : Hp) (x1 : Option Nat) (x3 : Int32), k78 h x1 x3 = some (hz, ()) → Mo h hz) (hJ : B_X9_end_86 N k78 t0 h x1 x3 y0 y1 = some (hz, ())) : Mo h hz := by
  unfold B_X9_end_86 at hJ
  by_cases c6 : y1 ≤ y0
  · have hJ := it_pos c6 hJ
    obtain ⟨rfl, -⟩ := rs2 hJ
    exact ⟨fun _ _ => rfl, Nat.le_refl _, Nat.le_refl _, rfl, fun _ _ => rfl⟩
  · have hJ := it_neg c6 hJ
    obtain ⟨a7, ea7, -, hJ⟩ := dr_some hJ
    obtain ⟨⟨h8, r9⟩, e10, hJ⟩ := ob_some hJ
    exact (mo_Jx4a65c_get_915e3 N a7 h x3 e10).tr (mb_X9_end_97 N k78 t0 _ _ _ _ m78 hJ)
set_option maxRecDepth 100000 in
set_option maxHeartbeats 4000000 in
theorem sb_X9_end_86 (C : Cx p s m args meth c cX9_end 4 none RX9 D cs A h0.se) (hz2 : hz.nx ≤ h0.nx + mc ∧ hz.su ≤ h0.su + ms) (N : Nat) (k78 : Hp → (Option Nat) → Int32 → Option (Hp × Unit)) (t0 : Nat) (m78 : ∀ (h : Hp) (x1 : Option Nat) (x3 : Int32), k78 h x1 x3 = some (hz, ()) → Mo h hz) (i78 : ∀ (h : Hp) (x1 : Option Nat) (x3 : Int32) (H : Heap) (locs : List Loc) (cells slots : Nat) (ls : Array Slot), k78 h x1 x3 = some (hz, ()) → h.kd t0 = 12 → Wo D cs A s h0 h H locs cells slots → lv_has ls 4 [(0, .ref t0), (1, va_rf x1), (3, .int x3)] → W p l e { frames := 3, cells := mc, slots := ms, locals := 120 } s m args below meth c H locs cells slots (MQ below (Zv D cs A hz) args s mc ms A) (F0 m 78 ls [])) (h : Hp) (x1 : Option Nat) (x3 : Int32) (y0 : Int32) (y1 : Int32) (hJ : B_X9_end_86 N k78 t0 h x1 x3 y0 y1 = some (hz, ())) (hk0 : h.kd t0 = 12) {H : Heap} {locs : List Loc} {cells slots : Nat} (w : Wo D cs A s h0 h H locs cells slots) {ls : Array Slot} (hl : lv_has ls 4 [(0, .ref t0), (1, va_rf x1), (3, .int x3)]) : W p l e { frames := 3, cells := mc, slots := ms, locals := 120 } s m args below meth c H locs cells slots (MQ below (Zv D cs A hz) args s mc ms A) (F0 m 86 ls [.int y1, .int y0]) := by
  obtain ⟨hx, hb, hml, hown, hts, -⟩ := id C
  unfold B_X9_end_86 at hJ
  refine lv_icmp_ge (tgt := 110) hx hb dX9_end_86 (by decide) (fun c6 => ?_) (fun c6 => ?_)
  · have hJ := it_pos c6 hJ
    obtain ⟨rfl, -⟩ := rs2 hJ
    exact jr_vret C w hz2 dX9_end_110
  · have hJ := it_neg c6 hJ
    refine lv_aload_n hx hb dX9_end_89 rfl (lv_at hl 0 rfl) ?_
    refine fg_1202 C w hk0 tw_1_134 dX9_end_90 ?_
    refine lv_iload_n hx hb dX9_end_93 rfl (lv_at hl 2 rfl) ?_
    obtain ⟨a7, ea7, hka7, hJ⟩ := dr_some hJ
    rw [ea7]
    obtain ⟨⟨h8, r9⟩, e10, hJ⟩ := ob_some hJ
    refine jc_Vq (As := [.int x3]) C w (cc_Jx4a65c_get_915e3 N a7 h x3 hka7 e10) (mo_Jx4a65c_get_915e3 N a7 h x3 e10) (mb_X9_end_97 N k78 t0 _ _ _ _ m78 hJ) hz2 hka7 (by decide) rfl (fs := fs2 h a7) rfl rfl ⟨tw_2_65, tw_2_62, tw_2_63, tw_2_64, tw_1_5⟩ cd_Jx4a65c_get_915e3 ⟨by decide, by decide⟩ hl.1 (by first | exact Nat.le_of_ble_eq_true rfl | simp [rf_cat, cat_i, cat_l, cat_r]) rfl dX9_end_94 (fun H locs w1 => ?_)
    have hk11 := kd_keep w (mo_Jx4a65c_get_915e3 N a7 h x3 e10) hk0 (by decide)
    have w := w1
    exact sb_X9_end_97 C hz2 N k78 t0 m78 i78 _ _ _ _ hJ hk11 w hl
def B_X9_end_78 (N : Nat) (k78 : Hp → (Option Nat) → Int32 → Option (Hp × Unit)) (t0 : Nat) (h : Hp) (x1 : Option Nat) (x3 : Int32) : Option (Hp × Unit) := dr h 2 (h.fr 1202 t0) (fun a12 => (J_Jx4a65c_size_8abf5 N a12 h).bind (fun z => B_X9_end_86 N k78 t0 z.1 x1 x3 x3 z.2))
theorem mb_X9_end_78 (N : Nat) (k78 : Hp → (Option Nat) → Int32 → Option (Hp × Unit)) (t0 : Nat) (h : Hp) (x1 : Option Nat) (x3 : Int32) (m78 : ∀ (h : Hp) (x1 : Option Nat) (x3 : Int32), k78 h x1 x3 = some (hz, ()) → Mo h hz) (hJ : B_X9_end_78 N k78 t0 h x1 x3 = some (hz, ())) : Mo h hz := by
  unfold B_X9_end_78 at hJ
  obtain ⟨a12, ea12, -, hJ⟩ := dr_some hJ
  obtain ⟨⟨h13, r14⟩, e15, hJ⟩ := ob_some hJ
  exact (mo_Jx4a65c_size_8abf5 N a12 h e15).tr (mb_X9_end_86 N k78 t0 _ _ _ _ _ m78 hJ)
set_option maxRecDepth 100000 in
set_option maxHeartbeats 4000000 in
theorem sb_X9_end_78 (C : Cx p s m args meth c cX9_end 4 none RX9 D cs A h0.se) (hz2 : hz.nx ≤ h0.nx + mc ∧ hz.su ≤ h0.su + ms) (N : Nat) (k78 : Hp → (Option Nat) → Int32 → Option (Hp × Unit)) (t0 : Nat) (m78 : ∀ (h : Hp) (x1 : Option Nat) (x3 : Int32), k78 h x1 x3 = some (hz, ()) → Mo h hz) (i78 : ∀ (h : Hp) (x1 : Option Nat) (x3 : Int32) (H : Heap) (locs : List Loc) (cells slots : Nat) (ls : Array Slot), k78 h x1 x3 = some (hz, ()) → h.kd t0 = 12 → Wo D cs A s h0 h H locs cells slots → lv_has ls 4 [(0, .ref t0), (1, va_rf x1), (3, .int x3)] → W p l e { frames := 3, cells := mc, slots := ms, locals := 120 } s m args below meth c H locs cells slots (MQ below (Zv D cs A hz) args s mc ms A) (F0 m 78 ls [])) (h : Hp) (x1 : Option Nat) (x3 : Int32) (hJ : B_X9_end_78 N k78 t0 h x1 x3 = some (hz, ())) (hk0 : h.kd t0 = 12) {H : Heap} {locs : List Loc} {cells slots : Nat} (w : Wo D cs A s h0 h H locs cells slots) {ls : Array Slot} (hl : lv_has ls 4 [(0, .ref t0), (1, va_rf x1), (3, .int x3)]) : W p l e { frames := 3, cells := mc, slots := ms, locals := 120 } s m args below meth c H locs cells slots (MQ below (Zv D cs A hz) args s mc ms A) (F0 m 78 ls []) := by
  obtain ⟨hx, hb, hml, hown, hts, -⟩ := id C
  unfold B_X9_end_78 at hJ
  refine lv_iload_n hx hb dX9_end_78 rfl (lv_at hl 2 rfl) ?_
  refine lv_aload_n hx hb dX9_end_79 rfl (lv_at hl 0 rfl) ?_
  refine fg_1202 C w hk0 tw_1_134 dX9_end_80 ?_
  obtain ⟨a12, ea12, hka12, hJ⟩ := dr_some hJ
  rw [ea12]
  obtain ⟨⟨h13, r14⟩, e15, hJ⟩ := ob_some hJ
  refine jc_Vi (As := []) C w (cc_Jx4a65c_size_8abf5 N a12 h hka12 e15) (mo_Jx4a65c_size_8abf5 N a12 h e15) (mb_X9_end_86 N k78 t0 _ _ _ _ _ m78 hJ) hz2 hka12 (by decide) rfl (fs := fs2 h a12) rfl rfl ⟨tw_1_182, tw_1_179, tw_1_180, tw_1_181, tw_1_5⟩ cd_Jx4a65c_size_8abf5 ⟨by decide, by decide⟩ hl.1 (by first | exact Nat.le_of_ble_eq_true rfl | simp [rf_cat, cat_i, cat_l, cat_r]) rfl dX9_end_83 (fun H locs w1 => ?_)
  have hk16 := kd_keep w (mo_Jx4a65c_size_8abf5 N a12 h e15) hk0 (by decide)
  have w := w1
  exact sb_X9_end_86 C hz2 N k78 t0 m78 i78 _ _ _ _ _ hJ hk16 w hl
def L_X9_end_78 (N : Nat) (t0 : Nat) : Nat → Hp → (Option Nat) → Int32 → Option (Hp × Unit)
  | 0 => fun _ _ _ => none
  | n + 1 => fun h x1 x3 => B_X9_end_78 N (L_X9_end_78 N t0 n) t0 h x1 x3
theorem ml_X9_end_78 (N : Nat) (t0 : Nat) : ∀ (n : Nat) (h : Hp) (x1 : Option Nat) (x3 : Int32), L_X9_end_78 N t0 n h x1 x3 = some (hz, ()) → Mo h hz := by
  intro n
  induction n with
  | zero => intro h x1 x3 hJ; cases hJ
  | succ n ih => intro h x1 x3 hJ; exact mb_X9_end_78 N (L_X9_end_78 N t0 n) t0 h x1 x3 ih hJ
theorem sl_X9_end_78 (C : Cx p s m args meth c cX9_end 4 none RX9 D cs A h0.se) (hz2 : hz.nx ≤ h0.nx + mc ∧ hz.su ≤ h0.su + ms) (N : Nat) (t0 : Nat) : ∀ n : Nat, ∀ (h : Hp) (x1 : Option Nat) (x3 : Int32) (H : Heap) (locs : List Loc) (cells slots : Nat) (ls : Array Slot), L_X9_end_78 N t0 n h x1 x3 = some (hz, ()) → h.kd t0 = 12 → Wo D cs A s h0 h H locs cells slots → lv_has ls 4 [(0, .ref t0), (1, va_rf x1), (3, .int x3)] → W p l e { frames := 3, cells := mc, slots := ms, locals := 120 } s m args below meth c H locs cells slots (MQ below (Zv D cs A hz) args s mc ms A) (F0 m 78 ls []) := by
  intro n
  induction n with
  | zero => intro h x1 x3 H locs cells slots ls hJ; cases hJ
  | succ n ih =>
    intro h x1 x3 H locs cells slots ls hJ hk0 w hl
    exact sb_X9_end_78 C hz2 N (L_X9_end_78 N t0 n) t0 (ml_X9_end_78 N t0 n) ih h x1 x3 hJ hk0 w hl
def B_X9_end_68 (N : Nat) (t0 : Nat) (h : Hp) (x1 : Option Nat) : Option (Hp × Unit) := dr h 10 x1 (fun a17 => if (h.fi 1005 a17) = 0 then (L_X9_end_78 N t0 N h (some a17) (0 : Int32)) else (some (h, ())))
theorem mb_X9_end_68 (N : Nat) (t0 : Nat) (h : Hp) (x1 : Option Nat) (hJ : B_X9_end_68 N t0 h x1 = some (hz, ())) : Mo h hz := by
  unfold B_X9_end_68 at hJ
  obtain ⟨a17, ea17, -, hJ⟩ := dr_some hJ
  by_cases c18 : (h.fi 1005 a17) = 0
  · have hJ := it_pos c18 hJ
    exact ml_X9_end_78 N t0 N _ _ _ hJ
  · have hJ := it_neg c18 hJ
    obtain ⟨rfl, -⟩ := rs2 hJ
    exact ⟨fun _ _ => rfl, Nat.le_refl _, Nat.le_refl _, rfl, fun _ _ => rfl⟩
set_option maxRecDepth 100000 in
set_option maxHeartbeats 4000000 in
theorem sb_X9_end_68 (C : Cx p s m args meth c cX9_end 4 none RX9 D cs A h0.se) (hz2 : hz.nx ≤ h0.nx + mc ∧ hz.su ≤ h0.su + ms) (N : Nat) (t0 : Nat) (h : Hp) (x1 : Option Nat) (hJ : B_X9_end_68 N t0 h x1 = some (hz, ())) (hk0 : h.kd t0 = 12) {H : Heap} {locs : List Loc} {cells slots : Nat} (w : Wo D cs A s h0 h H locs cells slots) {ls : Array Slot} (hl : lv_has ls 4 [(0, .ref t0), (1, va_rf x1)]) : W p l e { frames := 3, cells := mc, slots := ms, locals := 120 } s m args below meth c H locs cells slots (MQ below (Zv D cs A hz) args s mc ms A) (F0 m 68 ls []) := by
  obtain ⟨hx, hb, hml, hown, hts, -⟩ := id C
  unfold B_X9_end_68 at hJ
  refine jv_aload_n hx hb dX9_end_68 rfl (lv_at hl 1 rfl) ?_
  obtain ⟨a17, ea17, hka17, hJ⟩ := dr_some hJ
  rw [ea17] at hl
  rw [ea17]
  refine fg_1005 C w hka17 tw_2_24 dX9_end_69 ?_
  refine lv_if_eq (tgt := 76) hx hb dX9_end_72 (by decide) (fun c18 => ?_) (fun c18 => ?_)
  · have hJ := it_pos c18 hJ
    refine lv_iconst (v := (0 : Int32)) hx hb dX9_end_76 (by decide) ?_
    refine lv_istore_n (i := 3) (lv' := [(3, .int (0 : Int32)), (0, .ref t0), (1, .ref a17)]) hx hb dX9_end_77 rfl hl (by decide) rfl (fun ls hl => ?_)
    exact sl_X9_end_78 C hz2 N t0 N _ _ _ _ _ _ _ _ hJ hk0 w (lv_sub (l' := [(0, .ref t0), (1, .ref a17), (3, .int (0 : Int32))]) hl [1, 2, 0] rfl)
  · have hJ := it_neg c18 hJ
    obtain ⟨rfl, -⟩ := rs2 hJ
    exact jr_vret C w hz2 dX9_end_75
def B_X9_end_58 (N : Nat) (t0 : Nat) (h : Hp) (x1 : Option Nat) (y0 : Option Nat) : Option (Hp × Unit) := B_X9_end_68 N t0 h x1
theorem mb_X9_end_58 (N : Nat) (t0 : Nat) (h : Hp) (x1 : Option Nat) (y0 : Option Nat) (hJ : B_X9_end_58 N t0 h x1 y0 = some (hz, ())) : Mo h hz := by
  unfold B_X9_end_58 at hJ
  exact mb_X9_end_68 N t0 _ _ hJ
set_option maxRecDepth 100000 in
set_option maxHeartbeats 4000000 in
theorem sb_X9_end_58 (C : Cx p s m args meth c cX9_end 4 none RX9 D cs A h0.se) (hz2 : hz.nx ≤ h0.nx + mc ∧ hz.su ≤ h0.su + ms) (N : Nat) (t0 : Nat) (h : Hp) (x1 : Option Nat) (y0 : Option Nat) (hJ : B_X9_end_58 N t0 h x1 y0 = some (hz, ())) (hk0 : h.kd t0 = 12) {H : Heap} {locs : List Loc} {cells slots : Nat} (w : Wo D cs A s h0 h H locs cells slots) {ls : Array Slot} (hl : lv_has ls 4 [(0, .ref t0), (1, va_rf x1)]) : W p l e { frames := 3, cells := mc, slots := ms, locals := 120 } s m args below meth c H locs cells slots (MQ below (Zv D cs A hz) args s mc ms A) (F0 m 58 ls [va_rf y0]) := by
  obtain ⟨hx, hb, hml, hown, hts, -⟩ := id C
  unfold B_X9_end_58 at hJ
  refine lv_pop hx hb dX9_end_58 (rf_cat _) ?_
  refine lv_goto (tgt := 68) hx hb dX9_end_59 (by decide) ?_
  exact sb_X9_end_68 C hz2 N t0 _ _ hJ hk0 w hl
def B_X9_end_46 (N : Nat) (k27 : Hp → (Option Nat) → Int32 → Option (Hp × Unit)) (t0 : Nat) (h : Hp) (x1 : Option Nat) (x3 : Int32) (y0 : Option Nat) : Option (Hp × Unit) := if y0 = x1 then (dr h 2 (h.fr 1202 t0) (fun a20 => (J_Jx4a65c_remove_915e3 N a20 h x3).bind (fun z => B_X9_end_58 N t0 z.1 x1 z.2))) else (k27 h x1 (x3 + (1 : Int32)))
theorem mb_X9_end_46 (N : Nat) (k27 : Hp → (Option Nat) → Int32 → Option (Hp × Unit)) (t0 : Nat) (h : Hp) (x1 : Option Nat) (x3 : Int32) (y0 : Option Nat) (m27 : ∀ (h : Hp) (x1 : Option Nat) (x3 : Int32), k27 h x1 x3 = some (hz, ()) → Mo h hz) (hJ : B_X9_end_46 N k27 t0 h x1 x3 y0 = some (hz, ())) : Mo h hz := by
  unfold B_X9_end_46 at hJ
  by_cases c19 : y0 = x1
  · have hJ := it_pos c19 hJ
    obtain ⟨a20, ea20, -, hJ⟩ := dr_some hJ
    obtain ⟨⟨h21, r22⟩, e23, hJ⟩ := ob_some hJ
    exact (mo_Jx4a65c_remove_915e3 N a20 h x3 e23).tr (mb_X9_end_58 N t0 _ _ _ hJ)
  · have hJ := it_neg c19 hJ
    exact m27 _ _ _ hJ
set_option maxRecDepth 100000 in
set_option maxHeartbeats 4000000 in
theorem sb_X9_end_46 (C : Cx p s m args meth c cX9_end 4 none RX9 D cs A h0.se) (hz2 : hz.nx ≤ h0.nx + mc ∧ hz.su ≤ h0.su + ms) (N : Nat) (k27 : Hp → (Option Nat) → Int32 → Option (Hp × Unit)) (t0 : Nat) (m27 : ∀ (h : Hp) (x1 : Option Nat) (x3 : Int32), k27 h x1 x3 = some (hz, ()) → Mo h hz) (i27 : ∀ (h : Hp) (x1 : Option Nat) (x3 : Int32) (H : Heap) (locs : List Loc) (cells slots : Nat) (ls : Array Slot), k27 h x1 x3 = some (hz, ()) → h.kd t0 = 12 → Wo D cs A s h0 h H locs cells slots → lv_has ls 4 [(0, .ref t0), (1, va_rf x1), (3, .int x3)] → W p l e { frames := 3, cells := mc, slots := ms, locals := 120 } s m args below meth c H locs cells slots (MQ below (Zv D cs A hz) args s mc ms A) (F0 m 27 ls [])) (h : Hp) (x1 : Option Nat) (x3 : Int32) (y0 : Option Nat) (hJ : B_X9_end_46 N k27 t0 h x1 x3 y0 = some (hz, ())) (hk0 : h.kd t0 = 12) {H : Heap} {locs : List Loc} {cells slots : Nat} (w : Wo D cs A s h0 h H locs cells slots) {ls : Array Slot} (hl : lv_has ls 4 [(0, .ref t0), (1, va_rf x1), (3, .int x3)]) : W p l e { frames := 3, cells := mc, slots := ms, locals := 120 } s m args below meth c H locs cells slots (MQ below (Zv D cs A hz) args s mc ms A) (F0 m 46 ls [va_rf y0]) := by
  obtain ⟨hx, hb, hml, hown, hts, -⟩ := id C
  unfold B_X9_end_46 at hJ
  refine jv_aload_n hx hb dX9_end_46 rfl (lv_at hl 1 rfl) ?_
  refine lv_acmp_ne (rx := y0) (ry := x1) (tgt := 62) hx hb dX9_end_47 (by decide) (fun c19 => ?_) (fun c19 => ?_)
  · have hJ := it_neg c19 hJ
    refine lv_iinc (v := x3 + (1 : Int32)) (lv' := [(3, .int (x3 + (1 : Int32))), (0, .ref t0), (1, va_rf x1)]) hx hb dX9_end_62 hl (k := 2) rfl rfl (by decide) rfl (fun ls hl => ?_)
    refine lv_goto (tgt := 27) hx hb dX9_end_65 (by decide) ?_
    exact i27 _ _ _ _ _ _ _ _ hJ hk0 w (lv_sub (l' := [(0, .ref t0), (1, va_rf x1), (3, .int (x3 + (1 : Int32)))]) hl [1, 2, 0] rfl)
  · have hJ := it_pos c19 hJ
    refine lv_aload_n hx hb dX9_end_50 rfl (lv_at hl 0 rfl) ?_
    refine fg_1202 C w hk0 tw_1_134 dX9_end_51 ?_
    refine lv_iload_n hx hb dX9_end_54 rfl (lv_at hl 2 rfl) ?_
    obtain ⟨a20, ea20, hka20, hJ⟩ := dr_some hJ
    rw [ea20]
    obtain ⟨⟨h21, r22⟩, e23, hJ⟩ := ob_some hJ
    refine jc_Vq (As := [.int x3]) C w (cc_Jx4a65c_remove_915e3 N a20 h x3 hka20 e23) (mo_Jx4a65c_remove_915e3 N a20 h x3 e23) (mb_X9_end_58 N t0 _ _ _ hJ) hz2 hka20 (by decide) rfl (fs := fs2 h a20) rfl rfl ⟨tw_5_68, tw_5_204, tw_5_66, tw_5_67, tw_1_5⟩ cd_Jx4a65c_remove_915e3 ⟨by decide, by decide⟩ hl.1 (by first | exact Nat.le_of_ble_eq_true rfl | simp [rf_cat, cat_i, cat_l, cat_r]) rfl dX9_end_55 (fun H locs w1 => ?_)
    have hk24 := kd_keep w (mo_Jx4a65c_remove_915e3 N a20 h x3 e23) hk0 (by decide)
    have w := w1
    exact sb_X9_end_58 C hz2 N t0 _ _ _ hJ hk24 w (lv_sub (l' := [(0, .ref t0), (1, va_rf x1)]) hl [0, 1] rfl)
def B_X9_end_35 (N : Nat) (k27 : Hp → (Option Nat) → Int32 → Option (Hp × Unit)) (t0 : Nat) (h : Hp) (x1 : Option Nat) (x3 : Int32) (y0 : Int32) (y1 : Int32) : Option (Hp × Unit) := if y1 ≤ y0 then (B_X9_end_68 N t0 h x1) else (dr h 2 (h.fr 1202 t0) (fun a26 => (J_Jx4a65c_get_915e3 N a26 h x3).bind (fun z => B_X9_end_46 N k27 t0 z.1 x1 x3 z.2)))
theorem mb_X9_end_35 (N : Nat) (k27 : Hp → (Option Nat) → Int32 → Option (Hp × Unit)) (t0 : Nat) (h : Hp) (x1 : Option Nat) (x3 : Int32) (y0 : Int32) (y1 : Int32) (m27 : ∀ (h : Hp) (x1 : Option Nat) (x3 : Int32), k27 h x1 x3 = some (hz, ()) → Mo h hz) (hJ : B_X9_end_35 N k27 t0 h x1 x3 y0 y1 = some (hz, ())) : Mo h hz := by
  unfold B_X9_end_35 at hJ
  by_cases c25 : y1 ≤ y0
  · have hJ := it_pos c25 hJ
    exact mb_X9_end_68 N t0 _ _ hJ
  · have hJ := it_neg c25 hJ
    obtain ⟨a26, ea26, -, hJ⟩ := dr_some hJ
    obtain ⟨⟨h27, r28⟩, e29, hJ⟩ := ob_some hJ
    exact (mo_Jx4a65c_get_915e3 N a26 h x3 e29).tr (mb_X9_end_46 N k27 t0 _ _ _ _ m27 hJ)
set_option maxRecDepth 100000 in
set_option maxHeartbeats 4000000 in
theorem sb_X9_end_35 (C : Cx p s m args meth c cX9_end 4 none RX9 D cs A h0.se) (hz2 : hz.nx ≤ h0.nx + mc ∧ hz.su ≤ h0.su + ms) (N : Nat) (k27 : Hp → (Option Nat) → Int32 → Option (Hp × Unit)) (t0 : Nat) (m27 : ∀ (h : Hp) (x1 : Option Nat) (x3 : Int32), k27 h x1 x3 = some (hz, ()) → Mo h hz) (i27 : ∀ (h : Hp) (x1 : Option Nat) (x3 : Int32) (H : Heap) (locs : List Loc) (cells slots : Nat) (ls : Array Slot), k27 h x1 x3 = some (hz, ()) → h.kd t0 = 12 → Wo D cs A s h0 h H locs cells slots → lv_has ls 4 [(0, .ref t0), (1, va_rf x1), (3, .int x3)] → W p l e { frames := 3, cells := mc, slots := ms, locals := 120 } s m args below meth c H locs cells slots (MQ below (Zv D cs A hz) args s mc ms A) (F0 m 27 ls [])) (h : Hp) (x1 : Option Nat) (x3 : Int32) (y0 : Int32) (y1 : Int32) (hJ : B_X9_end_35 N k27 t0 h x1 x3 y0 y1 = some (hz, ())) (hk0 : h.kd t0 = 12) {H : Heap} {locs : List Loc} {cells slots : Nat} (w : Wo D cs A s h0 h H locs cells slots) {ls : Array Slot} (hl : lv_has ls 4 [(0, .ref t0), (1, va_rf x1), (3, .int x3)]) : W p l e { frames := 3, cells := mc, slots := ms, locals := 120 } s m args below meth c H locs cells slots (MQ below (Zv D cs A hz) args s mc ms A) (F0 m 35 ls [.int y1, .int y0]) := by
  obtain ⟨hx, hb, hml, hown, hts, -⟩ := id C
  unfold B_X9_end_35 at hJ
  refine lv_icmp_ge (tgt := 68) hx hb dX9_end_35 (by decide) (fun c25 => ?_) (fun c25 => ?_)
  · have hJ := it_pos c25 hJ
    exact sb_X9_end_68 C hz2 N t0 _ _ hJ hk0 w (lv_sub (l' := [(0, .ref t0), (1, va_rf x1)]) hl [0, 1] rfl)
  · have hJ := it_neg c25 hJ
    refine lv_aload_n hx hb dX9_end_38 rfl (lv_at hl 0 rfl) ?_
    refine fg_1202 C w hk0 tw_1_134 dX9_end_39 ?_
    refine lv_iload_n hx hb dX9_end_42 rfl (lv_at hl 2 rfl) ?_
    obtain ⟨a26, ea26, hka26, hJ⟩ := dr_some hJ
    rw [ea26]
    obtain ⟨⟨h27, r28⟩, e29, hJ⟩ := ob_some hJ
    refine jc_Vq (As := [.int x3]) C w (cc_Jx4a65c_get_915e3 N a26 h x3 hka26 e29) (mo_Jx4a65c_get_915e3 N a26 h x3 e29) (mb_X9_end_46 N k27 t0 _ _ _ _ m27 hJ) hz2 hka26 (by decide) rfl (fs := fs2 h a26) rfl rfl ⟨tw_2_65, tw_2_62, tw_2_63, tw_2_64, tw_1_5⟩ cd_Jx4a65c_get_915e3 ⟨by decide, by decide⟩ hl.1 (by first | exact Nat.le_of_ble_eq_true rfl | simp [rf_cat, cat_i, cat_l, cat_r]) rfl dX9_end_43 (fun H locs w1 => ?_)
    have hk30 := kd_keep w (mo_Jx4a65c_get_915e3 N a26 h x3 e29) hk0 (by decide)
    have w := w1
    exact sb_X9_end_46 C hz2 N k27 t0 m27 i27 _ _ _ _ hJ hk30 w hl
def B_X9_end_27 (N : Nat) (k27 : Hp → (Option Nat) → Int32 → Option (Hp × Unit)) (t0 : Nat) (h : Hp) (x1 : Option Nat) (x3 : Int32) : Option (Hp × Unit) := dr h 2 (h.fr 1202 t0) (fun a31 => (J_Jx4a65c_size_8abf5 N a31 h).bind (fun z => B_X9_end_35 N k27 t0 z.1 x1 x3 x3 z.2))
theorem mb_X9_end_27 (N : Nat) (k27 : Hp → (Option Nat) → Int32 → Option (Hp × Unit)) (t0 : Nat) (h : Hp) (x1 : Option Nat) (x3 : Int32) (m27 : ∀ (h : Hp) (x1 : Option Nat) (x3 : Int32), k27 h x1 x3 = some (hz, ()) → Mo h hz) (hJ : B_X9_end_27 N k27 t0 h x1 x3 = some (hz, ())) : Mo h hz := by
  unfold B_X9_end_27 at hJ
  obtain ⟨a31, ea31, -, hJ⟩ := dr_some hJ
  obtain ⟨⟨h32, r33⟩, e34, hJ⟩ := ob_some hJ
  exact (mo_Jx4a65c_size_8abf5 N a31 h e34).tr (mb_X9_end_35 N k27 t0 _ _ _ _ _ m27 hJ)
set_option maxRecDepth 100000 in
set_option maxHeartbeats 4000000 in
theorem sb_X9_end_27 (C : Cx p s m args meth c cX9_end 4 none RX9 D cs A h0.se) (hz2 : hz.nx ≤ h0.nx + mc ∧ hz.su ≤ h0.su + ms) (N : Nat) (k27 : Hp → (Option Nat) → Int32 → Option (Hp × Unit)) (t0 : Nat) (m27 : ∀ (h : Hp) (x1 : Option Nat) (x3 : Int32), k27 h x1 x3 = some (hz, ()) → Mo h hz) (i27 : ∀ (h : Hp) (x1 : Option Nat) (x3 : Int32) (H : Heap) (locs : List Loc) (cells slots : Nat) (ls : Array Slot), k27 h x1 x3 = some (hz, ()) → h.kd t0 = 12 → Wo D cs A s h0 h H locs cells slots → lv_has ls 4 [(0, .ref t0), (1, va_rf x1), (3, .int x3)] → W p l e { frames := 3, cells := mc, slots := ms, locals := 120 } s m args below meth c H locs cells slots (MQ below (Zv D cs A hz) args s mc ms A) (F0 m 27 ls [])) (h : Hp) (x1 : Option Nat) (x3 : Int32) (hJ : B_X9_end_27 N k27 t0 h x1 x3 = some (hz, ())) (hk0 : h.kd t0 = 12) {H : Heap} {locs : List Loc} {cells slots : Nat} (w : Wo D cs A s h0 h H locs cells slots) {ls : Array Slot} (hl : lv_has ls 4 [(0, .ref t0), (1, va_rf x1), (3, .int x3)]) : W p l e { frames := 3, cells := mc, slots := ms, locals := 120 } s m args below meth c H locs cells slots (MQ below (Zv D cs A hz) args s mc ms A) (F0 m 27 ls []) := by
  obtain ⟨hx, hb, hml, hown, hts, -⟩ := id C
  unfold B_X9_end_27 at hJ
  refine lv_iload_n hx hb dX9_end_27 rfl (lv_at hl 2 rfl) ?_
  refine lv_aload_n hx hb dX9_end_28 rfl (lv_at hl 0 rfl) ?_
  refine fg_1202 C w hk0 tw_1_134 dX9_end_29 ?_
  obtain ⟨a31, ea31, hka31, hJ⟩ := dr_some hJ
  rw [ea31]
  obtain ⟨⟨h32, r33⟩, e34, hJ⟩ := ob_some hJ
  refine jc_Vi (As := []) C w (cc_Jx4a65c_size_8abf5 N a31 h hka31 e34) (mo_Jx4a65c_size_8abf5 N a31 h e34) (mb_X9_end_35 N k27 t0 _ _ _ _ _ m27 hJ) hz2 hka31 (by decide) rfl (fs := fs2 h a31) rfl rfl ⟨tw_1_182, tw_1_179, tw_1_180, tw_1_181, tw_1_5⟩ cd_Jx4a65c_size_8abf5 ⟨by decide, by decide⟩ hl.1 (by first | exact Nat.le_of_ble_eq_true rfl | simp [rf_cat, cat_i, cat_l, cat_r]) rfl dX9_end_32 (fun H locs w1 => ?_)
  have hk35 := kd_keep w (mo_Jx4a65c_size_8abf5 N a31 h e34) hk0 (by decide)
  have w := w1
  exact sb_X9_end_35 C hz2 N k27 t0 m27 i27 _ _ _ _ _ hJ hk35 w hl
def L_X9_end_27 (N : Nat) (t0 : Nat) : Nat → Hp → (Option Nat) → Int32 → Option (Hp × Unit)
  | 0 => fun _ _ _ => none
  | n + 1 => fun h x1 x3 => B_X9_end_27 N (L_X9_end_27 N t0 n) t0 h x1 x3
theorem ml_X9_end_27 (N : Nat) (t0 : Nat) : ∀ (n : Nat) (h : Hp) (x1 : Option Nat) (x3 : Int32), L_X9_end_27 N t0 n h x1 x3 = some (hz, ()) → Mo h hz := by
  intro n
  induction n with
  | zero => intro h x1 x3 hJ; cases hJ
  | succ n ih => intro h x1 x3 hJ; exact mb_X9_end_27 N (L_X9_end_27 N t0 n) t0 h x1 x3 ih hJ
theorem sl_X9_end_27 (C : Cx p s m args meth c cX9_end 4 none RX9 D cs A h0.se) (hz2 : hz.nx ≤ h0.nx + mc ∧ hz.su ≤ h0.su + ms) (N : Nat) (t0 : Nat) : ∀ n : Nat, ∀ (h : Hp) (x1 : Option Nat) (x3 : Int32) (H : Heap) (locs : List Loc) (cells slots : Nat) (ls : Array Slot), L_X9_end_27 N t0 n h x1 x3 = some (hz, ()) → h.kd t0 = 12 → Wo D cs A s h0 h H locs cells slots → lv_has ls 4 [(0, .ref t0), (1, va_rf x1), (3, .int x3)] → W p l e { frames := 3, cells := mc, slots := ms, locals := 120 } s m args below meth c H locs cells slots (MQ below (Zv D cs A hz) args s mc ms A) (F0 m 27 ls []) := by
  intro n
  induction n with
  | zero => intro h x1 x3 H locs cells slots ls hJ; cases hJ
  | succ n ih =>
    intro h x1 x3 H locs cells slots ls hJ hk0 w hl
    exact sb_X9_end_27 C hz2 N (L_X9_end_27 N t0 n) t0 (ml_X9_end_27 N t0 n) ih h x1 x3 hJ hk0 w hl
def B_X9_end_0 (N : Nat) (t0 : Nat) (h : Hp) (x1 : Option Nat) (x2 : Int32) : Option (Hp × Unit) := dr h 10 x1 (fun a36 => dr (h.sfi 1006 a36 x2) 20 ((h.sfi 1006 a36 x2).fr 1204 t0) (fun a37 => ck (¬ ((1 : Int32) < 0 ∨ (h.sfi 1006 a36 x2).al a37 ≤ (1 : Int32).toNatClampNeg)) (ck (¬ ((1 : Int32) < 0 ∨ (h.sfi 1006 a36 x2).al a37 ≤ (1 : Int32).toNatClampNeg)) (dr ((h.sfi 1006 a36 x2).sai a37 (1 : Int32).toNatClampNeg (((h.sfi 1006 a36 x2).ai a37 (1 : Int32).toNatClampNeg) - (1 : Int32))) 20 (((h.sfi 1006 a36 x2).sai a37 (1 : Int32).toNatClampNeg (((h.sfi 1006 a36 x2).ai a37 (1 : Int32).toNatClampNeg) - (1 : Int32))).fr 1204 t0) (fun a40 => ck (¬ (x2 < 0 ∨ ((h.sfi 1006 a36 x2).sai a37 (1 : Int32).toNatClampNeg (((h.sfi 1006 a36 x2).ai a37 (1 : Int32).toNatClampNeg) - (1 : Int32))).al a40 ≤ x2.toNatClampNeg)) (ck (¬ (x2 < 0 ∨ ((h.sfi 1006 a36 x2).sai a37 (1 : Int32).toNatClampNeg (((h.sfi 1006 a36 x2).ai a37 (1 : Int32).toNatClampNeg) - (1 : Int32))).al a40 ≤ x2.toNatClampNeg)) (L_X9_end_27 N t0 N (((h.sfi 1006 a36 x2).sai a37 (1 : Int32).toNatClampNeg (((h.sfi 1006 a36 x2).ai a37 (1 : Int32).toNatClampNeg) - (1 : Int32))).sai a40 x2.toNatClampNeg ((((h.sfi 1006 a36 x2).sai a37 (1 : Int32).toNatClampNeg (((h.sfi 1006 a36 x2).ai a37 (1 : Int32).toNatClampNeg) - (1 : Int32))).ai a40 x2.toNatClampNeg) + (1 : Int32))) (some a36) (0 : Int32))))))))
theorem mb_X9_end_0 (N : Nat) (t0 : Nat) (h : Hp) (x1 : Option Nat) (x2 : Int32) (hJ : B_X9_end_0 N t0 h x1 x2 = some (hz, ())) : Mo h hz := by
  unfold B_X9_end_0 at hJ
  obtain ⟨a36, ea36, -, hJ⟩ := dr_some hJ
  obtain ⟨a37, ea37, -, hJ⟩ := dr_some hJ
  obtain ⟨-, hJ⟩ := ck_some hJ
  obtain ⟨-, hJ⟩ := ck_some hJ
  obtain ⟨a40, ea40, -, hJ⟩ := dr_some hJ
  obtain ⟨-, hJ⟩ := ck_some hJ
  obtain ⟨-, hJ⟩ := ck_some hJ
  exact (Mo.tr (show Mo h (((h.sfi 1006 a36 x2).sai a37 (1 : Int32).toNatClampNeg (((h.sfi 1006 a36 x2).ai a37 (1 : Int32).toNatClampNeg) - (1 : Int32))).sai a40 x2.toNatClampNeg ((((h.sfi 1006 a36 x2).sai a37 (1 : Int32).toNatClampNeg (((h.sfi 1006 a36 x2).ai a37 (1 : Int32).toNatClampNeg) - (1 : Int32))).ai a40 x2.toNatClampNeg) + (1 : Int32))) from ⟨fun _ _ => rfl, Nat.le_refl _, Nat.le_refl _, rfl, fun _ _ => rfl⟩) (ml_X9_end_27 N t0 N _ _ _ hJ))
set_option maxRecDepth 100000 in
set_option maxHeartbeats 4000000 in
theorem sb_X9_end_0 (C : Cx p s m args meth c cX9_end 4 none RX9 D cs A h0.se) (hz2 : hz.nx ≤ h0.nx + mc ∧ hz.su ≤ h0.su + ms) (N : Nat) (t0 : Nat) (h : Hp) (x1 : Option Nat) (x2 : Int32) (hJ : B_X9_end_0 N t0 h x1 x2 = some (hz, ())) (hk0 : h.kd t0 = 12) {H : Heap} {locs : List Loc} {cells slots : Nat} (w : Wo D cs A s h0 h H locs cells slots) {ls : Array Slot} (hl : lv_has ls 4 [(0, .ref t0), (1, va_rf x1), (2, .int x2)]) : W p l e { frames := 3, cells := mc, slots := ms, locals := 120 } s m args below meth c H locs cells slots (MQ below (Zv D cs A hz) args s mc ms A) (F0 m 0 ls []) := by
  obtain ⟨hx, hb, hml, hown, hts, -⟩ := id C
  unfold B_X9_end_0 at hJ
  refine jv_aload_n hx hb dX9_end_0 rfl (lv_at hl 1 rfl) ?_
  refine lv_iload_n hx hb dX9_end_1 rfl (lv_at hl 2 rfl) ?_
  obtain ⟨a36, ea36, hka36, hJ⟩ := dr_some hJ
  rw [ea36] at hl
  rw [ea36]
  refine fp_1006 (x := x2) C w hka36 tw_2_26 dX9_end_2 (fun H locs w => ?_)
  refine lv_aload_n hx hb dX9_end_5 rfl (lv_at hl 0 rfl) ?_
  refine fg_1204 C w hk0 tw_1_136 dX9_end_6 ?_
  refine lv_iconst (v := (1 : Int32)) hx hb dX9_end_9 (by decide) ?_
  refine lv_dup2_11 hx hb dX9_end_10 rfl (rf_cat _) ?_
  obtain ⟨a37, ea37, hka37, hJ⟩ := dr_some hJ
  rw [ea37]
  obtain ⟨hi38, hJ⟩ := ck_some hJ
  refine jr_iald C w hka37 hi38 dX9_end_11 ?_
  refine lv_iconst (v := (1 : Int32)) hx hb dX9_end_12 (by decide) ?_
  refine lv_isub hx hb dX9_end_13 ?_
  obtain ⟨hi39, hJ⟩ := ck_some hJ
  refine jr_iast C w hka37 hi39 dX9_end_14 (fun H locs w => ?_)
  refine lv_aload_n hx hb dX9_end_15 rfl (lv_at hl 0 rfl) ?_
  refine fg_1204 C w hk0 tw_1_136 dX9_end_16 ?_
  refine lv_iload_n hx hb dX9_end_19 rfl (lv_at hl 2 rfl) ?_
  refine lv_dup2_11 hx hb dX9_end_20 rfl (rf_cat _) ?_
  obtain ⟨a40, ea40, hka40, hJ⟩ := dr_some hJ
  rw [ea40]
  obtain ⟨hi41, hJ⟩ := ck_some hJ
  refine jr_iald C w hka40 hi41 dX9_end_21 ?_
  refine lv_iconst (v := (1 : Int32)) hx hb dX9_end_22 (by decide) ?_
  refine lv_iadd hx hb dX9_end_23 ?_
  obtain ⟨hi42, hJ⟩ := ck_some hJ
  refine jr_iast C w hka40 hi42 dX9_end_24 (fun H locs w => ?_)
  refine lv_iconst (v := (0 : Int32)) hx hb dX9_end_25 (by decide) ?_
  refine lv_istore_n (i := 3) (lv' := [(3, .int (0 : Int32)), (0, .ref t0), (1, .ref a36), (2, .int x2)]) hx hb dX9_end_26 rfl hl (by decide) rfl (fun ls hl => ?_)
  exact sl_X9_end_27 C hz2 N t0 N _ _ _ _ _ _ _ _ hJ hk0 w (lv_sub (l' := [(0, .ref t0), (1, .ref a36), (3, .int (0 : Int32))]) hl [1, 2, 0] rfl)
def J_X9_end (N : Nat) (t0 : Nat) (h : Hp) (x1 : Option Nat) (x2 : Int32) : Option (Hp × Unit) := B_X9_end_0 N t0 h x1 x2
theorem mo_X9_end (N : Nat) (t0 : Nat) (h : Hp) (x1 : Option Nat) (x2 : Int32) (hJ : J_X9_end N t0 h x1 x2 = some (hz, ())) : Mo h hz := mb_X9_end_0 N t0 h x1 x2 hJ
theorem cd_X9_end : Cd yX9_end 2 := ⟨by decide +kernel, by decide +kernel, by decide +kernel⟩
theorem cc_X9_end (N : Nat) (t0 : Nat) (h : Hp) (x1 : Option Nat) (x2 : Int32) (hk0 : h.kd t0 = 12) (hJ : J_X9_end N t0 h x1 x2 = some (hz, ())) : Cv l yX9_end cX9_end 4 none 3 120 D cs h hz [.ref t0, va_rf x1, .int x2] := by
  intro mc ms g1 g2
  refine je_any (by decide) (by simp [lg_sl, rf_cat, cat_i, cat_l, cat_r]) ?_
  intro p e s m args below meth c C hin2 w ls hl
  have hl : lv_has ls 4 [(0, .ref t0), (1, va_rf x1), (2, .int x2)] := by simpa [lv_args, rf_cat, cat_i, cat_l, cat_r] using hl
  exact sb_X9_end_0 C ⟨g1, g2⟩ N t0 h x1 x2 hJ hk0 w hl
end G_X9_end
section G_X9_forbiddenOverwriter
variable {p : Program} {l : Launch} {e : Env} {s : State} {m : MethodId} {args : Array Value} {below : List Frame} {meth : Method} {c : Code} {D : va_G} {cs : C4} {A : Nat → Prop} {h0 hz : Hp} {mc ms : Nat} {rz : Option Nat}
def B_X9_forbiddenOverwriter_59 (N : Nat) (k4 : Hp → (Option Nat) → (Option Nat) → Int32 → Option (Hp × Option Nat)) (t0 : Nat) (h : Hp) (x1 : Option Nat) (x2 : Option Nat) (x3 : Int32) : Option (Hp × Option Nat) := k4 h x1 x2 (x3 + (1 : Int32))
theorem mb_X9_forbiddenOverwriter_59 (N : Nat) (k4 : Hp → (Option Nat) → (Option Nat) → Int32 → Option (Hp × Option Nat)) (t0 : Nat) (h : Hp) (x1 : Option Nat) (x2 : Option Nat) (x3 : Int32) (m4 : ∀ (h : Hp) (x1 : Option Nat) (x2 : Option Nat) (x3 : Int32), k4 h x1 x2 x3 = some (hz, rz) → Mo h hz) (hJ : B_X9_forbiddenOverwriter_59 N k4 t0 h x1 x2 x3 = some (hz, rz)) : Mo h hz := by
  unfold B_X9_forbiddenOverwriter_59 at hJ
  exact m4 _ _ _ _ hJ
set_option maxRecDepth 100000 in
set_option maxHeartbeats 4000000 in
theorem sb_X9_forbiddenOverwriter_59 (C : Cx p s m args meth c cX9_forbiddenOverwriter 5 (some (.object "RingKeeper$Transaction")) RX9 D cs A h0.se) (hz2 : hz.nx ≤ h0.nx + mc ∧ hz.su ≤ h0.su + ms) (N : Nat) (k4 : Hp → (Option Nat) → (Option Nat) → Int32 → Option (Hp × Option Nat)) (t0 : Nat) (m4 : ∀ (h : Hp) (x1 : Option Nat) (x2 : Option Nat) (x3 : Int32), k4 h x1 x2 x3 = some (hz, rz) → Mo h hz) (i4 : ∀ (h : Hp) (x1 : Option Nat) (x2 : Option Nat) (x3 : Int32) (H : Heap) (locs : List Loc) (cells slots : Nat) (ls : Array Slot), k4 h x1 x2 x3 = some (hz, rz) → h.kd t0 = 12 → Wo D cs A s h0 h H locs cells slots → lv_has ls 5 [(0, .ref t0), (1, va_rf x1), (2, va_rf x2), (3, .int x3)] → W p l e { frames := 3, cells := mc, slots := ms, locals := 90 } s m args below meth c H locs cells slots (MQ below (Zq D cs A hz rz) args s mc ms A) (F0 m 4 ls [])) (h : Hp) (x1 : Option Nat) (x2 : Option Nat) (x3 : Int32) (hJ : B_X9_forbiddenOverwriter_59 N k4 t0 h x1 x2 x3 = some (hz, rz)) (hk0 : h.kd t0 = 12) {H : Heap} {locs : List Loc} {cells slots : Nat} (w : Wo D cs A s h0 h H locs cells slots) {ls : Array Slot} (hl : lv_has ls 5 [(0, .ref t0), (1, va_rf x1), (2, va_rf x2), (3, .int x3)]) : W p l e { frames := 3, cells := mc, slots := ms, locals := 90 } s m args below meth c H locs cells slots (MQ below (Zq D cs A hz rz) args s mc ms A) (F0 m 59 ls []) := by
  obtain ⟨hx, hb, hml, hown, hts, -⟩ := id C
  unfold B_X9_forbiddenOverwriter_59 at hJ
  refine lv_iinc (v := x3 + (1 : Int32)) (lv' := [(3, .int (x3 + (1 : Int32))), (0, .ref t0), (1, va_rf x1), (2, va_rf x2)]) hx hb dX9_forbiddenOverwriter_59 hl (k := 3) rfl rfl (by decide) (by simp [List.filter, rf_cat, cat_i, cat_l, cat_r]) (fun ls hl => ?_)
  refine lv_goto (tgt := 4) hx hb dX9_forbiddenOverwriter_62 (by decide) ?_
  exact i4 _ _ _ _ _ _ _ _ _ hJ hk0 w (lv_sub (l' := [(0, .ref t0), (1, va_rf x1), (2, va_rf x2), (3, .int (x3 + (1 : Int32)))]) hl [1, 2, 3, 0] rfl)
def B_X9_forbiddenOverwriter_56 (N : Nat) (k4 : Hp → (Option Nat) → (Option Nat) → Int32 → Option (Hp × Option Nat)) (t0 : Nat) (h : Hp) (x1 : Option Nat) (x3 : Int32) (x4 : Option Nat) : Option (Hp × Option Nat) := B_X9_forbiddenOverwriter_59 N k4 t0 h x1 x4 x3
theorem mb_X9_forbiddenOverwriter_56 (N : Nat) (k4 : Hp → (Option Nat) → (Option Nat) → Int32 → Option (Hp × Option Nat)) (t0 : Nat) (h : Hp) (x1 : Option Nat) (x3 : Int32) (x4 : Option Nat) (m4 : ∀ (h : Hp) (x1 : Option Nat) (x2 : Option Nat) (x3 : Int32), k4 h x1 x2 x3 = some (hz, rz) → Mo h hz) (hJ : B_X9_forbiddenOverwriter_56 N k4 t0 h x1 x3 x4 = some (hz, rz)) : Mo h hz := by
  unfold B_X9_forbiddenOverwriter_56 at hJ
  exact mb_X9_forbiddenOverwriter_59 N k4 t0 _ _ _ _ m4 hJ
set_option maxRecDepth 100000 in
set_option maxHeartbeats 4000000 in
theorem sb_X9_forbiddenOverwriter_56 (C : Cx p s m args meth c cX9_forbiddenOverwriter 5 (some (.object "RingKeeper$Transaction")) RX9 D cs A h0.se) (hz2 : hz.nx ≤ h0.nx + mc ∧ hz.su ≤ h0.su + ms) (N : Nat) (k4 : Hp → (Option Nat) → (Option Nat) → Int32 → Option (Hp × Option Nat)) (t0 : Nat) (m4 : ∀ (h : Hp) (x1 : Option Nat) (x2 : Option Nat) (x3 : Int32), k4 h x1 x2 x3 = some (hz, rz) → Mo h hz) (i4 : ∀ (h : Hp) (x1 : Option Nat) (x2 : Option Nat) (x3 : Int32) (H : Heap) (locs : List Loc) (cells slots : Nat) (ls : Array Slot), k4 h x1 x2 x3 = some (hz, rz) → h.kd t0 = 12 → Wo D cs A s h0 h H locs cells slots → lv_has ls 5 [(0, .ref t0), (1, va_rf x1), (2, va_rf x2), (3, .int x3)] → W p l e { frames := 3, cells := mc, slots := ms, locals := 90 } s m args below meth c H locs cells slots (MQ below (Zq D cs A hz rz) args s mc ms A) (F0 m 4 ls [])) (h : Hp) (x1 : Option Nat) (x3 : Int32) (x4 : Option Nat) (hJ : B_X9_forbiddenOverwriter_56 N k4 t0 h x1 x3 x4 = some (hz, rz)) (hk0 : h.kd t0 = 12) {H : Heap} {locs : List Loc} {cells slots : Nat} (w : Wo D cs A s h0 h H locs cells slots) {ls : Array Slot} (hl : lv_has ls 5 [(0, .ref t0), (1, va_rf x1), (3, .int x3), (4, va_rf x4)]) : W p l e { frames := 3, cells := mc, slots := ms, locals := 90 } s m args below meth c H locs cells slots (MQ below (Zq D cs A hz rz) args s mc ms A) (F0 m 56 ls []) := by
  obtain ⟨hx, hb, hml, hown, hts, -⟩ := id C
  unfold B_X9_forbiddenOverwriter_56 at hJ
  refine jv_aload hx hb dX9_forbiddenOverwriter_56 (lv_at hl 3 rfl) ?_
  refine jv_astore_n (i := 2) (lv' := [(2, va_rf x4), (0, .ref t0), (1, va_rf x1), (3, .int x3), (4, va_rf x4)]) hx hb dX9_forbiddenOverwriter_58 rfl hl (by decide) (by simp [List.filter, rf_cat, cat_i, cat_l, cat_r]) (fun ls hl => ?_)
  exact sb_X9_forbiddenOverwriter_59 C hz2 N k4 t0 m4 i4 _ _ _ _ hJ hk0 w (lv_sub (l' := [(0, .ref t0), (1, va_rf x1), (2, va_rf x4), (3, .int x3)]) hl [1, 2, 0, 3] rfl)
def B_X9_forbiddenOverwriter_37 (N : Nat) (k4 : Hp → (Option Nat) → (Option Nat) → Int32 → Option (Hp × Option Nat)) (t0 : Nat) (h : Hp) (x1 : Option Nat) (x2 : Option Nat) (x3 : Int32) (x4 : Option Nat) (y0 : Int32) : Option (Hp × Option Nat) := if y0 = 0 then (B_X9_forbiddenOverwriter_59 N k4 t0 h x1 x2 x3) else (nl x2 (B_X9_forbiddenOverwriter_56 N k4 t0 h x1 x3 x4) (fun a2 => dr h 10 x4 (fun a3 => ck (h.kd a2 = 10) (if (h.fi 1007 a2) ≤ (h.fi 1007 a3) then (B_X9_forbiddenOverwriter_59 N k4 t0 h x1 (some a2) x3) else (B_X9_forbiddenOverwriter_56 N k4 t0 h x1 x3 (some a3))))))
theorem mb_X9_forbiddenOverwriter_37 (N : Nat) (k4 : Hp → (Option Nat) → (Option Nat) → Int32 → Option (Hp × Option Nat)) (t0 : Nat) (h : Hp) (x1 : Option Nat) (x2 : Option Nat) (x3 : Int32) (x4 : Option Nat) (y0 : Int32) (m4 : ∀ (h : Hp) (x1 : Option Nat) (x2 : Option Nat) (x3 : Int32), k4 h x1 x2 x3 = some (hz, rz) → Mo h hz) (hJ : B_X9_forbiddenOverwriter_37 N k4 t0 h x1 x2 x3 x4 y0 = some (hz, rz)) : Mo h hz := by
  unfold B_X9_forbiddenOverwriter_37 at hJ
  by_cases c1 : y0 = 0
  · have hJ := it_pos c1 hJ
    exact mb_X9_forbiddenOverwriter_59 N k4 t0 _ _ _ _ m4 hJ
  · have hJ := it_neg c1 hJ
    cases ea2 : x2 with
    | none =>
      have hJ := nl_none ea2 hJ
      exact mb_X9_forbiddenOverwriter_56 N k4 t0 _ _ _ _ m4 hJ
    | some a2 =>
      have hJ := nl_some ea2 hJ
      obtain ⟨a3, ea3, -, hJ⟩ := dr_some hJ
      obtain ⟨-, hJ⟩ := ck_some hJ
      by_cases c5 : (h.fi 1007 a2) ≤ (h.fi 1007 a3)
      · have hJ := it_pos c5 hJ
        exact mb_X9_forbiddenOverwriter_59 N k4 t0 _ _ _ _ m4 hJ
      · have hJ := it_neg c5 hJ
        exact mb_X9_forbiddenOverwriter_56 N k4 t0 _ _ _ _ m4 hJ
set_option maxRecDepth 100000 in
set_option maxHeartbeats 4000000 in
theorem sb_X9_forbiddenOverwriter_37 (C : Cx p s m args meth c cX9_forbiddenOverwriter 5 (some (.object "RingKeeper$Transaction")) RX9 D cs A h0.se) (hz2 : hz.nx ≤ h0.nx + mc ∧ hz.su ≤ h0.su + ms) (N : Nat) (k4 : Hp → (Option Nat) → (Option Nat) → Int32 → Option (Hp × Option Nat)) (t0 : Nat) (m4 : ∀ (h : Hp) (x1 : Option Nat) (x2 : Option Nat) (x3 : Int32), k4 h x1 x2 x3 = some (hz, rz) → Mo h hz) (i4 : ∀ (h : Hp) (x1 : Option Nat) (x2 : Option Nat) (x3 : Int32) (H : Heap) (locs : List Loc) (cells slots : Nat) (ls : Array Slot), k4 h x1 x2 x3 = some (hz, rz) → h.kd t0 = 12 → Wo D cs A s h0 h H locs cells slots → lv_has ls 5 [(0, .ref t0), (1, va_rf x1), (2, va_rf x2), (3, .int x3)] → W p l e { frames := 3, cells := mc, slots := ms, locals := 90 } s m args below meth c H locs cells slots (MQ below (Zq D cs A hz rz) args s mc ms A) (F0 m 4 ls [])) (h : Hp) (x1 : Option Nat) (x2 : Option Nat) (x3 : Int32) (x4 : Option Nat) (y0 : Int32) (hJ : B_X9_forbiddenOverwriter_37 N k4 t0 h x1 x2 x3 x4 y0 = some (hz, rz)) (hk0 : h.kd t0 = 12) {H : Heap} {locs : List Loc} {cells slots : Nat} (w : Wo D cs A s h0 h H locs cells slots) {ls : Array Slot} (hl : lv_has ls 5 [(0, .ref t0), (1, va_rf x1), (2, va_rf x2), (3, .int x3), (4, va_rf x4)]) : W p l e { frames := 3, cells := mc, slots := ms, locals := 90 } s m args below meth c H locs cells slots (MQ below (Zq D cs A hz rz) args s mc ms A) (F0 m 37 ls [.int y0]) := by
  obtain ⟨hx, hb, hml, hown, hts, -⟩ := id C
  unfold B_X9_forbiddenOverwriter_37 at hJ
  refine lv_if_eq (tgt := 59) hx hb dX9_forbiddenOverwriter_37 (by decide) (fun c1 => ?_) (fun c1 => ?_)
  · have hJ := it_pos c1 hJ
    exact sb_X9_forbiddenOverwriter_59 C hz2 N k4 t0 m4 i4 _ _ _ _ hJ hk0 w (lv_sub (l' := [(0, .ref t0), (1, va_rf x1), (2, va_rf x2), (3, .int x3)]) hl [0, 1, 2, 3] rfl)
  · have hJ := it_neg c1 hJ
    refine jv_aload_n hx hb dX9_forbiddenOverwriter_40 rfl (lv_at hl 2 rfl) ?_
    refine jv_ifnull (tgt := 56) hx hb dX9_forbiddenOverwriter_41 (by decide) (fun ea2 => ?_) (fun a2 ea2 => ?_)
    · have hJ := nl_none ea2 hJ
      exact sb_X9_forbiddenOverwriter_56 C hz2 N k4 t0 m4 i4 _ _ _ _ hJ hk0 w (lv_sub (l' := [(0, .ref t0), (1, va_rf x1), (3, .int x3), (4, va_rf x4)]) hl [0, 1, 3, 4] rfl)
    · have hJ := nl_some ea2 hJ
      rw [ea2] at hl
      refine jv_aload hx hb dX9_forbiddenOverwriter_44 (lv_at hl 4 rfl) ?_
      obtain ⟨a3, ea3, hka3, hJ⟩ := dr_some hJ
      rw [ea3] at hl
      rw [ea3]
      refine fg_1007 C w hka3 tw_2_29 dX9_forbiddenOverwriter_46 ?_
      refine lv_aload_n hx hb dX9_forbiddenOverwriter_49 rfl (lv_at hl 2 rfl) ?_
      obtain ⟨hk4, hJ⟩ := ck_some hJ
      refine fg_1007 C w hk4 tw_2_29 dX9_forbiddenOverwriter_50 ?_
      refine lv_icmp_ge (tgt := 59) hx hb dX9_forbiddenOverwriter_53 (by decide) (fun c5 => ?_) (fun c5 => ?_)
      · have hJ := it_pos c5 hJ
        exact sb_X9_forbiddenOverwriter_59 C hz2 N k4 t0 m4 i4 _ _ _ _ hJ hk0 w (lv_sub (l' := [(0, .ref t0), (1, va_rf x1), (2, .ref a2), (3, .int x3)]) hl [0, 1, 2, 3] rfl)
      · have hJ := it_neg c5 hJ
        exact sb_X9_forbiddenOverwriter_56 C hz2 N k4 t0 m4 i4 _ _ _ _ hJ hk0 w (lv_sub (l' := [(0, .ref t0), (1, va_rf x1), (3, .int x3), (4, .ref a3)]) hl [0, 1, 3, 4] rfl)
def B_X9_forbiddenOverwriter_23 (N : Nat) (k4 : Hp → (Option Nat) → (Option Nat) → Int32 → Option (Hp × Option Nat)) (t0 : Nat) (h : Hp) (x1 : Option Nat) (x2 : Option Nat) (x3 : Int32) (y0 : Option Nat) : Option (Hp × Option Nat) := dr h 10 y0 (fun a6 => dr h 10 x1 (fun a7 => (J_X7_mayNotPrecede N a7 h (h.fi 1008 a6)).bind (fun z => B_X9_forbiddenOverwriter_37 N k4 t0 z.1 (some a7) x2 x3 (some a6) z.2)))
theorem mb_X9_forbiddenOverwriter_23 (N : Nat) (k4 : Hp → (Option Nat) → (Option Nat) → Int32 → Option (Hp × Option Nat)) (t0 : Nat) (h : Hp) (x1 : Option Nat) (x2 : Option Nat) (x3 : Int32) (y0 : Option Nat) (m4 : ∀ (h : Hp) (x1 : Option Nat) (x2 : Option Nat) (x3 : Int32), k4 h x1 x2 x3 = some (hz, rz) → Mo h hz) (hJ : B_X9_forbiddenOverwriter_23 N k4 t0 h x1 x2 x3 y0 = some (hz, rz)) : Mo h hz := by
  unfold B_X9_forbiddenOverwriter_23 at hJ
  obtain ⟨a6, ea6, -, hJ⟩ := dr_some hJ
  obtain ⟨a7, ea7, -, hJ⟩ := dr_some hJ
  obtain ⟨⟨h8, r9⟩, e10, hJ⟩ := ob_some hJ
  exact (mo_X7_mayNotPrecede N a7 h (h.fi 1008 a6) e10).tr (mb_X9_forbiddenOverwriter_37 N k4 t0 _ _ _ _ _ _ m4 hJ)
set_option maxRecDepth 100000 in
set_option maxHeartbeats 4000000 in
theorem sb_X9_forbiddenOverwriter_23 (C : Cx p s m args meth c cX9_forbiddenOverwriter 5 (some (.object "RingKeeper$Transaction")) RX9 D cs A h0.se) (hz2 : hz.nx ≤ h0.nx + mc ∧ hz.su ≤ h0.su + ms) (N : Nat) (k4 : Hp → (Option Nat) → (Option Nat) → Int32 → Option (Hp × Option Nat)) (t0 : Nat) (m4 : ∀ (h : Hp) (x1 : Option Nat) (x2 : Option Nat) (x3 : Int32), k4 h x1 x2 x3 = some (hz, rz) → Mo h hz) (i4 : ∀ (h : Hp) (x1 : Option Nat) (x2 : Option Nat) (x3 : Int32) (H : Heap) (locs : List Loc) (cells slots : Nat) (ls : Array Slot), k4 h x1 x2 x3 = some (hz, rz) → h.kd t0 = 12 → Wo D cs A s h0 h H locs cells slots → lv_has ls 5 [(0, .ref t0), (1, va_rf x1), (2, va_rf x2), (3, .int x3)] → W p l e { frames := 3, cells := mc, slots := ms, locals := 90 } s m args below meth c H locs cells slots (MQ below (Zq D cs A hz rz) args s mc ms A) (F0 m 4 ls [])) (h : Hp) (x1 : Option Nat) (x2 : Option Nat) (x3 : Int32) (y0 : Option Nat) (hJ : B_X9_forbiddenOverwriter_23 N k4 t0 h x1 x2 x3 y0 = some (hz, rz)) (hk0 : h.kd t0 = 12) {H : Heap} {locs : List Loc} {cells slots : Nat} (w : Wo D cs A s h0 h H locs cells slots) {ls : Array Slot} (hl : lv_has ls 5 [(0, .ref t0), (1, va_rf x1), (2, va_rf x2), (3, .int x3)]) : W p l e { frames := 3, cells := mc, slots := ms, locals := 90 } s m args below meth c H locs cells slots (MQ below (Zq D cs A hz rz) args s mc ms A) (F0 m 23 ls [va_rf y0]) := by
  obtain ⟨hx, hb, hml, hown, hts, -⟩ := id C
  unfold B_X9_forbiddenOverwriter_23 at hJ
  obtain ⟨a6, ea6, hka6, hJ⟩ := dr_some hJ
  rw [ea6]
  refine va_castS hx hb hown (hts _ tw_1_221) (C.2.2.2.2.2.1.1 10 _ rfl).2 (recv_at C w hka6 (by decide) rfl (fs := fs10 h a6) rfl) dX9_forbiddenOverwriter_23 ?_
  refine lv_astore (i := 4) (lv' := [(4, .ref a6), (0, .ref t0), (1, va_rf x1), (2, va_rf x2), (3, .int x3)]) hx hb dX9_forbiddenOverwriter_26 hl (by decide) rfl (fun ls hl => ?_)
  refine jv_aload_n hx hb dX9_forbiddenOverwriter_28 rfl (lv_at hl 2 rfl) ?_
  refine lv_aload hx hb dX9_forbiddenOverwriter_29 (lv_at hl 0 rfl) ?_
  refine fg_1008 C w hka6 tw_2_31 dX9_forbiddenOverwriter_31 ?_
  obtain ⟨a7, ea7, hka7, hJ⟩ := dr_some hJ
  rw [ea7] at hl
  rw [ea7]
  obtain ⟨⟨h8, r9⟩, e10, hJ⟩ := ob_some hJ
  refine jc_Vi (As := [.int (h.fi 1008 a6)]) C w (cc_X7_mayNotPrecede N a7 h (h.fi 1008 a6) hka7 e10) (mo_X7_mayNotPrecede N a7 h (h.fi 1008 a6) e10) (mb_X9_forbiddenOverwriter_37 N k4 t0 _ _ _ _ _ _ m4 hJ) hz2 hka7 (by decide) rfl (fs := fs10 h a7) rfl rfl ⟨tw_5_191, tw_5_188, tw_5_189, tw_5_190, tw_1_9⟩ cd_X7_mayNotPrecede ⟨by decide, by decide⟩ hl.1 (by first | exact Nat.le_of_ble_eq_true rfl | simp [rf_cat, cat_i, cat_l, cat_r]) rfl dX9_forbiddenOverwriter_34 (fun H locs w1 => ?_)
  have hk11 := kd_keep w (mo_X7_mayNotPrecede N a7 h (h.fi 1008 a6) e10) hk0 (by decide)
  have w := w1
  exact sb_X9_forbiddenOverwriter_37 C hz2 N k4 t0 m4 i4 _ _ _ _ _ _ hJ hk11 w (lv_sub (l' := [(0, .ref t0), (1, .ref a7), (2, va_rf x2), (3, .int x3), (4, .ref a6)]) hl [1, 2, 3, 4, 0] rfl)
def B_X9_forbiddenOverwriter_12 (N : Nat) (k4 : Hp → (Option Nat) → (Option Nat) → Int32 → Option (Hp × Option Nat)) (t0 : Nat) (h : Hp) (x1 : Option Nat) (x2 : Option Nat) (x3 : Int32) (y0 : Int32) (y1 : Int32) : Option (Hp × Option Nat) := if y1 ≤ y0 then (some (h, x2)) else (dr h 2 (h.fr 1207 t0) (fun a13 => (J_Jx4a65c_get_915e3 N a13 h x3).bind (fun z => B_X9_forbiddenOverwriter_23 N k4 t0 z.1 x1 x2 x3 z.2)))
theorem mb_X9_forbiddenOverwriter_12 (N : Nat) (k4 : Hp → (Option Nat) → (Option Nat) → Int32 → Option (Hp × Option Nat)) (t0 : Nat) (h : Hp) (x1 : Option Nat) (x2 : Option Nat) (x3 : Int32) (y0 : Int32) (y1 : Int32) (m4 : ∀ (h : Hp) (x1 : Option Nat) (x2 : Option Nat) (x3 : Int32), k4 h x1 x2 x3 = some (hz, rz) → Mo h hz) (hJ : B_X9_forbiddenOverwriter_12 N k4 t0 h x1 x2 x3 y0 y1 = some (hz, rz)) : Mo h hz := by
  unfold B_X9_forbiddenOverwriter_12 at hJ
  by_cases c12 : y1 ≤ y0
  · have hJ := it_pos c12 hJ
    obtain ⟨rfl, -⟩ := rs2 hJ
    exact ⟨fun _ _ => rfl, Nat.le_refl _, Nat.le_refl _, rfl, fun _ _ => rfl⟩
  · have hJ := it_neg c12 hJ
    obtain ⟨a13, ea13, -, hJ⟩ := dr_some hJ
    obtain ⟨⟨h14, r15⟩, e16, hJ⟩ := ob_some hJ
    exact (mo_Jx4a65c_get_915e3 N a13 h x3 e16).tr (mb_X9_forbiddenOverwriter_23 N k4 t0 _ _ _ _ _ m4 hJ)
set_option maxRecDepth 100000 in
set_option maxHeartbeats 4000000 in
theorem sb_X9_forbiddenOverwriter_12 (C : Cx p s m args meth c cX9_forbiddenOverwriter 5 (some (.object "RingKeeper$Transaction")) RX9 D cs A h0.se) (hz2 : hz.nx ≤ h0.nx + mc ∧ hz.su ≤ h0.su + ms) (N : Nat) (k4 : Hp → (Option Nat) → (Option Nat) → Int32 → Option (Hp × Option Nat)) (t0 : Nat) (m4 : ∀ (h : Hp) (x1 : Option Nat) (x2 : Option Nat) (x3 : Int32), k4 h x1 x2 x3 = some (hz, rz) → Mo h hz) (i4 : ∀ (h : Hp) (x1 : Option Nat) (x2 : Option Nat) (x3 : Int32) (H : Heap) (locs : List Loc) (cells slots : Nat) (ls : Array Slot), k4 h x1 x2 x3 = some (hz, rz) → h.kd t0 = 12 → Wo D cs A s h0 h H locs cells slots → lv_has ls 5 [(0, .ref t0), (1, va_rf x1), (2, va_rf x2), (3, .int x3)] → W p l e { frames := 3, cells := mc, slots := ms, locals := 90 } s m args below meth c H locs cells slots (MQ below (Zq D cs A hz rz) args s mc ms A) (F0 m 4 ls [])) (h : Hp) (x1 : Option Nat) (x2 : Option Nat) (x3 : Int32) (y0 : Int32) (y1 : Int32) (hJ : B_X9_forbiddenOverwriter_12 N k4 t0 h x1 x2 x3 y0 y1 = some (hz, rz)) (hk0 : h.kd t0 = 12) {H : Heap} {locs : List Loc} {cells slots : Nat} (w : Wo D cs A s h0 h H locs cells slots) {ls : Array Slot} (hl : lv_has ls 5 [(0, .ref t0), (1, va_rf x1), (2, va_rf x2), (3, .int x3)]) : W p l e { frames := 3, cells := mc, slots := ms, locals := 90 } s m args below meth c H locs cells slots (MQ below (Zq D cs A hz rz) args s mc ms A) (F0 m 12 ls [.int y1, .int y0]) := by
  obtain ⟨hx, hb, hml, hown, hts, -⟩ := id C
  unfold B_X9_forbiddenOverwriter_12 at hJ
  refine lv_icmp_ge (tgt := 65) hx hb dX9_forbiddenOverwriter_12 (by decide) (fun c12 => ?_) (fun c12 => ?_)
  · have hJ := it_pos c12 hJ
    refine jv_aload_n hx hb dX9_forbiddenOverwriter_65 rfl (lv_at hl 2 rfl) ?_
    obtain ⟨rfl, rfl⟩ := rs2 hJ
    exact jr_aret (r := x2) C w (Or.inl ⟨_, rfl⟩) hz2 dX9_forbiddenOverwriter_66
  · have hJ := it_neg c12 hJ
    refine lv_aload_n hx hb dX9_forbiddenOverwriter_15 rfl (lv_at hl 0 rfl) ?_
    refine fg_1207 C w hk0 tw_1_139 dX9_forbiddenOverwriter_16 ?_
    refine lv_iload_n hx hb dX9_forbiddenOverwriter_19 rfl (lv_at hl 3 rfl) ?_
    obtain ⟨a13, ea13, hka13, hJ⟩ := dr_some hJ
    rw [ea13]
    obtain ⟨⟨h14, r15⟩, e16, hJ⟩ := ob_some hJ
    refine jc_Vq (As := [.int x3]) C w (cc_Jx4a65c_get_915e3 N a13 h x3 hka13 e16) (mo_Jx4a65c_get_915e3 N a13 h x3 e16) (mb_X9_forbiddenOverwriter_23 N k4 t0 _ _ _ _ _ m4 hJ) hz2 hka13 (by decide) rfl (fs := fs2 h a13) rfl rfl ⟨tw_2_65, tw_2_62, tw_2_63, tw_2_64, tw_1_5⟩ cd_Jx4a65c_get_915e3 ⟨by decide, by decide⟩ hl.1 (by first | exact Nat.le_of_ble_eq_true rfl | simp [rf_cat, cat_i, cat_l, cat_r]) rfl dX9_forbiddenOverwriter_20 (fun H locs w1 => ?_)
    have hk17 := kd_keep w (mo_Jx4a65c_get_915e3 N a13 h x3 e16) hk0 (by decide)
    have w := w1
    exact sb_X9_forbiddenOverwriter_23 C hz2 N k4 t0 m4 i4 _ _ _ _ _ hJ hk17 w hl
def B_X9_forbiddenOverwriter_4 (N : Nat) (k4 : Hp → (Option Nat) → (Option Nat) → Int32 → Option (Hp × Option Nat)) (t0 : Nat) (h : Hp) (x1 : Option Nat) (x2 : Option Nat) (x3 : Int32) : Option (Hp × Option Nat) := dr h 2 (h.fr 1207 t0) (fun a18 => (J_Jx4a65c_size_8abf5 N a18 h).bind (fun z => B_X9_forbiddenOverwriter_12 N k4 t0 z.1 x1 x2 x3 x3 z.2))
theorem mb_X9_forbiddenOverwriter_4 (N : Nat) (k4 : Hp → (Option Nat) → (Option Nat) → Int32 → Option (Hp × Option Nat)) (t0 : Nat) (h : Hp) (x1 : Option Nat) (x2 : Option Nat) (x3 : Int32) (m4 : ∀ (h : Hp) (x1 : Option Nat) (x2 : Option Nat) (x3 : Int32), k4 h x1 x2 x3 = some (hz, rz) → Mo h hz) (hJ : B_X9_forbiddenOverwriter_4 N k4 t0 h x1 x2 x3 = some (hz, rz)) : Mo h hz := by
  unfold B_X9_forbiddenOverwriter_4 at hJ
  obtain ⟨a18, ea18, -, hJ⟩ := dr_some hJ
  obtain ⟨⟨h19, r20⟩, e21, hJ⟩ := ob_some hJ
  exact (mo_Jx4a65c_size_8abf5 N a18 h e21).tr (mb_X9_forbiddenOverwriter_12 N k4 t0 _ _ _ _ _ _ m4 hJ)
set_option maxRecDepth 100000 in
set_option maxHeartbeats 4000000 in
theorem sb_X9_forbiddenOverwriter_4 (C : Cx p s m args meth c cX9_forbiddenOverwriter 5 (some (.object "RingKeeper$Transaction")) RX9 D cs A h0.se) (hz2 : hz.nx ≤ h0.nx + mc ∧ hz.su ≤ h0.su + ms) (N : Nat) (k4 : Hp → (Option Nat) → (Option Nat) → Int32 → Option (Hp × Option Nat)) (t0 : Nat) (m4 : ∀ (h : Hp) (x1 : Option Nat) (x2 : Option Nat) (x3 : Int32), k4 h x1 x2 x3 = some (hz, rz) → Mo h hz) (i4 : ∀ (h : Hp) (x1 : Option Nat) (x2 : Option Nat) (x3 : Int32) (H : Heap) (locs : List Loc) (cells slots : Nat) (ls : Array Slot), k4 h x1 x2 x3 = some (hz, rz) → h.kd t0 = 12 → Wo D cs A s h0 h H locs cells slots → lv_has ls 5 [(0, .ref t0), (1, va_rf x1), (2, va_rf x2), (3, .int x3)] → W p l e { frames := 3, cells := mc, slots := ms, locals := 90 } s m args below meth c H locs cells slots (MQ below (Zq D cs A hz rz) args s mc ms A) (F0 m 4 ls [])) (h : Hp) (x1 : Option Nat) (x2 : Option Nat) (x3 : Int32) (hJ : B_X9_forbiddenOverwriter_4 N k4 t0 h x1 x2 x3 = some (hz, rz)) (hk0 : h.kd t0 = 12) {H : Heap} {locs : List Loc} {cells slots : Nat} (w : Wo D cs A s h0 h H locs cells slots) {ls : Array Slot} (hl : lv_has ls 5 [(0, .ref t0), (1, va_rf x1), (2, va_rf x2), (3, .int x3)]) : W p l e { frames := 3, cells := mc, slots := ms, locals := 90 } s m args below meth c H locs cells slots (MQ below (Zq D cs A hz rz) args s mc ms A) (F0 m 4 ls []) := by
  obtain ⟨hx, hb, hml, hown, hts, -⟩ := id C
  unfold B_X9_forbiddenOverwriter_4 at hJ
  refine lv_iload_n hx hb dX9_forbiddenOverwriter_4 rfl (lv_at hl 3 rfl) ?_
  refine lv_aload_n hx hb dX9_forbiddenOverwriter_5 rfl (lv_at hl 0 rfl) ?_
  refine fg_1207 C w hk0 tw_1_139 dX9_forbiddenOverwriter_6 ?_
  obtain ⟨a18, ea18, hka18, hJ⟩ := dr_some hJ
  rw [ea18]
  obtain ⟨⟨h19, r20⟩, e21, hJ⟩ := ob_some hJ
  refine jc_Vi (As := []) C w (cc_Jx4a65c_size_8abf5 N a18 h hka18 e21) (mo_Jx4a65c_size_8abf5 N a18 h e21) (mb_X9_forbiddenOverwriter_12 N k4 t0 _ _ _ _ _ _ m4 hJ) hz2 hka18 (by decide) rfl (fs := fs2 h a18) rfl rfl ⟨tw_1_182, tw_1_179, tw_1_180, tw_1_181, tw_1_5⟩ cd_Jx4a65c_size_8abf5 ⟨by decide, by decide⟩ hl.1 (by first | exact Nat.le_of_ble_eq_true rfl | simp [rf_cat, cat_i, cat_l, cat_r]) rfl dX9_forbiddenOverwriter_9 (fun H locs w1 => ?_)
  have hk22 := kd_keep w (mo_Jx4a65c_size_8abf5 N a18 h e21) hk0 (by decide)
  have w := w1
  exact sb_X9_forbiddenOverwriter_12 C hz2 N k4 t0 m4 i4 _ _ _ _ _ _ hJ hk22 w hl
def L_X9_forbiddenOverwriter_4 (N : Nat) (t0 : Nat) : Nat → Hp → (Option Nat) → (Option Nat) → Int32 → Option (Hp × Option Nat)
  | 0 => fun _ _ _ _ => none
  | n + 1 => fun h x1 x2 x3 => B_X9_forbiddenOverwriter_4 N (L_X9_forbiddenOverwriter_4 N t0 n) t0 h x1 x2 x3
theorem ml_X9_forbiddenOverwriter_4 (N : Nat) (t0 : Nat) : ∀ (n : Nat) (h : Hp) (x1 : Option Nat) (x2 : Option Nat) (x3 : Int32), L_X9_forbiddenOverwriter_4 N t0 n h x1 x2 x3 = some (hz, rz) → Mo h hz := by
  intro n
  induction n with
  | zero => intro h x1 x2 x3 hJ; cases hJ
  | succ n ih => intro h x1 x2 x3 hJ; exact mb_X9_forbiddenOverwriter_4 N (L_X9_forbiddenOverwriter_4 N t0 n) t0 h x1 x2 x3 ih hJ
theorem sl_X9_forbiddenOverwriter_4 (C : Cx p s m args meth c cX9_forbiddenOverwriter 5 (some (.object "RingKeeper$Transaction")) RX9 D cs A h0.se) (hz2 : hz.nx ≤ h0.nx + mc ∧ hz.su ≤ h0.su + ms) (N : Nat) (t0 : Nat) : ∀ n : Nat, ∀ (h : Hp) (x1 : Option Nat) (x2 : Option Nat) (x3 : Int32) (H : Heap) (locs : List Loc) (cells slots : Nat) (ls : Array Slot), L_X9_forbiddenOverwriter_4 N t0 n h x1 x2 x3 = some (hz, rz) → h.kd t0 = 12 → Wo D cs A s h0 h H locs cells slots → lv_has ls 5 [(0, .ref t0), (1, va_rf x1), (2, va_rf x2), (3, .int x3)] → W p l e { frames := 3, cells := mc, slots := ms, locals := 90 } s m args below meth c H locs cells slots (MQ below (Zq D cs A hz rz) args s mc ms A) (F0 m 4 ls []) := by
  intro n
  induction n with
  | zero => intro h x1 x2 x3 H locs cells slots ls hJ; cases hJ
  | succ n ih =>
    intro h x1 x2 x3 H locs cells slots ls hJ hk0 w hl
    exact sb_X9_forbiddenOverwriter_4 C hz2 N (L_X9_forbiddenOverwriter_4 N t0 n) t0 (ml_X9_forbiddenOverwriter_4 N t0 n) ih h x1 x2 x3 hJ hk0 w hl
def B_X9_forbiddenOverwriter_0 (N : Nat) (t0 : Nat) (h : Hp) (x1 : Option Nat) : Option (Hp × Option Nat) := L_X9_forbiddenOverwriter_4 N t0 N h x1 none (0 : Int32)
theorem mb_X9_forbiddenOverwriter_0 (N : Nat) (t0 : Nat) (h : Hp) (x1 : Option Nat) (hJ : B_X9_forbiddenOverwriter_0 N t0 h x1 = some (hz, rz)) : Mo h hz := by
  unfold B_X9_forbiddenOverwriter_0 at hJ
  exact ml_X9_forbiddenOverwriter_4 N t0 N _ _ _ _ hJ
set_option maxRecDepth 100000 in
set_option maxHeartbeats 4000000 in
theorem sb_X9_forbiddenOverwriter_0 (C : Cx p s m args meth c cX9_forbiddenOverwriter 5 (some (.object "RingKeeper$Transaction")) RX9 D cs A h0.se) (hz2 : hz.nx ≤ h0.nx + mc ∧ hz.su ≤ h0.su + ms) (N : Nat) (t0 : Nat) (h : Hp) (x1 : Option Nat) (hJ : B_X9_forbiddenOverwriter_0 N t0 h x1 = some (hz, rz)) (hk0 : h.kd t0 = 12) {H : Heap} {locs : List Loc} {cells slots : Nat} (w : Wo D cs A s h0 h H locs cells slots) {ls : Array Slot} (hl : lv_has ls 5 [(0, .ref t0), (1, va_rf x1)]) : W p l e { frames := 3, cells := mc, slots := ms, locals := 90 } s m args below meth c H locs cells slots (MQ below (Zq D cs A hz rz) args s mc ms A) (F0 m 0 ls []) := by
  obtain ⟨hx, hb, hml, hown, hts, -⟩ := id C
  unfold B_X9_forbiddenOverwriter_0 at hJ
  refine lv_null hx hb dX9_forbiddenOverwriter_0 ?_
  change W _ _ _ _ _ _ _ _ _ _ _ _ _ _ _ (F0 m 1 ls [va_rf none])
  refine jv_astore_n (i := 2) (lv' := [(2, va_rf none), (0, .ref t0), (1, va_rf x1)]) hx hb dX9_forbiddenOverwriter_1 rfl hl (by decide) (by simp [List.filter, rf_cat, cat_i, cat_l, cat_r]) (fun ls hl => ?_)
  refine lv_iconst (v := (0 : Int32)) hx hb dX9_forbiddenOverwriter_2 (by decide) ?_
  refine lv_istore_n (i := 3) (lv' := [(3, .int (0 : Int32)), (2, va_rf none), (0, .ref t0), (1, va_rf x1)]) hx hb dX9_forbiddenOverwriter_3 rfl hl (by decide) (by simp [List.filter, rf_cat, cat_i, cat_l, cat_r]) (fun ls hl => ?_)
  exact sl_X9_forbiddenOverwriter_4 C hz2 N t0 N _ _ _ _ _ _ _ _ _ hJ hk0 w (lv_sub (l' := [(0, .ref t0), (1, va_rf x1), (2, va_rf none), (3, .int (0 : Int32))]) hl [2, 3, 1, 0] rfl)
def J_X9_forbiddenOverwriter (N : Nat) (t0 : Nat) (h : Hp) (x1 : Option Nat) : Option (Hp × Option Nat) := B_X9_forbiddenOverwriter_0 N t0 h x1
theorem mo_X9_forbiddenOverwriter (N : Nat) (t0 : Nat) (h : Hp) (x1 : Option Nat) (hJ : J_X9_forbiddenOverwriter N t0 h x1 = some (hz, rz)) : Mo h hz := mb_X9_forbiddenOverwriter_0 N t0 h x1 hJ
theorem cd_X9_forbiddenOverwriter : Cd yX9_forbiddenOverwriter 1 := ⟨by decide +kernel, by decide +kernel, by decide +kernel⟩
theorem cc_X9_forbiddenOverwriter (N : Nat) (t0 : Nat) (h : Hp) (x1 : Option Nat) (hk0 : h.kd t0 = 12) (hJ : J_X9_forbiddenOverwriter N t0 h x1 = some (hz, rz)) : Cq l yX9_forbiddenOverwriter cX9_forbiddenOverwriter 5 (some (.object "RingKeeper$Transaction")) 3 90 D cs h hz [.ref t0, va_rf x1] rz := by
  intro mc ms g1 g2
  refine je_any (by decide) (by simp [lg_sl, rf_cat, cat_i, cat_l, cat_r]) ?_
  intro p e s m args below meth c C hin2 w ls hl
  have hl : lv_has ls 5 [(0, .ref t0), (1, va_rf x1)] := by simpa [lv_args, rf_cat, cat_i, cat_l, cat_r] using hl
  exact sb_X9_forbiddenOverwriter_0 C ⟨g1, g2⟩ N t0 h x1 hJ hk0 w hl
end G_X9_forbiddenOverwriter
section G_X9_gatherOverwriters
variable {p : Program} {l : Launch} {e : Env} {s : State} {m : MethodId} {args : Array Value} {below : List Frame} {meth : Method} {c : Code} {D : va_G} {cs : C4} {A : Nat → Prop} {h0 hz : Hp} {mc ms : Nat}
def B_X9_gatherOverwriters_124 (N : Nat) (t0 : Nat) (h : Hp) : Option (Hp × Unit) := some (h, ())
theorem mb_X9_gatherOverwriters_124 (N : Nat) (t0 : Nat) (h : Hp) (hJ : B_X9_gatherOverwriters_124 N t0 h = some (hz, ())) : Mo h hz := by
  unfold B_X9_gatherOverwriters_124 at hJ
  obtain ⟨rfl, -⟩ := rs2 hJ
  exact ⟨fun _ _ => rfl, Nat.le_refl _, Nat.le_refl _, rfl, fun _ _ => rfl⟩
set_option maxRecDepth 100000 in
set_option maxHeartbeats 4000000 in
theorem sb_X9_gatherOverwriters_124 (C : Cx p s m args meth c cX9_gatherOverwriters 8 none RX9 D cs A h0.se) (hz2 : hz.nx ≤ h0.nx + mc ∧ hz.su ≤ h0.su + ms) (N : Nat) (t0 : Nat) (h : Hp) (hJ : B_X9_gatherOverwriters_124 N t0 h = some (hz, ())) (hk0 : h.kd t0 = 12) {H : Heap} {locs : List Loc} {cells slots : Nat} (w : Wo D cs A s h0 h H locs cells slots) {ls : Array Slot} (hl : lv_has ls 8 [(0, .ref t0)]) : W p l e { frames := 7, cells := mc, slots := ms, locals := 230 } s m args below meth c H locs cells slots (MQ below (Zv D cs A hz) args s mc ms A) (F0 m 124 ls []) := by
  obtain ⟨hx, hb, hml, hown, hts, -⟩ := id C
  unfold B_X9_gatherOverwriters_124 at hJ
  obtain ⟨rfl, -⟩ := rs2 hJ
  exact jr_vret C w hz2 dX9_gatherOverwriters_124
def B_X9_gatherOverwriters_108 (N : Nat) (k18 : Hp → (Option Nat) → Int32 → Int32 → Option (Hp × Unit)) (k65 : Hp → (Option Nat) → Int32 → Int32 → (Option Nat) → Option (Hp × Unit)) (t0 : Nat) (h : Hp) (x1 : Option Nat) (x3 : Int32) (x4 : Int32) (x6 : Option Nat) : Option (Hp × Unit) := dr h 7 x6 (fun a1 => k65 h x1 x3 x4 (h.fr 704 a1))
theorem mb_X9_gatherOverwriters_108 (N : Nat) (k18 : Hp → (Option Nat) → Int32 → Int32 → Option (Hp × Unit)) (k65 : Hp → (Option Nat) → Int32 → Int32 → (Option Nat) → Option (Hp × Unit)) (t0 : Nat) (h : Hp) (x1 : Option Nat) (x3 : Int32) (x4 : Int32) (x6 : Option Nat) (m18 : ∀ (h : Hp) (x1 : Option Nat) (x3 : Int32) (x4 : Int32), k18 h x1 x3 x4 = some (hz, ()) → Mo h hz) (m65 : ∀ (h : Hp) (x1 : Option Nat) (x3 : Int32) (x4 : Int32) (x6 : Option Nat), k65 h x1 x3 x4 x6 = some (hz, ()) → Mo h hz) (hJ : B_X9_gatherOverwriters_108 N k18 k65 t0 h x1 x3 x4 x6 = some (hz, ())) : Mo h hz := by
  unfold B_X9_gatherOverwriters_108 at hJ
  obtain ⟨a1, ea1, -, hJ⟩ := dr_some hJ
  exact m65 _ _ _ _ _ hJ
set_option maxRecDepth 100000 in
set_option maxHeartbeats 4000000 in
theorem sb_X9_gatherOverwriters_108 (C : Cx p s m args meth c cX9_gatherOverwriters 8 none RX9 D cs A h0.se) (hz2 : hz.nx ≤ h0.nx + mc ∧ hz.su ≤ h0.su + ms) (N : Nat) (k18 : Hp → (Option Nat) → Int32 → Int32 → Option (Hp × Unit)) (k65 : Hp → (Option Nat) → Int32 → Int32 → (Option Nat) → Option (Hp × Unit)) (t0 : Nat) (m18 : ∀ (h : Hp) (x1 : Option Nat) (x3 : Int32) (x4 : Int32), k18 h x1 x3 x4 = some (hz, ()) → Mo h hz) (m65 : ∀ (h : Hp) (x1 : Option Nat) (x3 : Int32) (x4 : Int32) (x6 : Option Nat), k65 h x1 x3 x4 x6 = some (hz, ()) → Mo h hz) (i18 : ∀ (h : Hp) (x1 : Option Nat) (x3 : Int32) (x4 : Int32) (H : Heap) (locs : List Loc) (cells slots : Nat) (ls : Array Slot), k18 h x1 x3 x4 = some (hz, ()) → h.kd t0 = 12 → Wo D cs A s h0 h H locs cells slots → lv_has ls 8 [(0, .ref t0), (1, va_rf x1), (3, .int x3), (4, .int x4)] → W p l e { frames := 7, cells := mc, slots := ms, locals := 230 } s m args below meth c H locs cells slots (MQ below (Zv D cs A hz) args s mc ms A) (F0 m 18 ls [])) (i65 : ∀ (h : Hp) (x1 : Option Nat) (x3 : Int32) (x4 : Int32) (x6 : Option Nat) (H : Heap) (locs : List Loc) (cells slots : Nat) (ls : Array Slot), k65 h x1 x3 x4 x6 = some (hz, ()) → h.kd t0 = 12 → Wo D cs A s h0 h H locs cells slots → lv_has ls 8 [(0, .ref t0), (1, va_rf x1), (3, .int x3), (4, .int x4), (6, va_rf x6)] → W p l e { frames := 7, cells := mc, slots := ms, locals := 230 } s m args below meth c H locs cells slots (MQ below (Zv D cs A hz) args s mc ms A) (F0 m 65 ls [])) (h : Hp) (x1 : Option Nat) (x3 : Int32) (x4 : Int32) (x6 : Option Nat) (hJ : B_X9_gatherOverwriters_108 N k18 k65 t0 h x1 x3 x4 x6 = some (hz, ())) (hk0 : h.kd t0 = 12) {H : Heap} {locs : List Loc} {cells slots : Nat} (w : Wo D cs A s h0 h H locs cells slots) {ls : Array Slot} (hl : lv_has ls 8 [(0, .ref t0), (1, va_rf x1), (3, .int x3), (4, .int x4), (6, va_rf x6)]) : W p l e { frames := 7, cells := mc, slots := ms, locals := 230 } s m args below meth c H locs cells slots (MQ below (Zv D cs A hz) args s mc ms A) (F0 m 108 ls []) := by
  obtain ⟨hx, hb, hml, hown, hts, -⟩ := id C
  unfold B_X9_gatherOverwriters_108 at hJ
  refine jv_aload hx hb dX9_gatherOverwriters_108 (lv_at hl 4 rfl) ?_
  obtain ⟨a1, ea1, hka1, hJ⟩ := dr_some hJ
  rw [ea1] at hl
  rw [ea1]
  refine fg_704 C w hka1 tw_5_32 dX9_gatherOverwriters_110 ?_
  refine jv_astore (i := 6) (lv' := [(6, va_rf (h.fr 704 a1)), (0, .ref t0), (1, va_rf x1), (3, .int x3), (4, .int x4)]) hx hb dX9_gatherOverwriters_113 hl (by decide) rfl (fun ls hl => ?_)
  refine lv_goto (tgt := 65) hx hb dX9_gatherOverwriters_115 (by decide) ?_
  exact i65 _ _ _ _ _ _ _ _ _ _ hJ hk0 w (lv_sub (l' := [(0, .ref t0), (1, va_rf x1), (3, .int x3), (4, .int x4), (6, va_rf (h.fr 704 a1))]) hl [1, 2, 3, 4, 0] rfl)
def B_X9_gatherOverwriters_107 (N : Nat) (k18 : Hp → (Option Nat) → Int32 → Int32 → Option (Hp × Unit)) (k65 : Hp → (Option Nat) → Int32 → Int32 → (Option Nat) → Option (Hp × Unit)) (t0 : Nat) (h : Hp) (x1 : Option Nat) (x3 : Int32) (x4 : Int32) (x6 : Option Nat) (y0 : Int32) : Option (Hp × Unit) := B_X9_gatherOverwriters_108 N k18 k65 t0 h x1 x3 x4 x6
theorem mb_X9_gatherOverwriters_107 (N : Nat) (k18 : Hp → (Option Nat) → Int32 → Int32 → Option (Hp × Unit)) (k65 : Hp → (Option Nat) → Int32 → Int32 → (Option Nat) → Option (Hp × Unit)) (t0 : Nat) (h : Hp) (x1 : Option Nat) (x3 : Int32) (x4 : Int32) (x6 : Option Nat) (y0 : Int32) (m18 : ∀ (h : Hp) (x1 : Option Nat) (x3 : Int32) (x4 : Int32), k18 h x1 x3 x4 = some (hz, ()) → Mo h hz) (m65 : ∀ (h : Hp) (x1 : Option Nat) (x3 : Int32) (x4 : Int32) (x6 : Option Nat), k65 h x1 x3 x4 x6 = some (hz, ()) → Mo h hz) (hJ : B_X9_gatherOverwriters_107 N k18 k65 t0 h x1 x3 x4 x6 y0 = some (hz, ())) : Mo h hz := by
  unfold B_X9_gatherOverwriters_107 at hJ
  exact mb_X9_gatherOverwriters_108 N k18 k65 t0 _ _ _ _ _ m18 m65 hJ
set_option maxRecDepth 100000 in
set_option maxHeartbeats 4000000 in
theorem sb_X9_gatherOverwriters_107 (C : Cx p s m args meth c cX9_gatherOverwriters 8 none RX9 D cs A h0.se) (hz2 : hz.nx ≤ h0.nx + mc ∧ hz.su ≤ h0.su + ms) (N : Nat) (k18 : Hp → (Option Nat) → Int32 → Int32 → Option (Hp × Unit)) (k65 : Hp → (Option Nat) → Int32 → Int32 → (Option Nat) → Option (Hp × Unit)) (t0 : Nat) (m18 : ∀ (h : Hp) (x1 : Option Nat) (x3 : Int32) (x4 : Int32), k18 h x1 x3 x4 = some (hz, ()) → Mo h hz) (m65 : ∀ (h : Hp) (x1 : Option Nat) (x3 : Int32) (x4 : Int32) (x6 : Option Nat), k65 h x1 x3 x4 x6 = some (hz, ()) → Mo h hz) (i18 : ∀ (h : Hp) (x1 : Option Nat) (x3 : Int32) (x4 : Int32) (H : Heap) (locs : List Loc) (cells slots : Nat) (ls : Array Slot), k18 h x1 x3 x4 = some (hz, ()) → h.kd t0 = 12 → Wo D cs A s h0 h H locs cells slots → lv_has ls 8 [(0, .ref t0), (1, va_rf x1), (3, .int x3), (4, .int x4)] → W p l e { frames := 7, cells := mc, slots := ms, locals := 230 } s m args below meth c H locs cells slots (MQ below (Zv D cs A hz) args s mc ms A) (F0 m 18 ls [])) (i65 : ∀ (h : Hp) (x1 : Option Nat) (x3 : Int32) (x4 : Int32) (x6 : Option Nat) (H : Heap) (locs : List Loc) (cells slots : Nat) (ls : Array Slot), k65 h x1 x3 x4 x6 = some (hz, ()) → h.kd t0 = 12 → Wo D cs A s h0 h H locs cells slots → lv_has ls 8 [(0, .ref t0), (1, va_rf x1), (3, .int x3), (4, .int x4), (6, va_rf x6)] → W p l e { frames := 7, cells := mc, slots := ms, locals := 230 } s m args below meth c H locs cells slots (MQ below (Zv D cs A hz) args s mc ms A) (F0 m 65 ls [])) (h : Hp) (x1 : Option Nat) (x3 : Int32) (x4 : Int32) (x6 : Option Nat) (y0 : Int32) (hJ : B_X9_gatherOverwriters_107 N k18 k65 t0 h x1 x3 x4 x6 y0 = some (hz, ())) (hk0 : h.kd t0 = 12) {H : Heap} {locs : List Loc} {cells slots : Nat} (w : Wo D cs A s h0 h H locs cells slots) {ls : Array Slot} (hl : lv_has ls 8 [(0, .ref t0), (1, va_rf x1), (3, .int x3), (4, .int x4), (6, va_rf x6)]) : W p l e { frames := 7, cells := mc, slots := ms, locals := 230 } s m args below meth c H locs cells slots (MQ below (Zv D cs A hz) args s mc ms A) (F0 m 107 ls [.int y0]) := by
  obtain ⟨hx, hb, hml, hown, hts, -⟩ := id C
  unfold B_X9_gatherOverwriters_107 at hJ
  refine lv_pop hx hb dX9_gatherOverwriters_107 rfl ?_
  exact sb_X9_gatherOverwriters_108 C hz2 N k18 k65 t0 m18 m65 i18 i65 _ _ _ _ _ hJ hk0 w hl
def B_X9_gatherOverwriters_91 (N : Nat) (k18 : Hp → (Option Nat) → Int32 → Int32 → Option (Hp × Unit)) (k65 : Hp → (Option Nat) → Int32 → Int32 → (Option Nat) → Option (Hp × Unit)) (t0 : Nat) (h : Hp) (x1 : Option Nat) (x3 : Int32) (x4 : Int32) (x6 : Option Nat) (y0 : Option Nat) : Option (Hp × Unit) := nl y0 (B_X9_gatherOverwriters_108 N k18 k65 t0 h x1 x3 x4 x6) (fun a2 => dr h 2 (h.fr 1207 t0) (fun a3 => (J_Jx4a65c_add_9ea2d N a3 h (some a2)).bind (fun z => B_X9_gatherOverwriters_107 N k18 k65 t0 z.1 x1 x3 x4 x6 z.2)))
theorem mb_X9_gatherOverwriters_91 (N : Nat) (k18 : Hp → (Option Nat) → Int32 → Int32 → Option (Hp × Unit)) (k65 : Hp → (Option Nat) → Int32 → Int32 → (Option Nat) → Option (Hp × Unit)) (t0 : Nat) (h : Hp) (x1 : Option Nat) (x3 : Int32) (x4 : Int32) (x6 : Option Nat) (y0 : Option Nat) (m18 : ∀ (h : Hp) (x1 : Option Nat) (x3 : Int32) (x4 : Int32), k18 h x1 x3 x4 = some (hz, ()) → Mo h hz) (m65 : ∀ (h : Hp) (x1 : Option Nat) (x3 : Int32) (x4 : Int32) (x6 : Option Nat), k65 h x1 x3 x4 x6 = some (hz, ()) → Mo h hz) (hJ : B_X9_gatherOverwriters_91 N k18 k65 t0 h x1 x3 x4 x6 y0 = some (hz, ())) : Mo h hz := by
  unfold B_X9_gatherOverwriters_91 at hJ
  cases ea2 : y0 with
  | none =>
    have hJ := nl_none ea2 hJ
    exact mb_X9_gatherOverwriters_108 N k18 k65 t0 _ _ _ _ _ m18 m65 hJ
  | some a2 =>
    have hJ := nl_some ea2 hJ
    obtain ⟨a3, ea3, -, hJ⟩ := dr_some hJ
    obtain ⟨⟨h4, r5⟩, e6, hJ⟩ := ob_some hJ
    exact (mo_Jx4a65c_add_9ea2d N a3 h (some a2) e6).tr (mb_X9_gatherOverwriters_107 N k18 k65 t0 _ _ _ _ _ _ m18 m65 hJ)
set_option maxRecDepth 100000 in
set_option maxHeartbeats 4000000 in
theorem sb_X9_gatherOverwriters_91 (C : Cx p s m args meth c cX9_gatherOverwriters 8 none RX9 D cs A h0.se) (hz2 : hz.nx ≤ h0.nx + mc ∧ hz.su ≤ h0.su + ms) (N : Nat) (k18 : Hp → (Option Nat) → Int32 → Int32 → Option (Hp × Unit)) (k65 : Hp → (Option Nat) → Int32 → Int32 → (Option Nat) → Option (Hp × Unit)) (t0 : Nat) (m18 : ∀ (h : Hp) (x1 : Option Nat) (x3 : Int32) (x4 : Int32), k18 h x1 x3 x4 = some (hz, ()) → Mo h hz) (m65 : ∀ (h : Hp) (x1 : Option Nat) (x3 : Int32) (x4 : Int32) (x6 : Option Nat), k65 h x1 x3 x4 x6 = some (hz, ()) → Mo h hz) (i18 : ∀ (h : Hp) (x1 : Option Nat) (x3 : Int32) (x4 : Int32) (H : Heap) (locs : List Loc) (cells slots : Nat) (ls : Array Slot), k18 h x1 x3 x4 = some (hz, ()) → h.kd t0 = 12 → Wo D cs A s h0 h H locs cells slots → lv_has ls 8 [(0, .ref t0), (1, va_rf x1), (3, .int x3), (4, .int x4)] → W p l e { frames := 7, cells := mc, slots := ms, locals := 230 } s m args below meth c H locs cells slots (MQ below (Zv D cs A hz) args s mc ms A) (F0 m 18 ls [])) (i65 : ∀ (h : Hp) (x1 : Option Nat) (x3 : Int32) (x4 : Int32) (x6 : Option Nat) (H : Heap) (locs : List Loc) (cells slots : Nat) (ls : Array Slot), k65 h x1 x3 x4 x6 = some (hz, ()) → h.kd t0 = 12 → Wo D cs A s h0 h H locs cells slots → lv_has ls 8 [(0, .ref t0), (1, va_rf x1), (3, .int x3), (4, .int x4), (6, va_rf x6)] → W p l e { frames := 7, cells := mc, slots := ms, locals := 230 } s m args below meth c H locs cells slots (MQ below (Zv D cs A hz) args s mc ms A) (F0 m 65 ls [])) (h : Hp) (x1 : Option Nat) (x3 : Int32) (x4 : Int32) (x6 : Option Nat) (y0 : Option Nat) (hJ : B_X9_gatherOverwriters_91 N k18 k65 t0 h x1 x3 x4 x6 y0 = some (hz, ())) (hk0 : h.kd t0 = 12) {H : Heap} {locs : List Loc} {cells slots : Nat} (w : Wo D cs A s h0 h H locs cells slots) {ls : Array Slot} (hl : lv_has ls 8 [(0, .ref t0), (1, va_rf x1), (3, .int x3), (4, .int x4), (6, va_rf x6)]) : W p l e { frames := 7, cells := mc, slots := ms, locals := 230 } s m args below meth c H locs cells slots (MQ below (Zv D cs A hz) args s mc ms A) (F0 m 91 ls [va_rf y0]) := by
  obtain ⟨hx, hb, hml, hown, hts, -⟩ := id C
  unfold B_X9_gatherOverwriters_91 at hJ
  refine jv_astore (i := 7) (lv' := [(7, va_rf y0), (0, .ref t0), (1, va_rf x1), (3, .int x3), (4, .int x4), (6, va_rf x6)]) hx hb dX9_gatherOverwriters_91 hl (by decide) (by simp [List.filter, rf_cat, cat_i, cat_l, cat_r]) (fun ls hl => ?_)
  refine jv_aload hx hb dX9_gatherOverwriters_93 (lv_at hl 0 rfl) ?_
  refine jv_ifnull (tgt := 108) hx hb dX9_gatherOverwriters_95 (by decide) (fun ea2 => ?_) (fun a2 ea2 => ?_)
  · have hJ := nl_none ea2 hJ
    exact sb_X9_gatherOverwriters_108 C hz2 N k18 k65 t0 m18 m65 i18 i65 _ _ _ _ _ hJ hk0 w (lv_sub (l' := [(0, .ref t0), (1, va_rf x1), (3, .int x3), (4, .int x4), (6, va_rf x6)]) hl [1, 2, 3, 4, 5] rfl)
  · have hJ := nl_some ea2 hJ
    rw [ea2] at hl
    refine lv_aload_n hx hb dX9_gatherOverwriters_98 rfl (lv_at hl 1 rfl) ?_
    refine fg_1207 C w hk0 tw_1_139 dX9_gatherOverwriters_99 ?_
    refine lv_aload hx hb dX9_gatherOverwriters_102 (lv_at hl 0 rfl) ?_
    obtain ⟨a3, ea3, hka3, hJ⟩ := dr_some hJ
    rw [ea3]
    obtain ⟨⟨h4, r5⟩, e6, hJ⟩ := ob_some hJ
    refine jc_Vi (As := [.ref a2]) C w (cc_Jx4a65c_add_9ea2d N a3 h (some a2) hka3 e6) (mo_Jx4a65c_add_9ea2d N a3 h (some a2) e6) (mb_X9_gatherOverwriters_107 N k18 k65 t0 _ _ _ _ _ _ m18 m65 hJ) hz2 hka3 (by decide) rfl (fs := fs2 h a3) rfl rfl ⟨tw_2_87, tw_2_84, tw_2_85, tw_2_86, tw_1_5⟩ cd_Jx4a65c_add_9ea2d ⟨by decide, by decide⟩ hl.1 (by first | exact Nat.le_of_ble_eq_true rfl | simp [rf_cat, cat_i, cat_l, cat_r]) rfl dX9_gatherOverwriters_104 (fun H locs w1 => ?_)
    have hk7 := kd_keep w (mo_Jx4a65c_add_9ea2d N a3 h (some a2) e6) hk0 (by decide)
    have w := w1
    exact sb_X9_gatherOverwriters_107 C hz2 N k18 k65 t0 m18 m65 i18 i65 _ _ _ _ _ _ hJ hk7 w (lv_sub (l' := [(0, .ref t0), (1, va_rf x1), (3, .int x3), (4, .int x4), (6, va_rf x6)]) hl [1, 2, 3, 4, 5] rfl)
def B_X9_gatherOverwriters_118 (N : Nat) (k18 : Hp → (Option Nat) → Int32 → Int32 → Option (Hp × Unit)) (t0 : Nat) (h : Hp) (x1 : Option Nat) (x3 : Int32) (x4 : Int32) : Option (Hp × Unit) := k18 h x1 x3 (x4 + (1 : Int32))
theorem mb_X9_gatherOverwriters_118 (N : Nat) (k18 : Hp → (Option Nat) → Int32 → Int32 → Option (Hp × Unit)) (t0 : Nat) (h : Hp) (x1 : Option Nat) (x3 : Int32) (x4 : Int32) (m18 : ∀ (h : Hp) (x1 : Option Nat) (x3 : Int32) (x4 : Int32), k18 h x1 x3 x4 = some (hz, ()) → Mo h hz) (hJ : B_X9_gatherOverwriters_118 N k18 t0 h x1 x3 x4 = some (hz, ())) : Mo h hz := by
  unfold B_X9_gatherOverwriters_118 at hJ
  exact m18 _ _ _ _ hJ
set_option maxRecDepth 100000 in
set_option maxHeartbeats 4000000 in
theorem sb_X9_gatherOverwriters_118 (C : Cx p s m args meth c cX9_gatherOverwriters 8 none RX9 D cs A h0.se) (hz2 : hz.nx ≤ h0.nx + mc ∧ hz.su ≤ h0.su + ms) (N : Nat) (k18 : Hp → (Option Nat) → Int32 → Int32 → Option (Hp × Unit)) (t0 : Nat) (m18 : ∀ (h : Hp) (x1 : Option Nat) (x3 : Int32) (x4 : Int32), k18 h x1 x3 x4 = some (hz, ()) → Mo h hz) (i18 : ∀ (h : Hp) (x1 : Option Nat) (x3 : Int32) (x4 : Int32) (H : Heap) (locs : List Loc) (cells slots : Nat) (ls : Array Slot), k18 h x1 x3 x4 = some (hz, ()) → h.kd t0 = 12 → Wo D cs A s h0 h H locs cells slots → lv_has ls 8 [(0, .ref t0), (1, va_rf x1), (3, .int x3), (4, .int x4)] → W p l e { frames := 7, cells := mc, slots := ms, locals := 230 } s m args below meth c H locs cells slots (MQ below (Zv D cs A hz) args s mc ms A) (F0 m 18 ls [])) (h : Hp) (x1 : Option Nat) (x3 : Int32) (x4 : Int32) (hJ : B_X9_gatherOverwriters_118 N k18 t0 h x1 x3 x4 = some (hz, ())) (hk0 : h.kd t0 = 12) {H : Heap} {locs : List Loc} {cells slots : Nat} (w : Wo D cs A s h0 h H locs cells slots) {ls : Array Slot} (hl : lv_has ls 8 [(0, .ref t0), (1, va_rf x1), (3, .int x3), (4, .int x4)]) : W p l e { frames := 7, cells := mc, slots := ms, locals := 230 } s m args below meth c H locs cells slots (MQ below (Zv D cs A hz) args s mc ms A) (F0 m 118 ls []) := by
  obtain ⟨hx, hb, hml, hown, hts, -⟩ := id C
  unfold B_X9_gatherOverwriters_118 at hJ
  refine lv_iinc (v := x4 + (1 : Int32)) (lv' := [(4, .int (x4 + (1 : Int32))), (0, .ref t0), (1, va_rf x1), (3, .int x3)]) hx hb dX9_gatherOverwriters_118 hl (k := 3) rfl rfl (by decide) rfl (fun ls hl => ?_)
  refine lv_goto (tgt := 18) hx hb dX9_gatherOverwriters_121 (by decide) ?_
  exact i18 _ _ _ _ _ _ _ _ _ hJ hk0 w (lv_sub (l' := [(0, .ref t0), (1, va_rf x1), (3, .int x3), (4, .int (x4 + (1 : Int32)))]) hl [1, 2, 3, 0] rfl)
def B_X9_gatherOverwriters_65 (N : Nat) (k18 : Hp → (Option Nat) → Int32 → Int32 → Option (Hp × Unit)) (k65 : Hp → (Option Nat) → Int32 → Int32 → (Option Nat) → Option (Hp × Unit)) (t0 : Nat) (h : Hp) (x1 : Option Nat) (x3 : Int32) (x4 : Int32) (x6 : Option Nat) : Option (Hp × Unit) := nl x6 (B_X9_gatherOverwriters_118 N k18 t0 h x1 x3 x4) (fun a8 => ck (h.kd a8 = 7) (dr h 10 x1 (fun a10 => if (h.fi 700 a8) ≤ (h.fi 1001 a10) then (B_X9_gatherOverwriters_118 N k18 t0 h (some a10) x3 x4) else ((J_X9_withMoment N t0 h (h.fi 700 a8)).bind (fun z => B_X9_gatherOverwriters_91 N k18 k65 t0 z.1 (some a10) x3 x4 (some a8) z.2)))))
theorem mb_X9_gatherOverwriters_65 (N : Nat) (k18 : Hp → (Option Nat) → Int32 → Int32 → Option (Hp × Unit)) (k65 : Hp → (Option Nat) → Int32 → Int32 → (Option Nat) → Option (Hp × Unit)) (t0 : Nat) (h : Hp) (x1 : Option Nat) (x3 : Int32) (x4 : Int32) (x6 : Option Nat) (m18 : ∀ (h : Hp) (x1 : Option Nat) (x3 : Int32) (x4 : Int32), k18 h x1 x3 x4 = some (hz, ()) → Mo h hz) (m65 : ∀ (h : Hp) (x1 : Option Nat) (x3 : Int32) (x4 : Int32) (x6 : Option Nat), k65 h x1 x3 x4 x6 = some (hz, ()) → Mo h hz) (hJ : B_X9_gatherOverwriters_65 N k18 k65 t0 h x1 x3 x4 x6 = some (hz, ())) : Mo h hz := by
  unfold B_X9_gatherOverwriters_65 at hJ
  cases ea8 : x6 with
  | none =>
    have hJ := nl_none ea8 hJ
    exact mb_X9_gatherOverwriters_118 N k18 t0 _ _ _ _ m18 hJ
  | some a8 =>
    have hJ := nl_some ea8 hJ
    obtain ⟨-, hJ⟩ := ck_some hJ
    obtain ⟨a10, ea10, -, hJ⟩ := dr_some hJ
    by_cases c11 : (h.fi 700 a8) ≤ (h.fi 1001 a10)
    · have hJ := it_pos c11 hJ
      exact mb_X9_gatherOverwriters_118 N k18 t0 _ _ _ _ m18 hJ
    · have hJ := it_neg c11 hJ
      obtain ⟨⟨h12, r13⟩, e14, hJ⟩ := ob_some hJ
      exact (mo_X9_withMoment N t0 h (h.fi 700 a8) e14).tr (mb_X9_gatherOverwriters_91 N k18 k65 t0 _ _ _ _ _ _ m18 m65 hJ)
set_option maxRecDepth 100000 in
set_option maxHeartbeats 4000000 in
theorem sb_X9_gatherOverwriters_65 (C : Cx p s m args meth c cX9_gatherOverwriters 8 none RX9 D cs A h0.se) (hz2 : hz.nx ≤ h0.nx + mc ∧ hz.su ≤ h0.su + ms) (N : Nat) (k18 : Hp → (Option Nat) → Int32 → Int32 → Option (Hp × Unit)) (k65 : Hp → (Option Nat) → Int32 → Int32 → (Option Nat) → Option (Hp × Unit)) (t0 : Nat) (m18 : ∀ (h : Hp) (x1 : Option Nat) (x3 : Int32) (x4 : Int32), k18 h x1 x3 x4 = some (hz, ()) → Mo h hz) (m65 : ∀ (h : Hp) (x1 : Option Nat) (x3 : Int32) (x4 : Int32) (x6 : Option Nat), k65 h x1 x3 x4 x6 = some (hz, ()) → Mo h hz) (i18 : ∀ (h : Hp) (x1 : Option Nat) (x3 : Int32) (x4 : Int32) (H : Heap) (locs : List Loc) (cells slots : Nat) (ls : Array Slot), k18 h x1 x3 x4 = some (hz, ()) → h.kd t0 = 12 → Wo D cs A s h0 h H locs cells slots → lv_has ls 8 [(0, .ref t0), (1, va_rf x1), (3, .int x3), (4, .int x4)] → W p l e { frames := 7, cells := mc, slots := ms, locals := 230 } s m args below meth c H locs cells slots (MQ below (Zv D cs A hz) args s mc ms A) (F0 m 18 ls [])) (i65 : ∀ (h : Hp) (x1 : Option Nat) (x3 : Int32) (x4 : Int32) (x6 : Option Nat) (H : Heap) (locs : List Loc) (cells slots : Nat) (ls : Array Slot), k65 h x1 x3 x4 x6 = some (hz, ()) → h.kd t0 = 12 → Wo D cs A s h0 h H locs cells slots → lv_has ls 8 [(0, .ref t0), (1, va_rf x1), (3, .int x3), (4, .int x4), (6, va_rf x6)] → W p l e { frames := 7, cells := mc, slots := ms, locals := 230 } s m args below meth c H locs cells slots (MQ below (Zv D cs A hz) args s mc ms A) (F0 m 65 ls [])) (h : Hp) (x1 : Option Nat) (x3 : Int32) (x4 : Int32) (x6 : Option Nat) (hJ : B_X9_gatherOverwriters_65 N k18 k65 t0 h x1 x3 x4 x6 = some (hz, ())) (hk0 : h.kd t0 = 12) {H : Heap} {locs : List Loc} {cells slots : Nat} (w : Wo D cs A s h0 h H locs cells slots) {ls : Array Slot} (hl : lv_has ls 8 [(0, .ref t0), (1, va_rf x1), (3, .int x3), (4, .int x4), (6, va_rf x6)]) : W p l e { frames := 7, cells := mc, slots := ms, locals := 230 } s m args below meth c H locs cells slots (MQ below (Zv D cs A hz) args s mc ms A) (F0 m 65 ls []) := by
  obtain ⟨hx, hb, hml, hown, hts, -⟩ := id C
  unfold B_X9_gatherOverwriters_65 at hJ
  refine jv_aload hx hb dX9_gatherOverwriters_65 (lv_at hl 4 rfl) ?_
  refine jv_ifnull (tgt := 118) hx hb dX9_gatherOverwriters_67 (by decide) (fun ea8 => ?_) (fun a8 ea8 => ?_)
  · have hJ := nl_none ea8 hJ
    exact sb_X9_gatherOverwriters_118 C hz2 N k18 t0 m18 i18 _ _ _ _ hJ hk0 w (lv_sub (l' := [(0, .ref t0), (1, va_rf x1), (3, .int x3), (4, .int x4)]) hl [0, 1, 2, 3] rfl)
  · have hJ := nl_some ea8 hJ
    rw [ea8] at hl
    refine lv_aload hx hb dX9_gatherOverwriters_70 (lv_at hl 4 rfl) ?_
    obtain ⟨hk9, hJ⟩ := ck_some hJ
    refine fg_700 C w hk9 tw_5_17 dX9_gatherOverwriters_72 ?_
    refine jv_aload_n hx hb dX9_gatherOverwriters_75 rfl (lv_at hl 1 rfl) ?_
    obtain ⟨a10, ea10, hka10, hJ⟩ := dr_some hJ
    rw [ea10] at hl
    rw [ea10]
    refine fg_1001 C w hka10 tw_2_14 dX9_gatherOverwriters_76 ?_
    refine lv_icmp_le (tgt := 118) hx hb dX9_gatherOverwriters_79 (by decide) (fun c11 => ?_) (fun c11 => ?_)
    · have hJ := it_pos c11 hJ
      exact sb_X9_gatherOverwriters_118 C hz2 N k18 t0 m18 i18 _ _ _ _ hJ hk0 w (lv_sub (l' := [(0, .ref t0), (1, .ref a10), (3, .int x3), (4, .int x4)]) hl [0, 1, 2, 3] rfl)
    · have hJ := it_neg c11 hJ
      refine lv_aload_n hx hb dX9_gatherOverwriters_82 rfl (lv_at hl 0 rfl) ?_
      refine lv_aload hx hb dX9_gatherOverwriters_83 (lv_at hl 4 rfl) ?_
      refine fg_700 C w hk9 tw_5_17 dX9_gatherOverwriters_85 ?_
      obtain ⟨⟨h12, r13⟩, e14, hJ⟩ := ob_some hJ
      refine jc_Vq (As := [.int (h.fi 700 a8)]) C w (cc_X9_withMoment N t0 h (h.fi 700 a8) hk0 e14) (mo_X9_withMoment N t0 h (h.fi 700 a8) e14) (mb_X9_gatherOverwriters_91 N k18 k65 t0 _ _ _ _ _ _ m18 m65 hJ) hz2 hk0 (by decide) rfl (fs := fs12 h t0) rfl rfl ⟨tw_2_232, tw_2_229, tw_2_231, ts_10, tw_1_1⟩ cd_X9_withMoment ⟨by decide, by decide⟩ hl.1 (by first | exact Nat.le_of_ble_eq_true rfl | simp [rf_cat, cat_i, cat_l, cat_r]) rfl dX9_gatherOverwriters_88 (fun H locs w1 => ?_)
      have hk15 := kd_keep w (mo_X9_withMoment N t0 h (h.fi 700 a8) e14) hk0 (by decide)
      have w := w1
      exact sb_X9_gatherOverwriters_91 C hz2 N k18 k65 t0 m18 m65 i18 i65 _ _ _ _ _ _ hJ hk15 w hl
def L_X9_gatherOverwriters_65 (N : Nat) (k18 : Hp → (Option Nat) → Int32 → Int32 → Option (Hp × Unit)) (t0 : Nat) : Nat → Hp → (Option Nat) → Int32 → Int32 → (Option Nat) → Option (Hp × Unit)
  | 0 => fun _ _ _ _ _ => none
  | n + 1 => fun h x1 x3 x4 x6 => B_X9_gatherOverwriters_65 N k18 (L_X9_gatherOverwriters_65 N k18 t0 n) t0 h x1 x3 x4 x6
theorem ml_X9_gatherOverwriters_65 (N : Nat) (k18 : Hp → (Option Nat) → Int32 → Int32 → Option (Hp × Unit)) (t0 : Nat) (m18 : ∀ (h : Hp) (x1 : Option Nat) (x3 : Int32) (x4 : Int32), k18 h x1 x3 x4 = some (hz, ()) → Mo h hz) : ∀ (n : Nat) (h : Hp) (x1 : Option Nat) (x3 : Int32) (x4 : Int32) (x6 : Option Nat), L_X9_gatherOverwriters_65 N k18 t0 n h x1 x3 x4 x6 = some (hz, ()) → Mo h hz := by
  intro n
  induction n with
  | zero => intro h x1 x3 x4 x6 hJ; cases hJ
  | succ n ih => intro h x1 x3 x4 x6 hJ; exact mb_X9_gatherOverwriters_65 N k18 (L_X9_gatherOverwriters_65 N k18 t0 n) t0 h x1 x3 x4 x6 m18 ih hJ
theorem sl_X9_gatherOverwriters_65 (C : Cx p s m args meth c cX9_gatherOverwriters 8 none RX9 D cs A h0.se) (hz2 : hz.nx ≤ h0.nx + mc ∧ hz.su ≤ h0.su + ms) (N : Nat) (k18 : Hp → (Option Nat) → Int32 → Int32 → Option (Hp × Unit)) (t0 : Nat) (m18 : ∀ (h : Hp) (x1 : Option Nat) (x3 : Int32) (x4 : Int32), k18 h x1 x3 x4 = some (hz, ()) → Mo h hz) (i18 : ∀ (h : Hp) (x1 : Option Nat) (x3 : Int32) (x4 : Int32) (H : Heap) (locs : List Loc) (cells slots : Nat) (ls : Array Slot), k18 h x1 x3 x4 = some (hz, ()) → h.kd t0 = 12 → Wo D cs A s h0 h H locs cells slots → lv_has ls 8 [(0, .ref t0), (1, va_rf x1), (3, .int x3), (4, .int x4)] → W p l e { frames := 7, cells := mc, slots := ms, locals := 230 } s m args below meth c H locs cells slots (MQ below (Zv D cs A hz) args s mc ms A) (F0 m 18 ls [])) : ∀ n : Nat, ∀ (h : Hp) (x1 : Option Nat) (x3 : Int32) (x4 : Int32) (x6 : Option Nat) (H : Heap) (locs : List Loc) (cells slots : Nat) (ls : Array Slot), L_X9_gatherOverwriters_65 N k18 t0 n h x1 x3 x4 x6 = some (hz, ()) → h.kd t0 = 12 → Wo D cs A s h0 h H locs cells slots → lv_has ls 8 [(0, .ref t0), (1, va_rf x1), (3, .int x3), (4, .int x4), (6, va_rf x6)] → W p l e { frames := 7, cells := mc, slots := ms, locals := 230 } s m args below meth c H locs cells slots (MQ below (Zv D cs A hz) args s mc ms A) (F0 m 65 ls []) := by
  intro n
  induction n with
  | zero => intro h x1 x3 x4 x6 H locs cells slots ls hJ; cases hJ
  | succ n ih =>
    intro h x1 x3 x4 x6 H locs cells slots ls hJ hk0 w hl
    exact sb_X9_gatherOverwriters_65 C hz2 N k18 (L_X9_gatherOverwriters_65 N k18 t0 n) t0 m18 (ml_X9_gatherOverwriters_65 N k18 t0 m18 n) i18 ih h x1 x3 x4 x6 hJ hk0 w hl
def B_X9_gatherOverwriters_39 (N : Nat) (k18 : Hp → (Option Nat) → Int32 → Int32 → Option (Hp × Unit)) (t0 : Nat) (h : Hp) (x1 : Option Nat) (x3 : Int32) (x4 : Int32) (y0 : Option Nat) : Option (Hp × Unit) := nl y0 (B_X9_gatherOverwriters_124 N t0 h) (fun a16 => ck (h.kd a16 = 6) (if (h.fi 600 a16) ≤ x3 then (L_X9_gatherOverwriters_65 N k18 t0 N h x1 x3 x4 (h.fr 601 a16)) else (B_X9_gatherOverwriters_124 N t0 h)))
theorem mb_X9_gatherOverwriters_39 (N : Nat) (k18 : Hp → (Option Nat) → Int32 → Int32 → Option (Hp × Unit)) (t0 : Nat) (h : Hp) (x1 : Option Nat) (x3 : Int32) (x4 : Int32) (y0 : Option Nat) (m18 : ∀ (h : Hp) (x1 : Option Nat) (x3 : Int32) (x4 : Int32), k18 h x1 x3 x4 = some (hz, ()) → Mo h hz) (hJ : B_X9_gatherOverwriters_39 N k18 t0 h x1 x3 x4 y0 = some (hz, ())) : Mo h hz := by
  unfold B_X9_gatherOverwriters_39 at hJ
  cases ea16 : y0 with
  | none =>
    have hJ := nl_none ea16 hJ
    exact mb_X9_gatherOverwriters_124 N t0 _ hJ
  | some a16 =>
    have hJ := nl_some ea16 hJ
    obtain ⟨-, hJ⟩ := ck_some hJ
    by_cases c18 : (h.fi 600 a16) ≤ x3
    · have hJ := it_pos c18 hJ
      exact ml_X9_gatherOverwriters_65 N k18 t0 m18 N _ _ _ _ _ hJ
    · have hJ := it_neg c18 hJ
      exact mb_X9_gatherOverwriters_124 N t0 _ hJ
set_option maxRecDepth 100000 in
set_option maxHeartbeats 4000000 in
theorem sb_X9_gatherOverwriters_39 (C : Cx p s m args meth c cX9_gatherOverwriters 8 none RX9 D cs A h0.se) (hz2 : hz.nx ≤ h0.nx + mc ∧ hz.su ≤ h0.su + ms) (N : Nat) (k18 : Hp → (Option Nat) → Int32 → Int32 → Option (Hp × Unit)) (t0 : Nat) (m18 : ∀ (h : Hp) (x1 : Option Nat) (x3 : Int32) (x4 : Int32), k18 h x1 x3 x4 = some (hz, ()) → Mo h hz) (i18 : ∀ (h : Hp) (x1 : Option Nat) (x3 : Int32) (x4 : Int32) (H : Heap) (locs : List Loc) (cells slots : Nat) (ls : Array Slot), k18 h x1 x3 x4 = some (hz, ()) → h.kd t0 = 12 → Wo D cs A s h0 h H locs cells slots → lv_has ls 8 [(0, .ref t0), (1, va_rf x1), (3, .int x3), (4, .int x4)] → W p l e { frames := 7, cells := mc, slots := ms, locals := 230 } s m args below meth c H locs cells slots (MQ below (Zv D cs A hz) args s mc ms A) (F0 m 18 ls [])) (h : Hp) (x1 : Option Nat) (x3 : Int32) (x4 : Int32) (y0 : Option Nat) (hJ : B_X9_gatherOverwriters_39 N k18 t0 h x1 x3 x4 y0 = some (hz, ())) (hk0 : h.kd t0 = 12) {H : Heap} {locs : List Loc} {cells slots : Nat} (w : Wo D cs A s h0 h H locs cells slots) {ls : Array Slot} (hl : lv_has ls 8 [(0, .ref t0), (1, va_rf x1), (3, .int x3), (4, .int x4)]) : W p l e { frames := 7, cells := mc, slots := ms, locals := 230 } s m args below meth c H locs cells slots (MQ below (Zv D cs A hz) args s mc ms A) (F0 m 39 ls [va_rf y0]) := by
  obtain ⟨hx, hb, hml, hown, hts, -⟩ := id C
  unfold B_X9_gatherOverwriters_39 at hJ
  refine jv_astore (i := 5) (lv' := [(5, va_rf y0), (0, .ref t0), (1, va_rf x1), (3, .int x3), (4, .int x4)]) hx hb dX9_gatherOverwriters_39 hl (by decide) rfl (fun ls hl => ?_)
  refine jv_aload hx hb dX9_gatherOverwriters_41 (lv_at hl 0 rfl) ?_
  refine jv_ifnull (tgt := 124) hx hb dX9_gatherOverwriters_43 (by decide) (fun ea16 => ?_) (fun a16 ea16 => ?_)
  · have hJ := nl_none ea16 hJ
    exact sb_X9_gatherOverwriters_124 C hz2 N t0 _ hJ hk0 w (lv_sub (l' := [(0, .ref t0)]) hl [1] rfl)
  · have hJ := nl_some ea16 hJ
    rw [ea16] at hl
    refine lv_aload hx hb dX9_gatherOverwriters_46 (lv_at hl 0 rfl) ?_
    obtain ⟨hk17, hJ⟩ := ck_some hJ
    refine fg_600 C w hk17 tw_3_151 dX9_gatherOverwriters_48 ?_
    refine lv_iload_n hx hb dX9_gatherOverwriters_51 rfl (lv_at hl 3 rfl) ?_
    refine lv_icmp_le (tgt := 58) hx hb dX9_gatherOverwriters_52 (by decide) (fun c18 => ?_) (fun c18 => ?_)
    · have hJ := it_pos c18 hJ
      refine lv_aload hx hb dX9_gatherOverwriters_58 (lv_at hl 0 rfl) ?_
      refine fg_601 C w hk17 tw_3_156 dX9_gatherOverwriters_60 ?_
      refine jv_astore (i := 6) (lv' := [(6, va_rf (h.fr 601 a16)), (5, .ref a16), (0, .ref t0), (1, va_rf x1), (3, .int x3), (4, .int x4)]) hx hb dX9_gatherOverwriters_63 hl (by decide) rfl (fun ls hl => ?_)
      exact sl_X9_gatherOverwriters_65 C hz2 N k18 t0 m18 i18 N _ _ _ _ _ _ _ _ _ _ hJ hk0 w (lv_sub (l' := [(0, .ref t0), (1, va_rf x1), (3, .int x3), (4, .int x4), (6, va_rf (h.fr 601 a16))]) hl [2, 3, 4, 5, 0] rfl)
    · have hJ := it_neg c18 hJ
      refine lv_goto (tgt := 124) hx hb dX9_gatherOverwriters_55 (by decide) ?_
      exact sb_X9_gatherOverwriters_124 C hz2 N t0 _ hJ hk0 w (lv_sub (l' := [(0, .ref t0)]) hl [1] rfl)
def B_X9_gatherOverwriters_27 (N : Nat) (k18 : Hp → (Option Nat) → Int32 → Int32 → Option (Hp × Unit)) (t0 : Nat) (h : Hp) (x1 : Option Nat) (x3 : Int32) (x4 : Int32) (y0 : Int32) (y1 : Int32) : Option (Hp × Unit) := if y1 ≤ y0 then (B_X9_gatherOverwriters_124 N t0 h) else (dr h 8 (h.fr 1200 t0) (fun a20 => (J_X5_chainAt N a20 h x4).bind (fun z => B_X9_gatherOverwriters_39 N k18 t0 z.1 x1 x3 x4 z.2)))
theorem mb_X9_gatherOverwriters_27 (N : Nat) (k18 : Hp → (Option Nat) → Int32 → Int32 → Option (Hp × Unit)) (t0 : Nat) (h : Hp) (x1 : Option Nat) (x3 : Int32) (x4 : Int32) (y0 : Int32) (y1 : Int32) (m18 : ∀ (h : Hp) (x1 : Option Nat) (x3 : Int32) (x4 : Int32), k18 h x1 x3 x4 = some (hz, ()) → Mo h hz) (hJ : B_X9_gatherOverwriters_27 N k18 t0 h x1 x3 x4 y0 y1 = some (hz, ())) : Mo h hz := by
  unfold B_X9_gatherOverwriters_27 at hJ
  by_cases c19 : y1 ≤ y0
  · have hJ := it_pos c19 hJ
    exact mb_X9_gatherOverwriters_124 N t0 _ hJ
  · have hJ := it_neg c19 hJ
    obtain ⟨a20, ea20, -, hJ⟩ := dr_some hJ
    obtain ⟨⟨h21, r22⟩, e23, hJ⟩ := ob_some hJ
    exact (mo_X5_chainAt N a20 h x4 e23).tr (mb_X9_gatherOverwriters_39 N k18 t0 _ _ _ _ _ m18 hJ)
set_option maxRecDepth 100000 in
set_option maxHeartbeats 4000000 in
theorem sb_X9_gatherOverwriters_27 (C : Cx p s m args meth c cX9_gatherOverwriters 8 none RX9 D cs A h0.se) (hz2 : hz.nx ≤ h0.nx + mc ∧ hz.su ≤ h0.su + ms) (N : Nat) (k18 : Hp → (Option Nat) → Int32 → Int32 → Option (Hp × Unit)) (t0 : Nat) (m18 : ∀ (h : Hp) (x1 : Option Nat) (x3 : Int32) (x4 : Int32), k18 h x1 x3 x4 = some (hz, ()) → Mo h hz) (i18 : ∀ (h : Hp) (x1 : Option Nat) (x3 : Int32) (x4 : Int32) (H : Heap) (locs : List Loc) (cells slots : Nat) (ls : Array Slot), k18 h x1 x3 x4 = some (hz, ()) → h.kd t0 = 12 → Wo D cs A s h0 h H locs cells slots → lv_has ls 8 [(0, .ref t0), (1, va_rf x1), (3, .int x3), (4, .int x4)] → W p l e { frames := 7, cells := mc, slots := ms, locals := 230 } s m args below meth c H locs cells slots (MQ below (Zv D cs A hz) args s mc ms A) (F0 m 18 ls [])) (h : Hp) (x1 : Option Nat) (x3 : Int32) (x4 : Int32) (y0 : Int32) (y1 : Int32) (hJ : B_X9_gatherOverwriters_27 N k18 t0 h x1 x3 x4 y0 y1 = some (hz, ())) (hk0 : h.kd t0 = 12) {H : Heap} {locs : List Loc} {cells slots : Nat} (w : Wo D cs A s h0 h H locs cells slots) {ls : Array Slot} (hl : lv_has ls 8 [(0, .ref t0), (1, va_rf x1), (3, .int x3), (4, .int x4)]) : W p l e { frames := 7, cells := mc, slots := ms, locals := 230 } s m args below meth c H locs cells slots (MQ below (Zv D cs A hz) args s mc ms A) (F0 m 27 ls [.int y1, .int y0]) := by
  obtain ⟨hx, hb, hml, hown, hts, -⟩ := id C
  unfold B_X9_gatherOverwriters_27 at hJ
  refine lv_icmp_ge (tgt := 124) hx hb dX9_gatherOverwriters_27 (by decide) (fun c19 => ?_) (fun c19 => ?_)
  · have hJ := it_pos c19 hJ
    exact sb_X9_gatherOverwriters_124 C hz2 N t0 _ hJ hk0 w (lv_sub (l' := [(0, .ref t0)]) hl [0] rfl)
  · have hJ := it_neg c19 hJ
    refine lv_aload_n hx hb dX9_gatherOverwriters_30 rfl (lv_at hl 0 rfl) ?_
    refine fg_1200 C w hk0 tw_1_132 dX9_gatherOverwriters_31 ?_
    refine lv_iload hx hb dX9_gatherOverwriters_34 (lv_at hl 3 rfl) ?_
    obtain ⟨a20, ea20, hka20, hJ⟩ := dr_some hJ
    rw [ea20]
    obtain ⟨⟨h21, r22⟩, e23, hJ⟩ := ob_some hJ
    refine jc_Vq (As := [.int x4]) C w (cc_X5_chainAt N a20 h x4 hka20 e23) (mo_X5_chainAt N a20 h x4 e23) (mb_X9_gatherOverwriters_39 N k18 t0 _ _ _ _ _ m18 hJ) hz2 hka20 (by decide) rfl (fs := fs8 h a20) rfl rfl ⟨tw_2_212, tw_2_237, tw_2_210, tw_2_211, tw_1_2⟩ cd_X5_chainAt ⟨by decide, by decide⟩ hl.1 (by first | exact Nat.le_of_ble_eq_true rfl | simp [rf_cat, cat_i, cat_l, cat_r]) rfl dX9_gatherOverwriters_36 (fun H locs w1 => ?_)
    have hk24 := kd_keep w (mo_X5_chainAt N a20 h x4 e23) hk0 (by decide)
    have w := w1
    exact sb_X9_gatherOverwriters_39 C hz2 N k18 t0 m18 i18 _ _ _ _ _ hJ hk24 w hl
def B_X9_gatherOverwriters_18 (N : Nat) (k18 : Hp → (Option Nat) → Int32 → Int32 → Option (Hp × Unit)) (t0 : Nat) (h : Hp) (x1 : Option Nat) (x3 : Int32) (x4 : Int32) : Option (Hp × Unit) := dr h 8 (h.fr 1200 t0) (fun a25 => (J_X5_size N a25 h).bind (fun z => B_X9_gatherOverwriters_27 N k18 t0 z.1 x1 x3 x4 x4 z.2))
theorem mb_X9_gatherOverwriters_18 (N : Nat) (k18 : Hp → (Option Nat) → Int32 → Int32 → Option (Hp × Unit)) (t0 : Nat) (h : Hp) (x1 : Option Nat) (x3 : Int32) (x4 : Int32) (m18 : ∀ (h : Hp) (x1 : Option Nat) (x3 : Int32) (x4 : Int32), k18 h x1 x3 x4 = some (hz, ()) → Mo h hz) (hJ : B_X9_gatherOverwriters_18 N k18 t0 h x1 x3 x4 = some (hz, ())) : Mo h hz := by
  unfold B_X9_gatherOverwriters_18 at hJ
  obtain ⟨a25, ea25, -, hJ⟩ := dr_some hJ
  obtain ⟨⟨h26, r27⟩, e28, hJ⟩ := ob_some hJ
  exact (mo_X5_size N a25 h e28).tr (mb_X9_gatherOverwriters_27 N k18 t0 _ _ _ _ _ _ m18 hJ)
set_option maxRecDepth 100000 in
set_option maxHeartbeats 4000000 in
theorem sb_X9_gatherOverwriters_18 (C : Cx p s m args meth c cX9_gatherOverwriters 8 none RX9 D cs A h0.se) (hz2 : hz.nx ≤ h0.nx + mc ∧ hz.su ≤ h0.su + ms) (N : Nat) (k18 : Hp → (Option Nat) → Int32 → Int32 → Option (Hp × Unit)) (t0 : Nat) (m18 : ∀ (h : Hp) (x1 : Option Nat) (x3 : Int32) (x4 : Int32), k18 h x1 x3 x4 = some (hz, ()) → Mo h hz) (i18 : ∀ (h : Hp) (x1 : Option Nat) (x3 : Int32) (x4 : Int32) (H : Heap) (locs : List Loc) (cells slots : Nat) (ls : Array Slot), k18 h x1 x3 x4 = some (hz, ()) → h.kd t0 = 12 → Wo D cs A s h0 h H locs cells slots → lv_has ls 8 [(0, .ref t0), (1, va_rf x1), (3, .int x3), (4, .int x4)] → W p l e { frames := 7, cells := mc, slots := ms, locals := 230 } s m args below meth c H locs cells slots (MQ below (Zv D cs A hz) args s mc ms A) (F0 m 18 ls [])) (h : Hp) (x1 : Option Nat) (x3 : Int32) (x4 : Int32) (hJ : B_X9_gatherOverwriters_18 N k18 t0 h x1 x3 x4 = some (hz, ())) (hk0 : h.kd t0 = 12) {H : Heap} {locs : List Loc} {cells slots : Nat} (w : Wo D cs A s h0 h H locs cells slots) {ls : Array Slot} (hl : lv_has ls 8 [(0, .ref t0), (1, va_rf x1), (3, .int x3), (4, .int x4)]) : W p l e { frames := 7, cells := mc, slots := ms, locals := 230 } s m args below meth c H locs cells slots (MQ below (Zv D cs A hz) args s mc ms A) (F0 m 18 ls []) := by
  obtain ⟨hx, hb, hml, hown, hts, -⟩ := id C
  unfold B_X9_gatherOverwriters_18 at hJ
  refine lv_iload hx hb dX9_gatherOverwriters_18 (lv_at hl 3 rfl) ?_
  refine lv_aload_n hx hb dX9_gatherOverwriters_20 rfl (lv_at hl 0 rfl) ?_
  refine fg_1200 C w hk0 tw_1_132 dX9_gatherOverwriters_21 ?_
  obtain ⟨a25, ea25, hka25, hJ⟩ := dr_some hJ
  rw [ea25]
  obtain ⟨⟨h26, r27⟩, e28, hJ⟩ := ob_some hJ
  refine jc_Vi (As := []) C w (cc_X5_size N a25 h hka25 e28) (mo_X5_size N a25 h e28) (mb_X9_gatherOverwriters_27 N k18 t0 _ _ _ _ _ _ m18 hJ) hz2 hka25 (by decide) rfl (fs := fs8 h a25) rfl rfl ⟨tw_2_181, tw_2_178, tw_2_179, tw_2_180, tw_1_2⟩ cd_X5_size ⟨by decide, by decide⟩ hl.1 (by first | exact Nat.le_of_ble_eq_true rfl | simp [rf_cat, cat_i, cat_l, cat_r]) rfl dX9_gatherOverwriters_24 (fun H locs w1 => ?_)
  have hk29 := kd_keep w (mo_X5_size N a25 h e28) hk0 (by decide)
  have w := w1
  exact sb_X9_gatherOverwriters_27 C hz2 N k18 t0 m18 i18 _ _ _ _ _ _ hJ hk29 w hl
def L_X9_gatherOverwriters_18 (N : Nat) (t0 : Nat) : Nat → Hp → (Option Nat) → Int32 → Int32 → Option (Hp × Unit)
  | 0 => fun _ _ _ _ => none
  | n + 1 => fun h x1 x3 x4 => B_X9_gatherOverwriters_18 N (L_X9_gatherOverwriters_18 N t0 n) t0 h x1 x3 x4
theorem ml_X9_gatherOverwriters_18 (N : Nat) (t0 : Nat) : ∀ (n : Nat) (h : Hp) (x1 : Option Nat) (x3 : Int32) (x4 : Int32), L_X9_gatherOverwriters_18 N t0 n h x1 x3 x4 = some (hz, ()) → Mo h hz := by
  intro n
  induction n with
  | zero => intro h x1 x3 x4 hJ; cases hJ
  | succ n ih => intro h x1 x3 x4 hJ; exact mb_X9_gatherOverwriters_18 N (L_X9_gatherOverwriters_18 N t0 n) t0 h x1 x3 x4 ih hJ
theorem sl_X9_gatherOverwriters_18 (C : Cx p s m args meth c cX9_gatherOverwriters 8 none RX9 D cs A h0.se) (hz2 : hz.nx ≤ h0.nx + mc ∧ hz.su ≤ h0.su + ms) (N : Nat) (t0 : Nat) : ∀ n : Nat, ∀ (h : Hp) (x1 : Option Nat) (x3 : Int32) (x4 : Int32) (H : Heap) (locs : List Loc) (cells slots : Nat) (ls : Array Slot), L_X9_gatherOverwriters_18 N t0 n h x1 x3 x4 = some (hz, ()) → h.kd t0 = 12 → Wo D cs A s h0 h H locs cells slots → lv_has ls 8 [(0, .ref t0), (1, va_rf x1), (3, .int x3), (4, .int x4)] → W p l e { frames := 7, cells := mc, slots := ms, locals := 230 } s m args below meth c H locs cells slots (MQ below (Zv D cs A hz) args s mc ms A) (F0 m 18 ls []) := by
  intro n
  induction n with
  | zero => intro h x1 x3 x4 H locs cells slots ls hJ; cases hJ
  | succ n ih =>
    intro h x1 x3 x4 H locs cells slots ls hJ hk0 w hl
    exact sb_X9_gatherOverwriters_18 C hz2 N (L_X9_gatherOverwriters_18 N t0 n) t0 (ml_X9_gatherOverwriters_18 N t0 n) ih h x1 x3 x4 hJ hk0 w hl
def B_X9_gatherOverwriters_16 (N : Nat) (t0 : Nat) (h : Hp) (x1 : Option Nat) (x3 : Int32) (y0 : Int32) : Option (Hp × Unit) := L_X9_gatherOverwriters_18 N t0 N h x1 x3 y0
theorem mb_X9_gatherOverwriters_16 (N : Nat) (t0 : Nat) (h : Hp) (x1 : Option Nat) (x3 : Int32) (y0 : Int32) (hJ : B_X9_gatherOverwriters_16 N t0 h x1 x3 y0 = some (hz, ())) : Mo h hz := by
  unfold B_X9_gatherOverwriters_16 at hJ
  exact ml_X9_gatherOverwriters_18 N t0 N _ _ _ _ hJ
set_option maxRecDepth 100000 in
set_option maxHeartbeats 4000000 in
theorem sb_X9_gatherOverwriters_16 (C : Cx p s m args meth c cX9_gatherOverwriters 8 none RX9 D cs A h0.se) (hz2 : hz.nx ≤ h0.nx + mc ∧ hz.su ≤ h0.su + ms) (N : Nat) (t0 : Nat) (h : Hp) (x1 : Option Nat) (x3 : Int32) (y0 : Int32) (hJ : B_X9_gatherOverwriters_16 N t0 h x1 x3 y0 = some (hz, ())) (hk0 : h.kd t0 = 12) {H : Heap} {locs : List Loc} {cells slots : Nat} (w : Wo D cs A s h0 h H locs cells slots) {ls : Array Slot} (hl : lv_has ls 8 [(0, .ref t0), (1, va_rf x1), (3, .int x3)]) : W p l e { frames := 7, cells := mc, slots := ms, locals := 230 } s m args below meth c H locs cells slots (MQ below (Zv D cs A hz) args s mc ms A) (F0 m 16 ls [.int y0]) := by
  obtain ⟨hx, hb, hml, hown, hts, -⟩ := id C
  unfold B_X9_gatherOverwriters_16 at hJ
  refine lv_istore (i := 4) (lv' := [(4, .int y0), (0, .ref t0), (1, va_rf x1), (3, .int x3)]) hx hb dX9_gatherOverwriters_16 hl (by decide) rfl (fun ls hl => ?_)
  exact sl_X9_gatherOverwriters_18 C hz2 N t0 N _ _ _ _ _ _ _ _ _ hJ hk0 w (lv_sub (l' := [(0, .ref t0), (1, va_rf x1), (3, .int x3), (4, .int y0)]) hl [1, 2, 3, 0] rfl)
def B_X9_gatherOverwriters_7 (N : Nat) (t0 : Nat) (h : Hp) (x1 : Option Nat) (x2 : Int32) (x3 : Int32) : Option (Hp × Unit) := dr h 8 (h.fr 1200 t0) (fun a30 => (J_X5_indexFrom N a30 h x2.toInt64).bind (fun z => B_X9_gatherOverwriters_16 N t0 z.1 x1 x3 z.2))
theorem mb_X9_gatherOverwriters_7 (N : Nat) (t0 : Nat) (h : Hp) (x1 : Option Nat) (x2 : Int32) (x3 : Int32) (hJ : B_X9_gatherOverwriters_7 N t0 h x1 x2 x3 = some (hz, ())) : Mo h hz := by
  unfold B_X9_gatherOverwriters_7 at hJ
  obtain ⟨a30, ea30, -, hJ⟩ := dr_some hJ
  obtain ⟨⟨h31, r32⟩, e33, hJ⟩ := ob_some hJ
  exact (mo_X5_indexFrom N a30 h x2.toInt64 e33).tr (mb_X9_gatherOverwriters_16 N t0 _ _ _ _ hJ)
set_option maxRecDepth 100000 in
set_option maxHeartbeats 4000000 in
theorem sb_X9_gatherOverwriters_7 (C : Cx p s m args meth c cX9_gatherOverwriters 8 none RX9 D cs A h0.se) (hz2 : hz.nx ≤ h0.nx + mc ∧ hz.su ≤ h0.su + ms) (N : Nat) (t0 : Nat) (h : Hp) (x1 : Option Nat) (x2 : Int32) (x3 : Int32) (hJ : B_X9_gatherOverwriters_7 N t0 h x1 x2 x3 = some (hz, ())) (hk0 : h.kd t0 = 12) {H : Heap} {locs : List Loc} {cells slots : Nat} (w : Wo D cs A s h0 h H locs cells slots) {ls : Array Slot} (hl : lv_has ls 8 [(0, .ref t0), (1, va_rf x1), (2, .int x2), (3, .int x3)]) : W p l e { frames := 7, cells := mc, slots := ms, locals := 230 } s m args below meth c H locs cells slots (MQ below (Zv D cs A hz) args s mc ms A) (F0 m 7 ls []) := by
  obtain ⟨hx, hb, hml, hown, hts, -⟩ := id C
  unfold B_X9_gatherOverwriters_7 at hJ
  refine lv_aload_n hx hb dX9_gatherOverwriters_7 rfl (lv_at hl 0 rfl) ?_
  refine fg_1200 C w hk0 tw_1_132 dX9_gatherOverwriters_8 ?_
  refine lv_iload_n hx hb dX9_gatherOverwriters_11 rfl (lv_at hl 2 rfl) ?_
  refine lv_i2l hx hb dX9_gatherOverwriters_12 rfl ?_
  obtain ⟨a30, ea30, hka30, hJ⟩ := dr_some hJ
  rw [ea30]
  obtain ⟨⟨h31, r32⟩, e33, hJ⟩ := ob_some hJ
  refine jc_Vi (As := [.long x2.toInt64]) C w (cc_X5_indexFrom N a30 h x2.toInt64 hka30 e33) (mo_X5_indexFrom N a30 h x2.toInt64 e33) (mb_X9_gatherOverwriters_16 N t0 _ _ _ _ hJ) hz2 hka30 (by decide) rfl (fs := fs8 h a30) rfl rfl ⟨tw_2_206, tw_5_183, tw_2_204, tw_2_205, tw_1_2⟩ cd_X5_indexFrom ⟨by decide, by decide⟩ hl.1 (by first | exact Nat.le_of_ble_eq_true rfl | simp [rf_cat, cat_i, cat_l, cat_r]) rfl dX9_gatherOverwriters_13 (fun H locs w1 => ?_)
  have hk34 := kd_keep w (mo_X5_indexFrom N a30 h x2.toInt64 e33) hk0 (by decide)
  have w := w1
  exact sb_X9_gatherOverwriters_16 C hz2 N t0 _ _ _ _ hJ hk34 w (lv_sub (l' := [(0, .ref t0), (1, va_rf x1), (3, .int x3)]) hl [0, 1, 3] rfl)
def B_X9_gatherOverwriters_0 (N : Nat) (t0 : Nat) (h : Hp) (x1 : Option Nat) (x2 : Int32) (x3 : Int32) : Option (Hp × Unit) := dr h 2 (h.fr 1207 t0) (fun a35 => (J_Jx4a65c_clear_da8c8 N a35 h).bind (fun z => B_X9_gatherOverwriters_7 N t0 z.1 x1 x2 x3))
theorem mb_X9_gatherOverwriters_0 (N : Nat) (t0 : Nat) (h : Hp) (x1 : Option Nat) (x2 : Int32) (x3 : Int32) (hJ : B_X9_gatherOverwriters_0 N t0 h x1 x2 x3 = some (hz, ())) : Mo h hz := by
  unfold B_X9_gatherOverwriters_0 at hJ
  obtain ⟨a35, ea35, -, hJ⟩ := dr_some hJ
  obtain ⟨⟨h36, r37⟩, e38, hJ⟩ := ob_some hJ
  exact (mo_Jx4a65c_clear_da8c8 N a35 h e38).tr (mb_X9_gatherOverwriters_7 N t0 _ _ _ _ hJ)
set_option maxRecDepth 100000 in
set_option maxHeartbeats 4000000 in
theorem sb_X9_gatherOverwriters_0 (C : Cx p s m args meth c cX9_gatherOverwriters 8 none RX9 D cs A h0.se) (hz2 : hz.nx ≤ h0.nx + mc ∧ hz.su ≤ h0.su + ms) (N : Nat) (t0 : Nat) (h : Hp) (x1 : Option Nat) (x2 : Int32) (x3 : Int32) (hJ : B_X9_gatherOverwriters_0 N t0 h x1 x2 x3 = some (hz, ())) (hk0 : h.kd t0 = 12) {H : Heap} {locs : List Loc} {cells slots : Nat} (w : Wo D cs A s h0 h H locs cells slots) {ls : Array Slot} (hl : lv_has ls 8 [(0, .ref t0), (1, va_rf x1), (2, .int x2), (3, .int x3)]) : W p l e { frames := 7, cells := mc, slots := ms, locals := 230 } s m args below meth c H locs cells slots (MQ below (Zv D cs A hz) args s mc ms A) (F0 m 0 ls []) := by
  obtain ⟨hx, hb, hml, hown, hts, -⟩ := id C
  unfold B_X9_gatherOverwriters_0 at hJ
  refine lv_aload_n hx hb dX9_gatherOverwriters_0 rfl (lv_at hl 0 rfl) ?_
  refine fg_1207 C w hk0 tw_1_139 dX9_gatherOverwriters_1 ?_
  obtain ⟨a35, ea35, hka35, hJ⟩ := dr_some hJ
  rw [ea35]
  obtain ⟨⟨h36, r37⟩, e38, hJ⟩ := ob_some hJ
  refine jc_Vv (As := []) C w (cc_Jx4a65c_clear_da8c8 N a35 h hka35 e38) (mo_Jx4a65c_clear_da8c8 N a35 h e38) (mb_X9_gatherOverwriters_7 N t0 _ _ _ _ hJ) hz2 hka35 (by decide) rfl (fs := fs2 h a35) rfl rfl ⟨tw_5_182, tw_5_179, tw_5_180, tw_5_181, tw_1_5⟩ cd_Jx4a65c_clear_da8c8 ⟨by decide, by decide⟩ hl.1 (by first | exact Nat.le_of_ble_eq_true rfl | simp [rf_cat, cat_i, cat_l, cat_r]) rfl dX9_gatherOverwriters_4 (fun H locs w1 => ?_)
  have hk39 := kd_keep w (mo_Jx4a65c_clear_da8c8 N a35 h e38) hk0 (by decide)
  have w := w1
  exact sb_X9_gatherOverwriters_7 C hz2 N t0 _ _ _ _ hJ hk39 w hl
def J_X9_gatherOverwriters (N : Nat) (t0 : Nat) (h : Hp) (x1 : Option Nat) (x2 : Int32) (x3 : Int32) : Option (Hp × Unit) := B_X9_gatherOverwriters_0 N t0 h x1 x2 x3
theorem mo_X9_gatherOverwriters (N : Nat) (t0 : Nat) (h : Hp) (x1 : Option Nat) (x2 : Int32) (x3 : Int32) (hJ : J_X9_gatherOverwriters N t0 h x1 x2 x3 = some (hz, ())) : Mo h hz := mb_X9_gatherOverwriters_0 N t0 h x1 x2 x3 hJ
theorem cd_X9_gatherOverwriters : Cd yX9_gatherOverwriters 3 := ⟨by decide +kernel, by decide +kernel, by decide +kernel⟩
theorem cc_X9_gatherOverwriters (N : Nat) (t0 : Nat) (h : Hp) (x1 : Option Nat) (x2 : Int32) (x3 : Int32) (hk0 : h.kd t0 = 12) (hJ : J_X9_gatherOverwriters N t0 h x1 x2 x3 = some (hz, ())) : Cv l yX9_gatherOverwriters cX9_gatherOverwriters 8 none 7 230 D cs h hz [.ref t0, va_rf x1, .int x2, .int x3] := by
  intro mc ms g1 g2
  refine je_any (by decide) (by simp [lg_sl, rf_cat, cat_i, cat_l, cat_r]) ?_
  intro p e s m args below meth c C hin2 w ls hl
  have hl : lv_has ls 8 [(0, .ref t0), (1, va_rf x1), (2, .int x2), (3, .int x3)] := by simpa [lv_args, rf_cat, cat_i, cat_l, cat_r] using hl
  exact sb_X9_gatherOverwriters_0 C ⟨g1, g2⟩ N t0 h x1 x2 x3 hJ hk0 w hl
end G_X9_gatherOverwriters
section G_X9_lookAt
variable {p : Program} {l : Launch} {e : Env} {s : State} {m : MethodId} {args : Array Value} {below : List Frame} {meth : Method} {c : Code} {D : va_G} {cs : C4} {A : Nat → Prop} {h0 hz : Hp} {mc ms : Nat} {rz : Int32}
def B_X9_lookAt_32 (N : Nat) (t0 : Nat) (h : Hp) : Option (Hp × Int32) := some (h, (0 : Int32))
theorem mb_X9_lookAt_32 (N : Nat) (t0 : Nat) (h : Hp) (hJ : B_X9_lookAt_32 N t0 h = some (hz, rz)) : Mo h hz := by
  unfold B_X9_lookAt_32 at hJ
  obtain ⟨rfl, -⟩ := rs2 hJ
  exact ⟨fun _ _ => rfl, Nat.le_refl _, Nat.le_refl _, rfl, fun _ _ => rfl⟩
set_option maxRecDepth 100000 in
set_option maxHeartbeats 4000000 in
theorem sb_X9_lookAt_32 (C : Cx p s m args meth c cX9_lookAt 7 (some .boolean) RX9 D cs A h0.se) (hz2 : hz.nx ≤ h0.nx + mc ∧ hz.su ≤ h0.su + ms) (N : Nat) (t0 : Nat) (h : Hp) (hJ : B_X9_lookAt_32 N t0 h = some (hz, rz)) (hk0 : h.kd t0 = 12) {H : Heap} {locs : List Loc} {cells slots : Nat} (w : Wo D cs A s h0 h H locs cells slots) {ls : Array Slot} (hl : lv_has ls 7 [(0, .ref t0)]) : W p l e { frames := 8, cells := mc, slots := ms, locals := 260 } s m args below meth c H locs cells slots (MQ below (Zi D cs A hz rz) args s mc ms A) (F0 m 32 ls []) := by
  obtain ⟨hx, hb, hml, hown, hts, -⟩ := id C
  unfold B_X9_lookAt_32 at hJ
  refine lv_iconst (v := (0 : Int32)) hx hb dX9_lookAt_32 (by decide) ?_
  obtain ⟨rfl, rfl⟩ := rs2 hJ
  exact jr_zret C w (Or.inl rfl) hz2 dX9_lookAt_33
def B_X9_lookAt_26 (N : Nat) (t0 : Nat) (h : Hp) (x1 : Option Nat) : Option (Hp × Int32) := (J_X9_end N t0 h x1 (5 : Int32)).bind (fun z => B_X9_lookAt_32 N t0 z.1)
theorem mb_X9_lookAt_26 (N : Nat) (t0 : Nat) (h : Hp) (x1 : Option Nat) (hJ : B_X9_lookAt_26 N t0 h x1 = some (hz, rz)) : Mo h hz := by
  unfold B_X9_lookAt_26 at hJ
  obtain ⟨⟨h1, r2⟩, e3, hJ⟩ := ob_some hJ
  exact (mo_X9_end N t0 h x1 (5 : Int32) e3).tr (mb_X9_lookAt_32 N t0 _ hJ)
set_option maxRecDepth 100000 in
set_option maxHeartbeats 4000000 in
theorem sb_X9_lookAt_26 (C : Cx p s m args meth c cX9_lookAt 7 (some .boolean) RX9 D cs A h0.se) (hz2 : hz.nx ≤ h0.nx + mc ∧ hz.su ≤ h0.su + ms) (N : Nat) (t0 : Nat) (h : Hp) (x1 : Option Nat) (hJ : B_X9_lookAt_26 N t0 h x1 = some (hz, rz)) (hk0 : h.kd t0 = 12) {H : Heap} {locs : List Loc} {cells slots : Nat} (w : Wo D cs A s h0 h H locs cells slots) {ls : Array Slot} (hl : lv_has ls 7 [(0, .ref t0), (1, va_rf x1)]) : W p l e { frames := 8, cells := mc, slots := ms, locals := 260 } s m args below meth c H locs cells slots (MQ below (Zi D cs A hz rz) args s mc ms A) (F0 m 26 ls []) := by
  obtain ⟨hx, hb, hml, hown, hts, -⟩ := id C
  unfold B_X9_lookAt_26 at hJ
  refine lv_aload_n hx hb dX9_lookAt_26 rfl (lv_at hl 0 rfl) ?_
  refine jv_aload_n hx hb dX9_lookAt_27 rfl (lv_at hl 1 rfl) ?_
  refine lv_iconst (v := (5 : Int32)) hx hb dX9_lookAt_28 (by decide) ?_
  obtain ⟨⟨h1, r2⟩, e3, hJ⟩ := ob_some hJ
  refine jc_Vv (As := [va_rf x1, .int (5 : Int32)]) C w (cc_X9_end N t0 h x1 (5 : Int32) hk0 e3) (mo_X9_end N t0 h x1 (5 : Int32) e3) (mb_X9_lookAt_32 N t0 _ hJ) hz2 hk0 (by decide) rfl (fs := fs12 h t0) rfl rfl ⟨tw_5_203, tw_5_200, tw_5_202, ts_24, tw_1_1⟩ cd_X9_end ⟨by decide, by decide⟩ hl.1 (by first | exact Nat.le_of_ble_eq_true rfl | simp [rf_cat, cat_i, cat_l, cat_r]) rfl dX9_lookAt_29 (fun H locs w1 => ?_)
  have hk4 := kd_keep w (mo_X9_end N t0 h x1 (5 : Int32) e3) hk0 (by decide)
  have w := w1
  exact sb_X9_lookAt_32 C hz2 N t0 _ hJ hk4 w (lv_sub (l' := [(0, .ref t0)]) hl [0] rfl)
def B_X9_lookAt_95 (N : Nat) (k46 : Hp → (Option Nat) → Int32 → Option (Hp × Int32)) (t0 : Nat) (h : Hp) (x1 : Option Nat) (x5 : Int32) : Option (Hp × Int32) := k46 h x1 (x5 + (1 : Int32))
theorem mb_X9_lookAt_95 (N : Nat) (k46 : Hp → (Option Nat) → Int32 → Option (Hp × Int32)) (t0 : Nat) (h : Hp) (x1 : Option Nat) (x5 : Int32) (m46 : ∀ (h : Hp) (x1 : Option Nat) (x5 : Int32), k46 h x1 x5 = some (hz, rz) → Mo h hz) (hJ : B_X9_lookAt_95 N k46 t0 h x1 x5 = some (hz, rz)) : Mo h hz := by
  unfold B_X9_lookAt_95 at hJ
  exact m46 _ _ _ hJ
set_option maxRecDepth 100000 in
set_option maxHeartbeats 4000000 in
theorem sb_X9_lookAt_95 (C : Cx p s m args meth c cX9_lookAt 7 (some .boolean) RX9 D cs A h0.se) (hz2 : hz.nx ≤ h0.nx + mc ∧ hz.su ≤ h0.su + ms) (N : Nat) (k46 : Hp → (Option Nat) → Int32 → Option (Hp × Int32)) (t0 : Nat) (m46 : ∀ (h : Hp) (x1 : Option Nat) (x5 : Int32), k46 h x1 x5 = some (hz, rz) → Mo h hz) (i46 : ∀ (h : Hp) (x1 : Option Nat) (x5 : Int32) (H : Heap) (locs : List Loc) (cells slots : Nat) (ls : Array Slot), k46 h x1 x5 = some (hz, rz) → h.kd t0 = 12 → Wo D cs A s h0 h H locs cells slots → lv_has ls 7 [(0, .ref t0), (1, va_rf x1), (5, .int x5)] → W p l e { frames := 8, cells := mc, slots := ms, locals := 260 } s m args below meth c H locs cells slots (MQ below (Zi D cs A hz rz) args s mc ms A) (F0 m 46 ls [])) (h : Hp) (x1 : Option Nat) (x5 : Int32) (hJ : B_X9_lookAt_95 N k46 t0 h x1 x5 = some (hz, rz)) (hk0 : h.kd t0 = 12) {H : Heap} {locs : List Loc} {cells slots : Nat} (w : Wo D cs A s h0 h H locs cells slots) {ls : Array Slot} (hl : lv_has ls 7 [(0, .ref t0), (1, va_rf x1), (5, .int x5)]) : W p l e { frames := 8, cells := mc, slots := ms, locals := 260 } s m args below meth c H locs cells slots (MQ below (Zi D cs A hz rz) args s mc ms A) (F0 m 95 ls []) := by
  obtain ⟨hx, hb, hml, hown, hts, -⟩ := id C
  unfold B_X9_lookAt_95 at hJ
  refine lv_iinc (v := x5 + (1 : Int32)) (lv' := [(5, .int (x5 + (1 : Int32))), (0, .ref t0), (1, va_rf x1)]) hx hb dX9_lookAt_95 hl (k := 2) rfl rfl (by decide) rfl (fun ls hl => ?_)
  refine lv_goto (tgt := 46) hx hb dX9_lookAt_98 (by decide) ?_
  exact i46 _ _ _ _ _ _ _ _ hJ hk0 w (lv_sub (l' := [(0, .ref t0), (1, va_rf x1), (5, .int (x5 + (1 : Int32)))]) hl [1, 2, 0] rfl)
def B_X9_lookAt_75 (N : Nat) (k46 : Hp → (Option Nat) → Int32 → Option (Hp × Int32)) (t0 : Nat) (h : Hp) (x1 : Option Nat) (x5 : Int32) (y0 : Option Nat) : Option (Hp × Int32) := dr h 10 y0 (fun a5 => dr (h.sfi 1009 a5 (1 : Int32)) 10 x1 (fun a6 => (J_X7_noteOut N a6 (h.sfi 1009 a5 (1 : Int32)) ((h.sfi 1009 a5 (1 : Int32)).fi 1007 a5)).bind (fun z => B_X9_lookAt_95 N k46 t0 z.1 (some a6) x5)))
theorem mb_X9_lookAt_75 (N : Nat) (k46 : Hp → (Option Nat) → Int32 → Option (Hp × Int32)) (t0 : Nat) (h : Hp) (x1 : Option Nat) (x5 : Int32) (y0 : Option Nat) (m46 : ∀ (h : Hp) (x1 : Option Nat) (x5 : Int32), k46 h x1 x5 = some (hz, rz) → Mo h hz) (hJ : B_X9_lookAt_75 N k46 t0 h x1 x5 y0 = some (hz, rz)) : Mo h hz := by
  unfold B_X9_lookAt_75 at hJ
  obtain ⟨a5, ea5, -, hJ⟩ := dr_some hJ
  obtain ⟨a6, ea6, -, hJ⟩ := dr_some hJ
  obtain ⟨⟨h7, r8⟩, e9, hJ⟩ := ob_some hJ
  exact (Mo.tr (show Mo h (h.sfi 1009 a5 (1 : Int32)) from ⟨fun _ _ => rfl, Nat.le_refl _, Nat.le_refl _, rfl, fun _ _ => rfl⟩) ((mo_X7_noteOut N a6 (h.sfi 1009 a5 (1 : Int32)) ((h.sfi 1009 a5 (1 : Int32)).fi 1007 a5) e9).tr (mb_X9_lookAt_95 N k46 t0 _ _ _ m46 hJ)))
set_option maxRecDepth 100000 in
set_option maxHeartbeats 4000000 in
theorem sb_X9_lookAt_75 (C : Cx p s m args meth c cX9_lookAt 7 (some .boolean) RX9 D cs A h0.se) (hz2 : hz.nx ≤ h0.nx + mc ∧ hz.su ≤ h0.su + ms) (N : Nat) (k46 : Hp → (Option Nat) → Int32 → Option (Hp × Int32)) (t0 : Nat) (m46 : ∀ (h : Hp) (x1 : Option Nat) (x5 : Int32), k46 h x1 x5 = some (hz, rz) → Mo h hz) (i46 : ∀ (h : Hp) (x1 : Option Nat) (x5 : Int32) (H : Heap) (locs : List Loc) (cells slots : Nat) (ls : Array Slot), k46 h x1 x5 = some (hz, rz) → h.kd t0 = 12 → Wo D cs A s h0 h H locs cells slots → lv_has ls 7 [(0, .ref t0), (1, va_rf x1), (5, .int x5)] → W p l e { frames := 8, cells := mc, slots := ms, locals := 260 } s m args below meth c H locs cells slots (MQ below (Zi D cs A hz rz) args s mc ms A) (F0 m 46 ls [])) (h : Hp) (x1 : Option Nat) (x5 : Int32) (y0 : Option Nat) (hJ : B_X9_lookAt_75 N k46 t0 h x1 x5 y0 = some (hz, rz)) (hk0 : h.kd t0 = 12) {H : Heap} {locs : List Loc} {cells slots : Nat} (w : Wo D cs A s h0 h H locs cells slots) {ls : Array Slot} (hl : lv_has ls 7 [(0, .ref t0), (1, va_rf x1), (5, .int x5)]) : W p l e { frames := 8, cells := mc, slots := ms, locals := 260 } s m args below meth c H locs cells slots (MQ below (Zi D cs A hz rz) args s mc ms A) (F0 m 75 ls [va_rf y0]) := by
  obtain ⟨hx, hb, hml, hown, hts, -⟩ := id C
  unfold B_X9_lookAt_75 at hJ
  obtain ⟨a5, ea5, hka5, hJ⟩ := dr_some hJ
  rw [ea5]
  refine va_castS hx hb hown (hts _ tw_1_221) (C.2.2.2.2.2.1.1 10 _ rfl).2 (recv_at C w hka5 (by decide) rfl (fs := fs10 h a5) rfl) dX9_lookAt_75 ?_
  refine lv_astore (i := 6) (lv' := [(6, .ref a5), (0, .ref t0), (1, va_rf x1), (5, .int x5)]) hx hb dX9_lookAt_78 hl (by decide) rfl (fun ls hl => ?_)
  refine lv_aload hx hb dX9_lookAt_80 (lv_at hl 0 rfl) ?_
  refine lv_iconst (v := (1 : Int32)) hx hb dX9_lookAt_82 (by decide) ?_
  refine fp_1009 (x := (1 : Int32)) C w hka5 (Or.inr rfl) tw_2_33 dX9_lookAt_83 (fun H locs w => ?_)
  refine jv_aload_n hx hb dX9_lookAt_86 rfl (lv_at hl 2 rfl) ?_
  refine lv_aload hx hb dX9_lookAt_87 (lv_at hl 0 rfl) ?_
  refine fg_1007 C w hka5 tw_2_29 dX9_lookAt_89 ?_
  obtain ⟨a6, ea6, hka6, hJ⟩ := dr_some hJ
  rw [ea6] at hl
  rw [ea6]
  obtain ⟨⟨h7, r8⟩, e9, hJ⟩ := ob_some hJ
  refine jc_Vv (As := [.int ((h.sfi 1009 a5 (1 : Int32)).fi 1007 a5)]) C w (cc_X7_noteOut N a6 (h.sfi 1009 a5 (1 : Int32)) ((h.sfi 1009 a5 (1 : Int32)).fi 1007 a5) hka6 e9) (mo_X7_noteOut N a6 (h.sfi 1009 a5 (1 : Int32)) ((h.sfi 1009 a5 (1 : Int32)).fi 1007 a5) e9) (mb_X9_lookAt_95 N k46 t0 _ _ _ m46 hJ) hz2 hka6 (by decide) rfl (fs := fs10 (h.sfi 1009 a5 (1 : Int32)) a6) rfl rfl ⟨tw_5_235, tw_5_232, tw_5_233, tw_5_234, tw_1_9⟩ cd_X7_noteOut ⟨by decide, by decide⟩ hl.1 (by first | exact Nat.le_of_ble_eq_true rfl | simp [rf_cat, cat_i, cat_l, cat_r]) rfl dX9_lookAt_92 (fun H locs w1 => ?_)
  have hk10 := kd_keep w (mo_X7_noteOut N a6 (h.sfi 1009 a5 (1 : Int32)) ((h.sfi 1009 a5 (1 : Int32)).fi 1007 a5) e9) hk0 (by decide)
  have w := w1
  exact sb_X9_lookAt_95 C hz2 N k46 t0 m46 i46 _ _ _ hJ hk10 w (lv_sub (l' := [(0, .ref t0), (1, .ref a6), (5, .int x5)]) hl [1, 2, 3] rfl)
def B_X9_lookAt_101 (N : Nat) (t0 : Nat) (h : Hp) : Option (Hp × Int32) := some (h, (1 : Int32))
theorem mb_X9_lookAt_101 (N : Nat) (t0 : Nat) (h : Hp) (hJ : B_X9_lookAt_101 N t0 h = some (hz, rz)) : Mo h hz := by
  unfold B_X9_lookAt_101 at hJ
  obtain ⟨rfl, -⟩ := rs2 hJ
  exact ⟨fun _ _ => rfl, Nat.le_refl _, Nat.le_refl _, rfl, fun _ _ => rfl⟩
set_option maxRecDepth 100000 in
set_option maxHeartbeats 4000000 in
theorem sb_X9_lookAt_101 (C : Cx p s m args meth c cX9_lookAt 7 (some .boolean) RX9 D cs A h0.se) (hz2 : hz.nx ≤ h0.nx + mc ∧ hz.su ≤ h0.su + ms) (N : Nat) (t0 : Nat) (h : Hp) (hJ : B_X9_lookAt_101 N t0 h = some (hz, rz)) (hk0 : h.kd t0 = 12) {H : Heap} {locs : List Loc} {cells slots : Nat} (w : Wo D cs A s h0 h H locs cells slots) {ls : Array Slot} (hl : lv_has ls 7 [(0, .ref t0)]) : W p l e { frames := 8, cells := mc, slots := ms, locals := 260 } s m args below meth c H locs cells slots (MQ below (Zi D cs A hz rz) args s mc ms A) (F0 m 101 ls []) := by
  obtain ⟨hx, hb, hml, hown, hts, -⟩ := id C
  unfold B_X9_lookAt_101 at hJ
  refine lv_iconst (v := (1 : Int32)) hx hb dX9_lookAt_101 (by decide) ?_
  obtain ⟨rfl, rfl⟩ := rs2 hJ
  exact jr_zret C w (Or.inr rfl) hz2 dX9_lookAt_102
def B_X9_lookAt_55 (N : Nat) (k46 : Hp → (Option Nat) → Int32 → Option (Hp × Int32)) (t0 : Nat) (h : Hp) (x1 : Option Nat) (x5 : Int32) (y0 : Int32) (y1 : Int32) : Option (Hp × Int32) := if y1 ≤ y0 then (B_X9_lookAt_101 N t0 h) else (dr h 10 x1 (fun a12 => if (h.fi 1005 a12) = (2 : Int32) then (B_X9_lookAt_101 N t0 h) else (dr h 2 (h.fr 1207 t0) (fun a14 => (J_Jx4a65c_get_915e3 N a14 h x5).bind (fun z => B_X9_lookAt_75 N k46 t0 z.1 (some a12) x5 z.2)))))
theorem mb_X9_lookAt_55 (N : Nat) (k46 : Hp → (Option Nat) → Int32 → Option (Hp × Int32)) (t0 : Nat) (h : Hp) (x1 : Option Nat) (x5 : Int32) (y0 : Int32) (y1 : Int32) (m46 : ∀ (h : Hp) (x1 : Option Nat) (x5 : Int32), k46 h x1 x5 = some (hz, rz) → Mo h hz) (hJ : B_X9_lookAt_55 N k46 t0 h x1 x5 y0 y1 = some (hz, rz)) : Mo h hz := by
  unfold B_X9_lookAt_55 at hJ
  by_cases c11 : y1 ≤ y0
  · have hJ := it_pos c11 hJ
    exact mb_X9_lookAt_101 N t0 _ hJ
  · have hJ := it_neg c11 hJ
    obtain ⟨a12, ea12, -, hJ⟩ := dr_some hJ
    by_cases c13 : (h.fi 1005 a12) = (2 : Int32)
    · have hJ := it_pos c13 hJ
      exact mb_X9_lookAt_101 N t0 _ hJ
    · have hJ := it_neg c13 hJ
      obtain ⟨a14, ea14, -, hJ⟩ := dr_some hJ
      obtain ⟨⟨h15, r16⟩, e17, hJ⟩ := ob_some hJ
      exact (mo_Jx4a65c_get_915e3 N a14 h x5 e17).tr (mb_X9_lookAt_75 N k46 t0 _ _ _ _ m46 hJ)
set_option maxRecDepth 100000 in
set_option maxHeartbeats 4000000 in
theorem sb_X9_lookAt_55 (C : Cx p s m args meth c cX9_lookAt 7 (some .boolean) RX9 D cs A h0.se) (hz2 : hz.nx ≤ h0.nx + mc ∧ hz.su ≤ h0.su + ms) (N : Nat) (k46 : Hp → (Option Nat) → Int32 → Option (Hp × Int32)) (t0 : Nat) (m46 : ∀ (h : Hp) (x1 : Option Nat) (x5 : Int32), k46 h x1 x5 = some (hz, rz) → Mo h hz) (i46 : ∀ (h : Hp) (x1 : Option Nat) (x5 : Int32) (H : Heap) (locs : List Loc) (cells slots : Nat) (ls : Array Slot), k46 h x1 x5 = some (hz, rz) → h.kd t0 = 12 → Wo D cs A s h0 h H locs cells slots → lv_has ls 7 [(0, .ref t0), (1, va_rf x1), (5, .int x5)] → W p l e { frames := 8, cells := mc, slots := ms, locals := 260 } s m args below meth c H locs cells slots (MQ below (Zi D cs A hz rz) args s mc ms A) (F0 m 46 ls [])) (h : Hp) (x1 : Option Nat) (x5 : Int32) (y0 : Int32) (y1 : Int32) (hJ : B_X9_lookAt_55 N k46 t0 h x1 x5 y0 y1 = some (hz, rz)) (hk0 : h.kd t0 = 12) {H : Heap} {locs : List Loc} {cells slots : Nat} (w : Wo D cs A s h0 h H locs cells slots) {ls : Array Slot} (hl : lv_has ls 7 [(0, .ref t0), (1, va_rf x1), (5, .int x5)]) : W p l e { frames := 8, cells := mc, slots := ms, locals := 260 } s m args below meth c H locs cells slots (MQ below (Zi D cs A hz rz) args s mc ms A) (F0 m 55 ls [.int y1, .int y0]) := by
  obtain ⟨hx, hb, hml, hown, hts, -⟩ := id C
  unfold B_X9_lookAt_55 at hJ
  refine lv_icmp_ge (tgt := 101) hx hb dX9_lookAt_55 (by decide) (fun c11 => ?_) (fun c11 => ?_)
  · have hJ := it_pos c11 hJ
    exact sb_X9_lookAt_101 C hz2 N t0 _ hJ hk0 w (lv_sub (l' := [(0, .ref t0)]) hl [0] rfl)
  · have hJ := it_neg c11 hJ
    refine jv_aload_n hx hb dX9_lookAt_58 rfl (lv_at hl 1 rfl) ?_
    obtain ⟨a12, ea12, hka12, hJ⟩ := dr_some hJ
    rw [ea12] at hl
    rw [ea12]
    refine fg_1005 C w hka12 tw_2_24 dX9_lookAt_59 ?_
    refine lv_iconst (v := (2 : Int32)) hx hb dX9_lookAt_62 (by decide) ?_
    refine lv_icmp_eq (tgt := 101) hx hb dX9_lookAt_63 (by decide) (fun c13 => ?_) (fun c13 => ?_)
    · have hJ := it_pos c13 hJ
      exact sb_X9_lookAt_101 C hz2 N t0 _ hJ hk0 w (lv_sub (l' := [(0, .ref t0)]) hl [0] rfl)
    · have hJ := it_neg c13 hJ
      refine lv_aload_n hx hb dX9_lookAt_66 rfl (lv_at hl 0 rfl) ?_
      refine fg_1207 C w hk0 tw_1_139 dX9_lookAt_67 ?_
      refine lv_iload hx hb dX9_lookAt_70 (lv_at hl 2 rfl) ?_
      obtain ⟨a14, ea14, hka14, hJ⟩ := dr_some hJ
      rw [ea14]
      obtain ⟨⟨h15, r16⟩, e17, hJ⟩ := ob_some hJ
      refine jc_Vq (As := [.int x5]) C w (cc_Jx4a65c_get_915e3 N a14 h x5 hka14 e17) (mo_Jx4a65c_get_915e3 N a14 h x5 e17) (mb_X9_lookAt_75 N k46 t0 _ _ _ _ m46 hJ) hz2 hka14 (by decide) rfl (fs := fs2 h a14) rfl rfl ⟨tw_2_65, tw_2_62, tw_2_63, tw_2_64, tw_1_5⟩ cd_Jx4a65c_get_915e3 ⟨by decide, by decide⟩ hl.1 (by first | exact Nat.le_of_ble_eq_true rfl | simp [rf_cat, cat_i, cat_l, cat_r]) rfl dX9_lookAt_72 (fun H locs w1 => ?_)
      have hk18 := kd_keep w (mo_Jx4a65c_get_915e3 N a14 h x5 e17) hk0 (by decide)
      have w := w1
      exact sb_X9_lookAt_75 C hz2 N k46 t0 m46 i46 _ _ _ _ hJ hk18 w hl
def B_X9_lookAt_46 (N : Nat) (k46 : Hp → (Option Nat) → Int32 → Option (Hp × Int32)) (t0 : Nat) (h : Hp) (x1 : Option Nat) (x5 : Int32) : Option (Hp × Int32) := dr h 2 (h.fr 1207 t0) (fun a19 => (J_Jx4a65c_size_8abf5 N a19 h).bind (fun z => B_X9_lookAt_55 N k46 t0 z.1 x1 x5 x5 z.2))
theorem mb_X9_lookAt_46 (N : Nat) (k46 : Hp → (Option Nat) → Int32 → Option (Hp × Int32)) (t0 : Nat) (h : Hp) (x1 : Option Nat) (x5 : Int32) (m46 : ∀ (h : Hp) (x1 : Option Nat) (x5 : Int32), k46 h x1 x5 = some (hz, rz) → Mo h hz) (hJ : B_X9_lookAt_46 N k46 t0 h x1 x5 = some (hz, rz)) : Mo h hz := by
  unfold B_X9_lookAt_46 at hJ
  obtain ⟨a19, ea19, -, hJ⟩ := dr_some hJ
  obtain ⟨⟨h20, r21⟩, e22, hJ⟩ := ob_some hJ
  exact (mo_Jx4a65c_size_8abf5 N a19 h e22).tr (mb_X9_lookAt_55 N k46 t0 _ _ _ _ _ m46 hJ)
set_option maxRecDepth 100000 in
set_option maxHeartbeats 4000000 in
theorem sb_X9_lookAt_46 (C : Cx p s m args meth c cX9_lookAt 7 (some .boolean) RX9 D cs A h0.se) (hz2 : hz.nx ≤ h0.nx + mc ∧ hz.su ≤ h0.su + ms) (N : Nat) (k46 : Hp → (Option Nat) → Int32 → Option (Hp × Int32)) (t0 : Nat) (m46 : ∀ (h : Hp) (x1 : Option Nat) (x5 : Int32), k46 h x1 x5 = some (hz, rz) → Mo h hz) (i46 : ∀ (h : Hp) (x1 : Option Nat) (x5 : Int32) (H : Heap) (locs : List Loc) (cells slots : Nat) (ls : Array Slot), k46 h x1 x5 = some (hz, rz) → h.kd t0 = 12 → Wo D cs A s h0 h H locs cells slots → lv_has ls 7 [(0, .ref t0), (1, va_rf x1), (5, .int x5)] → W p l e { frames := 8, cells := mc, slots := ms, locals := 260 } s m args below meth c H locs cells slots (MQ below (Zi D cs A hz rz) args s mc ms A) (F0 m 46 ls [])) (h : Hp) (x1 : Option Nat) (x5 : Int32) (hJ : B_X9_lookAt_46 N k46 t0 h x1 x5 = some (hz, rz)) (hk0 : h.kd t0 = 12) {H : Heap} {locs : List Loc} {cells slots : Nat} (w : Wo D cs A s h0 h H locs cells slots) {ls : Array Slot} (hl : lv_has ls 7 [(0, .ref t0), (1, va_rf x1), (5, .int x5)]) : W p l e { frames := 8, cells := mc, slots := ms, locals := 260 } s m args below meth c H locs cells slots (MQ below (Zi D cs A hz rz) args s mc ms A) (F0 m 46 ls []) := by
  obtain ⟨hx, hb, hml, hown, hts, -⟩ := id C
  unfold B_X9_lookAt_46 at hJ
  refine lv_iload hx hb dX9_lookAt_46 (lv_at hl 2 rfl) ?_
  refine lv_aload_n hx hb dX9_lookAt_48 rfl (lv_at hl 0 rfl) ?_
  refine fg_1207 C w hk0 tw_1_139 dX9_lookAt_49 ?_
  obtain ⟨a19, ea19, hka19, hJ⟩ := dr_some hJ
  rw [ea19]
  obtain ⟨⟨h20, r21⟩, e22, hJ⟩ := ob_some hJ
  refine jc_Vi (As := []) C w (cc_Jx4a65c_size_8abf5 N a19 h hka19 e22) (mo_Jx4a65c_size_8abf5 N a19 h e22) (mb_X9_lookAt_55 N k46 t0 _ _ _ _ _ m46 hJ) hz2 hka19 (by decide) rfl (fs := fs2 h a19) rfl rfl ⟨tw_1_182, tw_1_179, tw_1_180, tw_1_181, tw_1_5⟩ cd_Jx4a65c_size_8abf5 ⟨by decide, by decide⟩ hl.1 (by first | exact Nat.le_of_ble_eq_true rfl | simp [rf_cat, cat_i, cat_l, cat_r]) rfl dX9_lookAt_52 (fun H locs w1 => ?_)
  have hk23 := kd_keep w (mo_Jx4a65c_size_8abf5 N a19 h e22) hk0 (by decide)
  have w := w1
  exact sb_X9_lookAt_55 C hz2 N k46 t0 m46 i46 _ _ _ _ _ hJ hk23 w hl
def L_X9_lookAt_46 (N : Nat) (t0 : Nat) : Nat → Hp → (Option Nat) → Int32 → Option (Hp × Int32)
  | 0 => fun _ _ _ => none
  | n + 1 => fun h x1 x5 => B_X9_lookAt_46 N (L_X9_lookAt_46 N t0 n) t0 h x1 x5
theorem ml_X9_lookAt_46 (N : Nat) (t0 : Nat) : ∀ (n : Nat) (h : Hp) (x1 : Option Nat) (x5 : Int32), L_X9_lookAt_46 N t0 n h x1 x5 = some (hz, rz) → Mo h hz := by
  intro n
  induction n with
  | zero => intro h x1 x5 hJ; cases hJ
  | succ n ih => intro h x1 x5 hJ; exact mb_X9_lookAt_46 N (L_X9_lookAt_46 N t0 n) t0 h x1 x5 ih hJ
theorem sl_X9_lookAt_46 (C : Cx p s m args meth c cX9_lookAt 7 (some .boolean) RX9 D cs A h0.se) (hz2 : hz.nx ≤ h0.nx + mc ∧ hz.su ≤ h0.su + ms) (N : Nat) (t0 : Nat) : ∀ n : Nat, ∀ (h : Hp) (x1 : Option Nat) (x5 : Int32) (H : Heap) (locs : List Loc) (cells slots : Nat) (ls : Array Slot), L_X9_lookAt_46 N t0 n h x1 x5 = some (hz, rz) → h.kd t0 = 12 → Wo D cs A s h0 h H locs cells slots → lv_has ls 7 [(0, .ref t0), (1, va_rf x1), (5, .int x5)] → W p l e { frames := 8, cells := mc, slots := ms, locals := 260 } s m args below meth c H locs cells slots (MQ below (Zi D cs A hz rz) args s mc ms A) (F0 m 46 ls []) := by
  intro n
  induction n with
  | zero => intro h x1 x5 H locs cells slots ls hJ; cases hJ
  | succ n ih =>
    intro h x1 x5 H locs cells slots ls hJ hk0 w hl
    exact sb_X9_lookAt_46 C hz2 N (L_X9_lookAt_46 N t0 n) t0 (ml_X9_lookAt_46 N t0 n) ih h x1 x5 hJ hk0 w hl
def B_X9_lookAt_43 (N : Nat) (t0 : Nat) (h : Hp) (x1 : Option Nat) : Option (Hp × Int32) := L_X9_lookAt_46 N t0 N h x1 (0 : Int32)
theorem mb_X9_lookAt_43 (N : Nat) (t0 : Nat) (h : Hp) (x1 : Option Nat) (hJ : B_X9_lookAt_43 N t0 h x1 = some (hz, rz)) : Mo h hz := by
  unfold B_X9_lookAt_43 at hJ
  exact ml_X9_lookAt_46 N t0 N _ _ _ hJ
set_option maxRecDepth 100000 in
set_option maxHeartbeats 4000000 in
theorem sb_X9_lookAt_43 (C : Cx p s m args meth c cX9_lookAt 7 (some .boolean) RX9 D cs A h0.se) (hz2 : hz.nx ≤ h0.nx + mc ∧ hz.su ≤ h0.su + ms) (N : Nat) (t0 : Nat) (h : Hp) (x1 : Option Nat) (hJ : B_X9_lookAt_43 N t0 h x1 = some (hz, rz)) (hk0 : h.kd t0 = 12) {H : Heap} {locs : List Loc} {cells slots : Nat} (w : Wo D cs A s h0 h H locs cells slots) {ls : Array Slot} (hl : lv_has ls 7 [(0, .ref t0), (1, va_rf x1)]) : W p l e { frames := 8, cells := mc, slots := ms, locals := 260 } s m args below meth c H locs cells slots (MQ below (Zi D cs A hz rz) args s mc ms A) (F0 m 43 ls []) := by
  obtain ⟨hx, hb, hml, hown, hts, -⟩ := id C
  unfold B_X9_lookAt_43 at hJ
  refine lv_iconst (v := (0 : Int32)) hx hb dX9_lookAt_43 (by decide) ?_
  refine lv_istore (i := 5) (lv' := [(5, .int (0 : Int32)), (0, .ref t0), (1, va_rf x1)]) hx hb dX9_lookAt_44 hl (by decide) rfl (fun ls hl => ?_)
  exact sl_X9_lookAt_46 C hz2 N t0 N _ _ _ _ _ _ _ _ hJ hk0 w (lv_sub (l' := [(0, .ref t0), (1, va_rf x1), (5, .int (0 : Int32))]) hl [1, 2, 0] rfl)
def B_X9_lookAt_12 (N : Nat) (t0 : Nat) (h : Hp) (x1 : Option Nat) (x2 : Int32) (x3 : Int32) (y0 : Option Nat) : Option (Hp × Int32) := nl y0 (dr h 10 x1 (fun a25 => dr h 9 (h.fr 1003 a25) (fun a26 => (J_X6_add N a26 h x2 x3).bind (fun z => B_X9_lookAt_43 N t0 z.1 (some a25))))) (fun a24 => (J_X9_blameDanger N t0 h x1 (some a24)).bind (fun z => B_X9_lookAt_26 N t0 z.1 x1))
theorem mb_X9_lookAt_12 (N : Nat) (t0 : Nat) (h : Hp) (x1 : Option Nat) (x2 : Int32) (x3 : Int32) (y0 : Option Nat) (hJ : B_X9_lookAt_12 N t0 h x1 x2 x3 y0 = some (hz, rz)) : Mo h hz := by
  unfold B_X9_lookAt_12 at hJ
  cases ea24 : y0 with
  | none =>
    have hJ := nl_none ea24 hJ
    obtain ⟨a25, ea25, -, hJ⟩ := dr_some hJ
    obtain ⟨a26, ea26, -, hJ⟩ := dr_some hJ
    obtain ⟨⟨h27, r28⟩, e29, hJ⟩ := ob_some hJ
    exact (mo_X6_add N a26 h x2 x3 e29).tr (mb_X9_lookAt_43 N t0 _ _ hJ)
  | some a24 =>
    have hJ := nl_some ea24 hJ
    obtain ⟨⟨h31, r32⟩, e33, hJ⟩ := ob_some hJ
    exact (mo_X9_blameDanger N t0 h x1 (some a24) e33).tr (mb_X9_lookAt_26 N t0 _ _ hJ)
set_option maxRecDepth 100000 in
set_option maxHeartbeats 4000000 in
theorem sb_X9_lookAt_12 (C : Cx p s m args meth c cX9_lookAt 7 (some .boolean) RX9 D cs A h0.se) (hz2 : hz.nx ≤ h0.nx + mc ∧ hz.su ≤ h0.su + ms) (N : Nat) (t0 : Nat) (h : Hp) (x1 : Option Nat) (x2 : Int32) (x3 : Int32) (y0 : Option Nat) (hJ : B_X9_lookAt_12 N t0 h x1 x2 x3 y0 = some (hz, rz)) (hk0 : h.kd t0 = 12) {H : Heap} {locs : List Loc} {cells slots : Nat} (w : Wo D cs A s h0 h H locs cells slots) {ls : Array Slot} (hl : lv_has ls 7 [(0, .ref t0), (1, va_rf x1), (2, .int x2), (3, .int x3)]) : W p l e { frames := 8, cells := mc, slots := ms, locals := 260 } s m args below meth c H locs cells slots (MQ below (Zi D cs A hz rz) args s mc ms A) (F0 m 12 ls [va_rf y0]) := by
  obtain ⟨hx, hb, hml, hown, hts, -⟩ := id C
  unfold B_X9_lookAt_12 at hJ
  refine jv_astore (i := 4) (lv' := [(4, va_rf y0), (0, .ref t0), (1, va_rf x1), (2, .int x2), (3, .int x3)]) hx hb dX9_lookAt_12 hl (by decide) rfl (fun ls hl => ?_)
  refine jv_aload hx hb dX9_lookAt_14 (lv_at hl 0 rfl) ?_
  refine jv_ifnull (tgt := 34) hx hb dX9_lookAt_16 (by decide) (fun ea24 => ?_) (fun a24 ea24 => ?_)
  · have hJ := nl_none ea24 hJ
    refine jv_aload_n hx hb dX9_lookAt_34 rfl (lv_at hl 2 rfl) ?_
    obtain ⟨a25, ea25, hka25, hJ⟩ := dr_some hJ
    rw [ea25] at hl
    rw [ea25]
    refine fg_1003 C w hka25 tw_2_19 dX9_lookAt_35 ?_
    refine lv_iload_n hx hb dX9_lookAt_38 rfl (lv_at hl 3 rfl) ?_
    refine lv_iload_n hx hb dX9_lookAt_39 rfl (lv_at hl 4 rfl) ?_
    obtain ⟨a26, ea26, hka26, hJ⟩ := dr_some hJ
    rw [ea26]
    obtain ⟨⟨h27, r28⟩, e29, hJ⟩ := ob_some hJ
    refine jc_Vv (As := [.int x2, .int x3]) C w (cc_X6_add N a26 h x2 x3 hka26 e29) (mo_X6_add N a26 h x2 x3 e29) (mb_X9_lookAt_43 N t0 _ _ hJ) hz2 hka26 (by decide) rfl (fs := fs9 h a26) rfl rfl ⟨tw_5_212, tw_5_209, tw_5_210, tw_5_211, tw_1_10⟩ cd_X6_add ⟨by decide, by decide⟩ hl.1 (by first | exact Nat.le_of_ble_eq_true rfl | simp [rf_cat, cat_i, cat_l, cat_r]) rfl dX9_lookAt_40 (fun H locs w1 => ?_)
    have hk30 := kd_keep w (mo_X6_add N a26 h x2 x3 e29) hk0 (by decide)
    have w := w1
    exact sb_X9_lookAt_43 C hz2 N t0 _ _ hJ hk30 w (lv_sub (l' := [(0, .ref t0), (1, .ref a25)]) hl [1, 2] rfl)
  · have hJ := nl_some ea24 hJ
    rw [ea24] at hl
    refine lv_aload_n hx hb dX9_lookAt_19 rfl (lv_at hl 1 rfl) ?_
    refine jv_aload_n hx hb dX9_lookAt_20 rfl (lv_at hl 2 rfl) ?_
    refine lv_aload hx hb dX9_lookAt_21 (lv_at hl 0 rfl) ?_
    obtain ⟨⟨h31, r32⟩, e33, hJ⟩ := ob_some hJ
    refine jc_Vv (As := [va_rf x1, .ref a24]) C w (cc_X9_blameDanger N t0 h x1 (some a24) hk0 e33) (mo_X9_blameDanger N t0 h x1 (some a24) e33) (mb_X9_lookAt_26 N t0 _ _ hJ) hz2 hk0 (by decide) rfl (fs := fs12 h t0) rfl rfl ⟨tw_5_195, tw_5_192, tw_5_194, ts_22, tw_1_1⟩ cd_X9_blameDanger ⟨by decide, by decide⟩ hl.1 (by first | exact Nat.le_of_ble_eq_true rfl | simp [rf_cat, cat_i, cat_l, cat_r]) rfl dX9_lookAt_23 (fun H locs w1 => ?_)
    have hk34 := kd_keep w (mo_X9_blameDanger N t0 h x1 (some a24) e33) hk0 (by decide)
    have w := w1
    exact sb_X9_lookAt_26 C hz2 N t0 _ _ hJ hk34 w (lv_sub (l' := [(0, .ref t0), (1, va_rf x1)]) hl [1, 2] rfl)
def B_X9_lookAt_7 (N : Nat) (t0 : Nat) (h : Hp) (x1 : Option Nat) (x2 : Int32) (x3 : Int32) : Option (Hp × Int32) := (J_X9_forbiddenOverwriter N t0 h x1).bind (fun z => B_X9_lookAt_12 N t0 z.1 x1 x2 x3 z.2)
theorem mb_X9_lookAt_7 (N : Nat) (t0 : Nat) (h : Hp) (x1 : Option Nat) (x2 : Int32) (x3 : Int32) (hJ : B_X9_lookAt_7 N t0 h x1 x2 x3 = some (hz, rz)) : Mo h hz := by
  unfold B_X9_lookAt_7 at hJ
  obtain ⟨⟨h35, r36⟩, e37, hJ⟩ := ob_some hJ
  exact (mo_X9_forbiddenOverwriter N t0 h x1 e37).tr (mb_X9_lookAt_12 N t0 _ _ _ _ _ hJ)
set_option maxRecDepth 100000 in
set_option maxHeartbeats 4000000 in
theorem sb_X9_lookAt_7 (C : Cx p s m args meth c cX9_lookAt 7 (some .boolean) RX9 D cs A h0.se) (hz2 : hz.nx ≤ h0.nx + mc ∧ hz.su ≤ h0.su + ms) (N : Nat) (t0 : Nat) (h : Hp) (x1 : Option Nat) (x2 : Int32) (x3 : Int32) (hJ : B_X9_lookAt_7 N t0 h x1 x2 x3 = some (hz, rz)) (hk0 : h.kd t0 = 12) {H : Heap} {locs : List Loc} {cells slots : Nat} (w : Wo D cs A s h0 h H locs cells slots) {ls : Array Slot} (hl : lv_has ls 7 [(0, .ref t0), (1, va_rf x1), (2, .int x2), (3, .int x3)]) : W p l e { frames := 8, cells := mc, slots := ms, locals := 260 } s m args below meth c H locs cells slots (MQ below (Zi D cs A hz rz) args s mc ms A) (F0 m 7 ls []) := by
  obtain ⟨hx, hb, hml, hown, hts, -⟩ := id C
  unfold B_X9_lookAt_7 at hJ
  refine lv_aload_n hx hb dX9_lookAt_7 rfl (lv_at hl 0 rfl) ?_
  refine jv_aload_n hx hb dX9_lookAt_8 rfl (lv_at hl 1 rfl) ?_
  obtain ⟨⟨h35, r36⟩, e37, hJ⟩ := ob_some hJ
  refine jc_Vq (As := [va_rf x1]) C w (cc_X9_forbiddenOverwriter N t0 h x1 hk0 e37) (mo_X9_forbiddenOverwriter N t0 h x1 e37) (mb_X9_lookAt_12 N t0 _ _ _ _ _ hJ) hz2 hk0 (by decide) rfl (fs := fs12 h t0) rfl rfl ⟨tw_5_187, tw_5_184, tw_5_186, ts_21, tw_1_1⟩ cd_X9_forbiddenOverwriter ⟨by decide, by decide⟩ hl.1 (by first | exact Nat.le_of_ble_eq_true rfl | simp [rf_cat, cat_i, cat_l, cat_r]) rfl dX9_lookAt_9 (fun H locs w1 => ?_)
  have hk38 := kd_keep w (mo_X9_forbiddenOverwriter N t0 h x1 e37) hk0 (by decide)
  have w := w1
  exact sb_X9_lookAt_12 C hz2 N t0 _ _ _ _ _ hJ hk38 w hl
def B_X9_lookAt_0 (N : Nat) (t0 : Nat) (h : Hp) (x1 : Option Nat) (x2 : Int32) (x3 : Int32) : Option (Hp × Int32) := (J_X9_gatherOverwriters N t0 h x1 x2 x3).bind (fun z => B_X9_lookAt_7 N t0 z.1 x1 x2 x3)
theorem mb_X9_lookAt_0 (N : Nat) (t0 : Nat) (h : Hp) (x1 : Option Nat) (x2 : Int32) (x3 : Int32) (hJ : B_X9_lookAt_0 N t0 h x1 x2 x3 = some (hz, rz)) : Mo h hz := by
  unfold B_X9_lookAt_0 at hJ
  obtain ⟨⟨h39, r40⟩, e41, hJ⟩ := ob_some hJ
  exact (mo_X9_gatherOverwriters N t0 h x1 x2 x3 e41).tr (mb_X9_lookAt_7 N t0 _ _ _ _ hJ)
set_option maxRecDepth 100000 in
set_option maxHeartbeats 4000000 in
theorem sb_X9_lookAt_0 (C : Cx p s m args meth c cX9_lookAt 7 (some .boolean) RX9 D cs A h0.se) (hz2 : hz.nx ≤ h0.nx + mc ∧ hz.su ≤ h0.su + ms) (N : Nat) (t0 : Nat) (h : Hp) (x1 : Option Nat) (x2 : Int32) (x3 : Int32) (hJ : B_X9_lookAt_0 N t0 h x1 x2 x3 = some (hz, rz)) (hk0 : h.kd t0 = 12) {H : Heap} {locs : List Loc} {cells slots : Nat} (w : Wo D cs A s h0 h H locs cells slots) {ls : Array Slot} (hl : lv_has ls 7 [(0, .ref t0), (1, va_rf x1), (2, .int x2), (3, .int x3)]) : W p l e { frames := 8, cells := mc, slots := ms, locals := 260 } s m args below meth c H locs cells slots (MQ below (Zi D cs A hz rz) args s mc ms A) (F0 m 0 ls []) := by
  obtain ⟨hx, hb, hml, hown, hts, -⟩ := id C
  unfold B_X9_lookAt_0 at hJ
  refine lv_aload_n hx hb dX9_lookAt_0 rfl (lv_at hl 0 rfl) ?_
  refine jv_aload_n hx hb dX9_lookAt_1 rfl (lv_at hl 1 rfl) ?_
  refine lv_iload_n hx hb dX9_lookAt_2 rfl (lv_at hl 2 rfl) ?_
  refine lv_iload_n hx hb dX9_lookAt_3 rfl (lv_at hl 3 rfl) ?_
  obtain ⟨⟨h39, r40⟩, e41, hJ⟩ := ob_some hJ
  refine jc_Vv (As := [va_rf x1, .int x2, .int x3]) C w (cc_X9_gatherOverwriters N t0 h x1 x2 x3 hk0 e41) (mo_X9_gatherOverwriters N t0 h x1 x2 x3 e41) (mb_X9_lookAt_7 N t0 _ _ _ _ hJ) hz2 hk0 (by decide) rfl (fs := fs12 h t0) rfl rfl ⟨tw_5_178, tw_5_175, tw_5_177, ts_20, tw_1_1⟩ cd_X9_gatherOverwriters ⟨by decide, by decide⟩ hl.1 (by first | exact Nat.le_of_ble_eq_true rfl | simp [rf_cat, cat_i, cat_l, cat_r]) rfl dX9_lookAt_4 (fun H locs w1 => ?_)
  have hk42 := kd_keep w (mo_X9_gatherOverwriters N t0 h x1 x2 x3 e41) hk0 (by decide)
  have w := w1
  exact sb_X9_lookAt_7 C hz2 N t0 _ _ _ _ hJ hk42 w hl
def J_X9_lookAt (N : Nat) (t0 : Nat) (h : Hp) (x1 : Option Nat) (x2 : Int32) (x3 : Int32) : Option (Hp × Int32) := B_X9_lookAt_0 N t0 h x1 x2 x3
theorem mo_X9_lookAt (N : Nat) (t0 : Nat) (h : Hp) (x1 : Option Nat) (x2 : Int32) (x3 : Int32) (hJ : J_X9_lookAt N t0 h x1 x2 x3 = some (hz, rz)) : Mo h hz := mb_X9_lookAt_0 N t0 h x1 x2 x3 hJ
theorem cd_X9_lookAt : Cd yX9_lookAt 3 := ⟨by decide +kernel, by decide +kernel, by decide +kernel⟩
theorem cc_X9_lookAt (N : Nat) (t0 : Nat) (h : Hp) (x1 : Option Nat) (x2 : Int32) (x3 : Int32) (hk0 : h.kd t0 = 12) (hJ : J_X9_lookAt N t0 h x1 x2 x3 = some (hz, rz)) : Ci l yX9_lookAt cX9_lookAt 7 (some .boolean) 8 260 D cs h hz [.ref t0, va_rf x1, .int x2, .int x3] rz := by
  intro mc ms g1 g2
  refine je_any (by decide) (by simp [lg_sl, rf_cat, cat_i, cat_l, cat_r]) ?_
  intro p e s m args below meth c C hin2 w ls hl
  have hl : lv_has ls 7 [(0, .ref t0), (1, va_rf x1), (2, .int x2), (3, .int x3)] := by simpa [lv_args, rf_cat, cat_i, cat_l, cat_r] using hl
  exact sb_X9_lookAt_0 C ⟨g1, g2⟩ N t0 h x1 x2 x3 hJ hk0 w hl
end G_X9_lookAt
section G_X9_carryOut
variable {p : Program} {l : Launch} {e : Env} {s : State} {m : MethodId} {args : Array Value} {below : List Frame} {meth : Method} {c : Code} {D : va_G} {cs : C4} {A : Nat → Prop} {h0 hz : Hp} {mc ms : Nat} {rz : Int32}
def B_X9_carryOut_130 (N : Nat) (t0 : Nat) (h : Hp) : Option (Hp × Int32) := dr h 3 (h.fr 1206 t0) (fun a1 => some (h, h.fi 300 a1))
theorem mb_X9_carryOut_130 (N : Nat) (t0 : Nat) (h : Hp) (hJ : B_X9_carryOut_130 N t0 h = some (hz, rz)) : Mo h hz := by
  unfold B_X9_carryOut_130 at hJ
  obtain ⟨a1, ea1, -, hJ⟩ := dr_some hJ
  obtain ⟨rfl, -⟩ := rs2 hJ
  exact ⟨fun _ _ => rfl, Nat.le_refl _, Nat.le_refl _, rfl, fun _ _ => rfl⟩
set_option maxRecDepth 100000 in
set_option maxHeartbeats 4000000 in
theorem sb_X9_carryOut_130 (C : Cx p s m args meth c cX9_carryOut 3 (some .int) RX9 D cs A h0.se) (hz2 : hz.nx ≤ h0.nx + mc ∧ hz.su ≤ h0.su + ms) (N : Nat) (t0 : Nat) (h : Hp) (hJ : B_X9_carryOut_130 N t0 h = some (hz, rz)) (hk0 : h.kd t0 = 12) {H : Heap} {locs : List Loc} {cells slots : Nat} (w : Wo D cs A s h0 h H locs cells slots) {ls : Array Slot} (hl : lv_has ls 3 [(0, .ref t0)]) : W p l e { frames := 9, cells := mc, slots := ms, locals := 290 } s m args below meth c H locs cells slots (MQ below (Zi D cs A hz rz) args s mc ms A) (F0 m 130 ls []) := by
  obtain ⟨hx, hb, hml, hown, hts, -⟩ := id C
  unfold B_X9_carryOut_130 at hJ
  refine lv_aload_n hx hb dX9_carryOut_130 rfl (lv_at hl 0 rfl) ?_
  refine fg_1206 C w hk0 tw_1_138 dX9_carryOut_131 ?_
  obtain ⟨a1, ea1, hka1, hJ⟩ := dr_some hJ
  rw [ea1]
  refine fg_300 C w hka1 tw_1_90 dX9_carryOut_134 ?_
  obtain ⟨rfl, rfl⟩ := rs2 hJ
  exact jr_iret C w hz2 dX9_carryOut_137
def B_X9_carryOut_98 (N : Nat) (t0 : Nat) (h : Hp) : Option (Hp × Int32) := dr h 3 (h.fr 1206 t0) (fun a2 => if (h.fi 301 a2) = 0 then (B_X9_carryOut_130 N t0 h) else (dr h 3 (h.fr 1206 t0) (fun a4 => dr (h.sfi 1209 t0 (h.fi 302 a4)) 3 ((h.sfi 1209 t0 (h.fi 302 a4)).fr 1206 t0) (fun a5 => B_X9_carryOut_130 N t0 ((h.sfi 1209 t0 (h.fi 302 a4)).sfl 1210 t0 ((h.sfi 1209 t0 (h.fi 302 a4)).fl 303 a5))))))
theorem mb_X9_carryOut_98 (N : Nat) (t0 : Nat) (h : Hp) (hJ : B_X9_carryOut_98 N t0 h = some (hz, rz)) : Mo h hz := by
  unfold B_X9_carryOut_98 at hJ
  obtain ⟨a2, ea2, -, hJ⟩ := dr_some hJ
  by_cases c3 : (h.fi 301 a2) = 0
  · have hJ := it_pos c3 hJ
    exact mb_X9_carryOut_130 N t0 _ hJ
  · have hJ := it_neg c3 hJ
    obtain ⟨a4, ea4, -, hJ⟩ := dr_some hJ
    obtain ⟨a5, ea5, -, hJ⟩ := dr_some hJ
    exact (Mo.tr (show Mo h ((h.sfi 1209 t0 (h.fi 302 a4)).sfl 1210 t0 ((h.sfi 1209 t0 (h.fi 302 a4)).fl 303 a5)) from ⟨fun _ _ => rfl, Nat.le_refl _, Nat.le_refl _, rfl, fun _ _ => rfl⟩) (mb_X9_carryOut_130 N t0 _ hJ))
set_option maxRecDepth 100000 in
set_option maxHeartbeats 4000000 in
theorem sb_X9_carryOut_98 (C : Cx p s m args meth c cX9_carryOut 3 (some .int) RX9 D cs A h0.se) (hz2 : hz.nx ≤ h0.nx + mc ∧ hz.su ≤ h0.su + ms) (N : Nat) (t0 : Nat) (h : Hp) (hJ : B_X9_carryOut_98 N t0 h = some (hz, rz)) (hk0 : h.kd t0 = 12) {H : Heap} {locs : List Loc} {cells slots : Nat} (w : Wo D cs A s h0 h H locs cells slots) {ls : Array Slot} (hl : lv_has ls 3 [(0, .ref t0)]) : W p l e { frames := 9, cells := mc, slots := ms, locals := 290 } s m args below meth c H locs cells slots (MQ below (Zi D cs A hz rz) args s mc ms A) (F0 m 98 ls []) := by
  obtain ⟨hx, hb, hml, hown, hts, -⟩ := id C
  unfold B_X9_carryOut_98 at hJ
  refine lv_aload_n hx hb dX9_carryOut_98 rfl (lv_at hl 0 rfl) ?_
  refine fg_1206 C w hk0 tw_1_138 dX9_carryOut_99 ?_
  obtain ⟨a2, ea2, hka2, hJ⟩ := dr_some hJ
  rw [ea2]
  refine fg_301 C w hka2 tw_1_92 dX9_carryOut_102 ?_
  refine lv_if_eq (tgt := 130) hx hb dX9_carryOut_105 (by decide) (fun c3 => ?_) (fun c3 => ?_)
  · have hJ := it_pos c3 hJ
    exact sb_X9_carryOut_130 C hz2 N t0 _ hJ hk0 w hl
  · have hJ := it_neg c3 hJ
    refine lv_aload_n hx hb dX9_carryOut_108 rfl (lv_at hl 0 rfl) ?_
    refine lv_aload_n hx hb dX9_carryOut_109 rfl (lv_at hl 0 rfl) ?_
    refine fg_1206 C w hk0 tw_1_138 dX9_carryOut_110 ?_
    obtain ⟨a4, ea4, hka4, hJ⟩ := dr_some hJ
    rw [ea4]
    refine fg_302 C w hka4 tw_1_94 dX9_carryOut_113 ?_
    refine fp_1209 (x := h.fi 302 a4) C w hk0 tw_1_141 dX9_carryOut_116 (fun H locs w => ?_)
    refine lv_aload_n hx hb dX9_carryOut_119 rfl (lv_at hl 0 rfl) ?_
    refine lv_aload_n hx hb dX9_carryOut_120 rfl (lv_at hl 0 rfl) ?_
    refine fg_1206 C w hk0 tw_1_138 dX9_carryOut_121 ?_
    obtain ⟨a5, ea5, hka5, hJ⟩ := dr_some hJ
    rw [ea5]
    refine fg_303 C w hka5 tw_1_96 dX9_carryOut_124 ?_
    refine fp_1210 (x := (h.sfi 1209 t0 (h.fi 302 a4)).fl 303 a5) C w hk0 tw_1_142 dX9_carryOut_127 (fun H locs w => ?_)
    exact sb_X9_carryOut_130 C hz2 N t0 _ hJ hk0 w hl
def B_X9_carryOut_82 (N : Nat) (t0 : Nat) (h : Hp) (x2 : Option Nat) : Option (Hp × Int32) := dr h 5 x2 (fun a6 => if (h.fi 500 a6) = (2 : Int32) then (B_X9_carryOut_98 N t0 (h.sfr 1211 t0 (h.fr 506 a6))) else (B_X9_carryOut_98 N t0 h))
theorem mb_X9_carryOut_82 (N : Nat) (t0 : Nat) (h : Hp) (x2 : Option Nat) (hJ : B_X9_carryOut_82 N t0 h x2 = some (hz, rz)) : Mo h hz := by
  unfold B_X9_carryOut_82 at hJ
  obtain ⟨a6, ea6, -, hJ⟩ := dr_some hJ
  by_cases c7 : (h.fi 500 a6) = (2 : Int32)
  · have hJ := it_pos c7 hJ
    exact (Mo.tr (show Mo h (h.sfr 1211 t0 (h.fr 506 a6)) from ⟨fun _ _ => rfl, Nat.le_refl _, Nat.le_refl _, rfl, fun _ _ => rfl⟩) (mb_X9_carryOut_98 N t0 _ hJ))
  · have hJ := it_neg c7 hJ
    exact mb_X9_carryOut_98 N t0 _ hJ
set_option maxRecDepth 100000 in
set_option maxHeartbeats 4000000 in
theorem sb_X9_carryOut_82 (C : Cx p s m args meth c cX9_carryOut 3 (some .int) RX9 D cs A h0.se) (hz2 : hz.nx ≤ h0.nx + mc ∧ hz.su ≤ h0.su + ms) (N : Nat) (t0 : Nat) (h : Hp) (x2 : Option Nat) (hJ : B_X9_carryOut_82 N t0 h x2 = some (hz, rz)) (hk0 : h.kd t0 = 12) {H : Heap} {locs : List Loc} {cells slots : Nat} (w : Wo D cs A s h0 h H locs cells slots) {ls : Array Slot} (hl : lv_has ls 3 [(0, .ref t0), (2, va_rf x2)]) : W p l e { frames := 9, cells := mc, slots := ms, locals := 290 } s m args below meth c H locs cells slots (MQ below (Zi D cs A hz rz) args s mc ms A) (F0 m 82 ls []) := by
  obtain ⟨hx, hb, hml, hown, hts, -⟩ := id C
  unfold B_X9_carryOut_82 at hJ
  refine jv_aload_n hx hb dX9_carryOut_82 rfl (lv_at hl 1 rfl) ?_
  obtain ⟨a6, ea6, hka6, hJ⟩ := dr_some hJ
  rw [ea6] at hl
  rw [ea6]
  refine fg_500 C w hka6 tw_5_138 dX9_carryOut_83 ?_
  refine lv_iconst (v := (2 : Int32)) hx hb dX9_carryOut_86 (by decide) ?_
  refine lv_icmp_ne (tgt := 98) hx hb dX9_carryOut_87 (by decide) (fun c7 => ?_) (fun c7 => ?_)
  · have hJ := it_neg c7 hJ
    exact sb_X9_carryOut_98 C hz2 N t0 _ hJ hk0 w (lv_sub (l' := [(0, .ref t0)]) hl [0] rfl)
  · have hJ := it_pos c7 hJ
    refine lv_aload_n hx hb dX9_carryOut_90 rfl (lv_at hl 0 rfl) ?_
    refine lv_aload_n hx hb dX9_carryOut_91 rfl (lv_at hl 1 rfl) ?_
    refine fg_506 C w hka6 tw_5_150 dX9_carryOut_92 ?_
    refine fp_1211 (x := h.fr 506 a6) C w hk0 tw_1_143 dX9_carryOut_95 (fun H locs w => ?_)
    exact sb_X9_carryOut_98 C hz2 N t0 _ hJ hk0 w (lv_sub (l' := [(0, .ref t0)]) hl [0] rfl)
def B_X9_carryOut_79 (N : Nat) (t0 : Nat) (h : Hp) (x2 : Option Nat) (y0 : Option Nat) (y1 : Option Nat) : Option (Hp × Int32) := dr h 5 y0 (fun a8 => B_X9_carryOut_82 N t0 (h.sfr 506 a8 y1) x2)
theorem mb_X9_carryOut_79 (N : Nat) (t0 : Nat) (h : Hp) (x2 : Option Nat) (y0 : Option Nat) (y1 : Option Nat) (hJ : B_X9_carryOut_79 N t0 h x2 y0 y1 = some (hz, rz)) : Mo h hz := by
  unfold B_X9_carryOut_79 at hJ
  obtain ⟨a8, ea8, -, hJ⟩ := dr_some hJ
  exact (Mo.tr (show Mo h (h.sfr 506 a8 y1) from ⟨fun _ _ => rfl, Nat.le_refl _, Nat.le_refl _, rfl, fun _ _ => rfl⟩) (mb_X9_carryOut_82 N t0 _ _ hJ))
set_option maxRecDepth 100000 in
set_option maxHeartbeats 4000000 in
theorem sb_X9_carryOut_79 (C : Cx p s m args meth c cX9_carryOut 3 (some .int) RX9 D cs A h0.se) (hz2 : hz.nx ≤ h0.nx + mc ∧ hz.su ≤ h0.su + ms) (N : Nat) (t0 : Nat) (h : Hp) (x2 : Option Nat) (y0 : Option Nat) (y1 : Option Nat) (hJ : B_X9_carryOut_79 N t0 h x2 y0 y1 = some (hz, rz)) (hk0 : h.kd t0 = 12) {H : Heap} {locs : List Loc} {cells slots : Nat} (w : Wo D cs A s h0 h H locs cells slots) {ls : Array Slot} (hl : lv_has ls 3 [(0, .ref t0), (2, va_rf x2)]) : W p l e { frames := 9, cells := mc, slots := ms, locals := 290 } s m args below meth c H locs cells slots (MQ below (Zi D cs A hz rz) args s mc ms A) (F0 m 79 ls [va_rf y1, va_rf y0]) := by
  obtain ⟨hx, hb, hml, hown, hts, -⟩ := id C
  unfold B_X9_carryOut_79 at hJ
  obtain ⟨a8, ea8, hka8, hJ⟩ := dr_some hJ
  rw [ea8]
  refine fp_506 (x := y1) C w hka8 tw_5_150 dX9_carryOut_79 (fun H locs w => ?_)
  exact sb_X9_carryOut_82 C hz2 N t0 _ _ hJ hk0 w hl
def B_X9_carryOut_68 (N : Nat) (t0 : Nat) (h : Hp) (x2 : Option Nat) (y0 : Int32) : Option (Hp × Int32) := if y0 = 0 then (B_X9_carryOut_82 N t0 h x2) else (dr h 3 (h.fr 1206 t0) (fun a10 => (J_X0_copy N a10 h).bind (fun z => B_X9_carryOut_79 N t0 z.1 x2 x2 z.2)))
theorem mb_X9_carryOut_68 (N : Nat) (t0 : Nat) (h : Hp) (x2 : Option Nat) (y0 : Int32) (hJ : B_X9_carryOut_68 N t0 h x2 y0 = some (hz, rz)) : Mo h hz := by
  unfold B_X9_carryOut_68 at hJ
  by_cases c9 : y0 = 0
  · have hJ := it_pos c9 hJ
    exact mb_X9_carryOut_82 N t0 _ _ hJ
  · have hJ := it_neg c9 hJ
    obtain ⟨a10, ea10, -, hJ⟩ := dr_some hJ
    obtain ⟨⟨h11, r12⟩, e13, hJ⟩ := ob_some hJ
    exact (mo_X0_copy N a10 h e13).tr (mb_X9_carryOut_79 N t0 _ _ _ _ hJ)
set_option maxRecDepth 100000 in
set_option maxHeartbeats 4000000 in
theorem sb_X9_carryOut_68 (C : Cx p s m args meth c cX9_carryOut 3 (some .int) RX9 D cs A h0.se) (hz2 : hz.nx ≤ h0.nx + mc ∧ hz.su ≤ h0.su + ms) (N : Nat) (t0 : Nat) (h : Hp) (x2 : Option Nat) (y0 : Int32) (hJ : B_X9_carryOut_68 N t0 h x2 y0 = some (hz, rz)) (hk0 : h.kd t0 = 12) {H : Heap} {locs : List Loc} {cells slots : Nat} (w : Wo D cs A s h0 h H locs cells slots) {ls : Array Slot} (hl : lv_has ls 3 [(0, .ref t0), (2, va_rf x2)]) : W p l e { frames := 9, cells := mc, slots := ms, locals := 290 } s m args below meth c H locs cells slots (MQ below (Zi D cs A hz rz) args s mc ms A) (F0 m 68 ls [.int y0]) := by
  obtain ⟨hx, hb, hml, hown, hts, -⟩ := id C
  unfold B_X9_carryOut_68 at hJ
  refine lv_if_eq (tgt := 82) hx hb dX9_carryOut_68 (by decide) (fun c9 => ?_) (fun c9 => ?_)
  · have hJ := it_pos c9 hJ
    exact sb_X9_carryOut_82 C hz2 N t0 _ _ hJ hk0 w hl
  · have hJ := it_neg c9 hJ
    refine jv_aload_n hx hb dX9_carryOut_71 rfl (lv_at hl 1 rfl) ?_
    refine lv_aload_n hx hb dX9_carryOut_72 rfl (lv_at hl 0 rfl) ?_
    refine fg_1206 C w hk0 tw_1_138 dX9_carryOut_73 ?_
    obtain ⟨a10, ea10, hka10, hJ⟩ := dr_some hJ
    rw [ea10]
    obtain ⟨⟨h11, r12⟩, e13, hJ⟩ := ob_some hJ
    refine jc_Vq (As := []) C w (cc_X0_copy N a10 h hka10 e13) (mo_X0_copy N a10 h e13) (mb_X9_carryOut_79 N t0 _ _ _ _ hJ) hz2 hka10 (by decide) rfl (fs := fs3 h a10) rfl rfl ⟨tw_6_3, tw_6_0, tw_6_1, tw_6_2, tw_1_6⟩ cd_X0_copy ⟨by decide, by decide⟩ hl.1 (by first | exact Nat.le_of_ble_eq_true rfl | simp [rf_cat, cat_i, cat_l, cat_r]) rfl dX9_carryOut_76 (fun H locs w1 => ?_)
    have hk14 := kd_keep w (mo_X0_copy N a10 h e13) hk0 (by decide)
    have w := w1
    exact sb_X9_carryOut_79 C hz2 N t0 _ _ _ _ hJ hk14 w hl
def B_X9_carryOut_63 (N : Nat) (t0 : Nat) (h : Hp) (x2 : Option Nat) (y0 : Int32) : Option (Hp × Int32) := dr h 5 x2 (fun a15 => (J_X2_isLooking N a15 h).bind (fun z => B_X9_carryOut_68 N t0 z.1 (some a15) z.2))
theorem mb_X9_carryOut_63 (N : Nat) (t0 : Nat) (h : Hp) (x2 : Option Nat) (y0 : Int32) (hJ : B_X9_carryOut_63 N t0 h x2 y0 = some (hz, rz)) : Mo h hz := by
  unfold B_X9_carryOut_63 at hJ
  obtain ⟨a15, ea15, -, hJ⟩ := dr_some hJ
  obtain ⟨⟨h16, r17⟩, e18, hJ⟩ := ob_some hJ
  exact (mo_X2_isLooking N a15 h e18).tr (mb_X9_carryOut_68 N t0 _ _ _ hJ)
set_option maxRecDepth 100000 in
set_option maxHeartbeats 4000000 in
theorem sb_X9_carryOut_63 (C : Cx p s m args meth c cX9_carryOut 3 (some .int) RX9 D cs A h0.se) (hz2 : hz.nx ≤ h0.nx + mc ∧ hz.su ≤ h0.su + ms) (N : Nat) (t0 : Nat) (h : Hp) (x2 : Option Nat) (y0 : Int32) (hJ : B_X9_carryOut_63 N t0 h x2 y0 = some (hz, rz)) (hk0 : h.kd t0 = 12) {H : Heap} {locs : List Loc} {cells slots : Nat} (w : Wo D cs A s h0 h H locs cells slots) {ls : Array Slot} (hl : lv_has ls 3 [(0, .ref t0), (2, va_rf x2)]) : W p l e { frames := 9, cells := mc, slots := ms, locals := 290 } s m args below meth c H locs cells slots (MQ below (Zi D cs A hz rz) args s mc ms A) (F0 m 63 ls [.int y0]) := by
  obtain ⟨hx, hb, hml, hown, hts, -⟩ := id C
  unfold B_X9_carryOut_63 at hJ
  refine lv_pop hx hb dX9_carryOut_63 rfl ?_
  refine jv_aload_n hx hb dX9_carryOut_64 rfl (lv_at hl 1 rfl) ?_
  obtain ⟨a15, ea15, hka15, hJ⟩ := dr_some hJ
  rw [ea15] at hl
  rw [ea15]
  obtain ⟨⟨h16, r17⟩, e18, hJ⟩ := ob_some hJ
  refine jc_Vi (As := []) C w (cc_X2_isLooking N a15 h hka15 e18) (mo_X2_isLooking N a15 h e18) (mb_X9_carryOut_68 N t0 _ _ _ hJ) hz2 hka15 (by decide) rfl (fs := fs5 h a15) rfl rfl ⟨tw_5_239, tw_5_236, tw_5_237, tw_5_238, tw_1_21⟩ cd_X2_isLooking ⟨by decide, by decide⟩ hl.1 (by first | exact Nat.le_of_ble_eq_true rfl | simp [rf_cat, cat_i, cat_l, cat_r]) rfl dX9_carryOut_65 (fun H locs w1 => ?_)
  have hk19 := kd_keep w (mo_X2_isLooking N a15 h e18) hk0 (by decide)
  have w := w1
  exact sb_X9_carryOut_68 C hz2 N t0 _ _ _ hJ hk19 w hl
def B_X9_carryOut_55 (N : Nat) (t0 : Nat) (h : Hp) (x1 : Option Nat) (x2 : Option Nat) : Option (Hp × Int32) := dr h 10 x1 (fun a20 => dr h 2 (h.fr 1004 a20) (fun a21 => (J_Jx4a65c_add_9ea2d N a21 h x2).bind (fun z => B_X9_carryOut_63 N t0 z.1 x2 z.2)))
theorem mb_X9_carryOut_55 (N : Nat) (t0 : Nat) (h : Hp) (x1 : Option Nat) (x2 : Option Nat) (hJ : B_X9_carryOut_55 N t0 h x1 x2 = some (hz, rz)) : Mo h hz := by
  unfold B_X9_carryOut_55 at hJ
  obtain ⟨a20, ea20, -, hJ⟩ := dr_some hJ
  obtain ⟨a21, ea21, -, hJ⟩ := dr_some hJ
  obtain ⟨⟨h22, r23⟩, e24, hJ⟩ := ob_some hJ
  exact (mo_Jx4a65c_add_9ea2d N a21 h x2 e24).tr (mb_X9_carryOut_63 N t0 _ _ _ hJ)
set_option maxRecDepth 100000 in
set_option maxHeartbeats 4000000 in
theorem sb_X9_carryOut_55 (C : Cx p s m args meth c cX9_carryOut 3 (some .int) RX9 D cs A h0.se) (hz2 : hz.nx ≤ h0.nx + mc ∧ hz.su ≤ h0.su + ms) (N : Nat) (t0 : Nat) (h : Hp) (x1 : Option Nat) (x2 : Option Nat) (hJ : B_X9_carryOut_55 N t0 h x1 x2 = some (hz, rz)) (hk0 : h.kd t0 = 12) {H : Heap} {locs : List Loc} {cells slots : Nat} (w : Wo D cs A s h0 h H locs cells slots) {ls : Array Slot} (hl : lv_has ls 3 [(0, .ref t0), (1, va_rf x1), (2, va_rf x2)]) : W p l e { frames := 9, cells := mc, slots := ms, locals := 290 } s m args below meth c H locs cells slots (MQ below (Zi D cs A hz rz) args s mc ms A) (F0 m 55 ls []) := by
  obtain ⟨hx, hb, hml, hown, hts, -⟩ := id C
  unfold B_X9_carryOut_55 at hJ
  refine jv_aload_n hx hb dX9_carryOut_55 rfl (lv_at hl 1 rfl) ?_
  obtain ⟨a20, ea20, hka20, hJ⟩ := dr_some hJ
  rw [ea20] at hl
  rw [ea20]
  refine fg_1004 C w hka20 tw_2_22 dX9_carryOut_56 ?_
  refine jv_aload_n hx hb dX9_carryOut_59 rfl (lv_at hl 2 rfl) ?_
  obtain ⟨a21, ea21, hka21, hJ⟩ := dr_some hJ
  rw [ea21]
  obtain ⟨⟨h22, r23⟩, e24, hJ⟩ := ob_some hJ
  refine jc_Vi (As := [va_rf x2]) C w (cc_Jx4a65c_add_9ea2d N a21 h x2 hka21 e24) (mo_Jx4a65c_add_9ea2d N a21 h x2 e24) (mb_X9_carryOut_63 N t0 _ _ _ hJ) hz2 hka21 (by decide) rfl (fs := fs2 h a21) rfl rfl ⟨tw_2_87, tw_2_84, tw_2_85, tw_2_86, tw_1_5⟩ cd_Jx4a65c_add_9ea2d ⟨by decide, by decide⟩ hl.1 (by first | exact Nat.le_of_ble_eq_true rfl | simp [rf_cat, cat_i, cat_l, cat_r]) rfl dX9_carryOut_60 (fun H locs w1 => ?_)
  have hk25 := kd_keep w (mo_Jx4a65c_add_9ea2d N a21 h x2 e24) hk0 (by decide)
  have w := w1
  exact sb_X9_carryOut_63 C hz2 N t0 _ _ _ hJ hk25 w (lv_sub (l' := [(0, .ref t0), (2, va_rf x2)]) hl [0, 2] rfl)
def B_X9_carryOut_50 (N : Nat) (t0 : Nat) (h : Hp) (x1 : Option Nat) (x2 : Option Nat) (y0 : Int32) : Option (Hp × Int32) := if y0 = 0 then (some (h, (-1 : Int32))) else (B_X9_carryOut_55 N t0 h x1 x2)
theorem mb_X9_carryOut_50 (N : Nat) (t0 : Nat) (h : Hp) (x1 : Option Nat) (x2 : Option Nat) (y0 : Int32) (hJ : B_X9_carryOut_50 N t0 h x1 x2 y0 = some (hz, rz)) : Mo h hz := by
  unfold B_X9_carryOut_50 at hJ
  by_cases c26 : y0 = 0
  · have hJ := it_pos c26 hJ
    obtain ⟨rfl, -⟩ := rs2 hJ
    exact ⟨fun _ _ => rfl, Nat.le_refl _, Nat.le_refl _, rfl, fun _ _ => rfl⟩
  · have hJ := it_neg c26 hJ
    exact mb_X9_carryOut_55 N t0 _ _ _ hJ
set_option maxRecDepth 100000 in
set_option maxHeartbeats 4000000 in
theorem sb_X9_carryOut_50 (C : Cx p s m args meth c cX9_carryOut 3 (some .int) RX9 D cs A h0.se) (hz2 : hz.nx ≤ h0.nx + mc ∧ hz.su ≤ h0.su + ms) (N : Nat) (t0 : Nat) (h : Hp) (x1 : Option Nat) (x2 : Option Nat) (y0 : Int32) (hJ : B_X9_carryOut_50 N t0 h x1 x2 y0 = some (hz, rz)) (hk0 : h.kd t0 = 12) {H : Heap} {locs : List Loc} {cells slots : Nat} (w : Wo D cs A s h0 h H locs cells slots) {ls : Array Slot} (hl : lv_has ls 3 [(0, .ref t0), (1, va_rf x1), (2, va_rf x2)]) : W p l e { frames := 9, cells := mc, slots := ms, locals := 290 } s m args below meth c H locs cells slots (MQ below (Zi D cs A hz rz) args s mc ms A) (F0 m 50 ls [.int y0]) := by
  obtain ⟨hx, hb, hml, hown, hts, -⟩ := id C
  unfold B_X9_carryOut_50 at hJ
  refine lv_if_ne (tgt := 55) hx hb dX9_carryOut_50 (by decide) (fun c26 => ?_) (fun c26 => ?_)
  · have hJ := it_neg c26 hJ
    exact sb_X9_carryOut_55 C hz2 N t0 _ _ _ hJ hk0 w hl
  · have hJ := it_pos c26 hJ
    refine lv_iconst (v := (-1 : Int32)) hx hb dX9_carryOut_53 (by decide) ?_
    obtain ⟨rfl, rfl⟩ := rs2 hJ
    exact jr_iret C w hz2 dX9_carryOut_54
def B_X9_carryOut_21 (N : Nat) (t0 : Nat) (h : Hp) (x1 : Option Nat) (x2 : Option Nat) : Option (Hp × Int32) := dr h 3 (h.fr 1206 t0) (fun a27 => if (h.fi 304 a27) = 0 then (B_X9_carryOut_55 N t0 h x1 x2) else (dr h 3 (h.fr 1206 t0) (fun a29 => dr h 3 (h.fr 1206 t0) (fun a30 => (J_X9_lookAt N t0 h x1 (h.fi 305 a29) (h.fi 306 a30)).bind (fun z => B_X9_carryOut_50 N t0 z.1 x1 x2 z.2)))))
theorem mb_X9_carryOut_21 (N : Nat) (t0 : Nat) (h : Hp) (x1 : Option Nat) (x2 : Option Nat) (hJ : B_X9_carryOut_21 N t0 h x1 x2 = some (hz, rz)) : Mo h hz := by
  unfold B_X9_carryOut_21 at hJ
  obtain ⟨a27, ea27, -, hJ⟩ := dr_some hJ
  by_cases c28 : (h.fi 304 a27) = 0
  · have hJ := it_pos c28 hJ
    exact mb_X9_carryOut_55 N t0 _ _ _ hJ
  · have hJ := it_neg c28 hJ
    obtain ⟨a29, ea29, -, hJ⟩ := dr_some hJ
    obtain ⟨a30, ea30, -, hJ⟩ := dr_some hJ
    obtain ⟨⟨h31, r32⟩, e33, hJ⟩ := ob_some hJ
    exact (mo_X9_lookAt N t0 h x1 (h.fi 305 a29) (h.fi 306 a30) e33).tr (mb_X9_carryOut_50 N t0 _ _ _ _ hJ)
set_option maxRecDepth 100000 in
set_option maxHeartbeats 4000000 in
theorem sb_X9_carryOut_21 (C : Cx p s m args meth c cX9_carryOut 3 (some .int) RX9 D cs A h0.se) (hz2 : hz.nx ≤ h0.nx + mc ∧ hz.su ≤ h0.su + ms) (N : Nat) (t0 : Nat) (h : Hp) (x1 : Option Nat) (x2 : Option Nat) (hJ : B_X9_carryOut_21 N t0 h x1 x2 = some (hz, rz)) (hk0 : h.kd t0 = 12) {H : Heap} {locs : List Loc} {cells slots : Nat} (w : Wo D cs A s h0 h H locs cells slots) {ls : Array Slot} (hl : lv_has ls 3 [(0, .ref t0), (1, va_rf x1), (2, va_rf x2)]) : W p l e { frames := 9, cells := mc, slots := ms, locals := 290 } s m args below meth c H locs cells slots (MQ below (Zi D cs A hz rz) args s mc ms A) (F0 m 21 ls []) := by
  obtain ⟨hx, hb, hml, hown, hts, -⟩ := id C
  unfold B_X9_carryOut_21 at hJ
  refine lv_aload_n hx hb dX9_carryOut_21 rfl (lv_at hl 0 rfl) ?_
  refine fg_1206 C w hk0 tw_1_138 dX9_carryOut_22 ?_
  obtain ⟨a27, ea27, hka27, hJ⟩ := dr_some hJ
  rw [ea27]
  refine fg_304 C w hka27 tw_1_98 dX9_carryOut_25 ?_
  refine lv_if_eq (tgt := 55) hx hb dX9_carryOut_28 (by decide) (fun c28 => ?_) (fun c28 => ?_)
  · have hJ := it_pos c28 hJ
    exact sb_X9_carryOut_55 C hz2 N t0 _ _ _ hJ hk0 w hl
  · have hJ := it_neg c28 hJ
    refine lv_aload_n hx hb dX9_carryOut_31 rfl (lv_at hl 0 rfl) ?_
    refine jv_aload_n hx hb dX9_carryOut_32 rfl (lv_at hl 1 rfl) ?_
    refine lv_aload_n hx hb dX9_carryOut_33 rfl (lv_at hl 0 rfl) ?_
    refine fg_1206 C w hk0 tw_1_138 dX9_carryOut_34 ?_
    obtain ⟨a29, ea29, hka29, hJ⟩ := dr_some hJ
    rw [ea29]
    refine fg_305 C w hka29 tw_1_100 dX9_carryOut_37 ?_
    refine lv_aload_n hx hb dX9_carryOut_40 rfl (lv_at hl 0 rfl) ?_
    refine fg_1206 C w hk0 tw_1_138 dX9_carryOut_41 ?_
    obtain ⟨a30, ea30, hka30, hJ⟩ := dr_some hJ
    rw [ea30]
    refine fg_306 C w hka30 tw_1_102 dX9_carryOut_44 ?_
    obtain ⟨⟨h31, r32⟩, e33, hJ⟩ := ob_some hJ
    refine jc_Vi (As := [va_rf x1, .int (h.fi 305 a29), .int (h.fi 306 a30)]) C w (cc_X9_lookAt N t0 h x1 (h.fi 305 a29) (h.fi 306 a30) hk0 e33) (mo_X9_lookAt N t0 h x1 (h.fi 305 a29) (h.fi 306 a30) e33) (mb_X9_carryOut_50 N t0 _ _ _ _ hJ) hz2 hk0 (by decide) rfl (fs := fs12 h t0) rfl rfl ⟨tw_5_174, tw_5_171, tw_5_173, ts_19, tw_1_1⟩ cd_X9_lookAt ⟨by decide, by decide⟩ hl.1 (by first | exact Nat.le_of_ble_eq_true rfl | simp [rf_cat, cat_i, cat_l, cat_r]) rfl dX9_carryOut_47 (fun H locs w1 => ?_)
    have hk34 := kd_keep w (mo_X9_lookAt N t0 h x1 (h.fi 305 a29) (h.fi 306 a30) e33) hk0 (by decide)
    have w := w1
    exact sb_X9_carryOut_50 C hz2 N t0 _ _ _ _ hJ hk34 w hl
def B_X9_carryOut_4 (N : Nat) (t0 : Nat) (h : Hp) (x1 : Option Nat) (x2 : Option Nat) (y0 : Int32) : Option (Hp × Int32) := if y0 = 0 then (some (h, (-1 : Int32))) else (dr h 10 x1 (fun a36 => dr h 5 x2 (fun a37 => (J_X2_carryOut N a37 h (h.fr 1002 a36) (h.fr 1206 t0)).bind (fun z => B_X9_carryOut_21 N t0 z.1 (some a36) (some a37)))))
theorem mb_X9_carryOut_4 (N : Nat) (t0 : Nat) (h : Hp) (x1 : Option Nat) (x2 : Option Nat) (y0 : Int32) (hJ : B_X9_carryOut_4 N t0 h x1 x2 y0 = some (hz, rz)) : Mo h hz := by
  unfold B_X9_carryOut_4 at hJ
  by_cases c35 : y0 = 0
  · have hJ := it_pos c35 hJ
    obtain ⟨rfl, -⟩ := rs2 hJ
    exact ⟨fun _ _ => rfl, Nat.le_refl _, Nat.le_refl _, rfl, fun _ _ => rfl⟩
  · have hJ := it_neg c35 hJ
    obtain ⟨a36, ea36, -, hJ⟩ := dr_some hJ
    obtain ⟨a37, ea37, -, hJ⟩ := dr_some hJ
    obtain ⟨⟨h38, r39⟩, e40, hJ⟩ := ob_some hJ
    exact (mo_X2_carryOut N a37 h (h.fr 1002 a36) (h.fr 1206 t0) e40).tr (mb_X9_carryOut_21 N t0 _ _ _ hJ)
set_option maxRecDepth 100000 in
set_option maxHeartbeats 4000000 in
theorem sb_X9_carryOut_4 (C : Cx p s m args meth c cX9_carryOut 3 (some .int) RX9 D cs A h0.se) (hz2 : hz.nx ≤ h0.nx + mc ∧ hz.su ≤ h0.su + ms) (N : Nat) (t0 : Nat) (h : Hp) (x1 : Option Nat) (x2 : Option Nat) (y0 : Int32) (hJ : B_X9_carryOut_4 N t0 h x1 x2 y0 = some (hz, rz)) (hk0 : h.kd t0 = 12) {H : Heap} {locs : List Loc} {cells slots : Nat} (w : Wo D cs A s h0 h H locs cells slots) {ls : Array Slot} (hl : lv_has ls 3 [(0, .ref t0), (1, va_rf x1), (2, va_rf x2)]) : W p l e { frames := 9, cells := mc, slots := ms, locals := 290 } s m args below meth c H locs cells slots (MQ below (Zi D cs A hz rz) args s mc ms A) (F0 m 4 ls [.int y0]) := by
  obtain ⟨hx, hb, hml, hown, hts, -⟩ := id C
  unfold B_X9_carryOut_4 at hJ
  refine lv_if_ne (tgt := 9) hx hb dX9_carryOut_4 (by decide) (fun c35 => ?_) (fun c35 => ?_)
  · have hJ := it_neg c35 hJ
    refine jv_aload_n hx hb dX9_carryOut_9 rfl (lv_at hl 2 rfl) ?_
    refine jv_aload_n hx hb dX9_carryOut_10 rfl (lv_at hl 1 rfl) ?_
    obtain ⟨a36, ea36, hka36, hJ⟩ := dr_some hJ
    rw [ea36] at hl
    rw [ea36]
    refine fg_1002 C w hka36 tw_2_16 dX9_carryOut_11 ?_
    refine lv_aload_n hx hb dX9_carryOut_14 rfl (lv_at hl 0 rfl) ?_
    refine fg_1206 C w hk0 tw_1_138 dX9_carryOut_15 ?_
    obtain ⟨a37, ea37, hka37, hJ⟩ := dr_some hJ
    rw [ea37] at hl
    rw [ea37]
    obtain ⟨⟨h38, r39⟩, e40, hJ⟩ := ob_some hJ
    refine jc_Vv (As := [va_rf (h.fr 1002 a36), va_rf (h.fr 1206 t0)]) C w (cc_X2_carryOut N a37 h (h.fr 1002 a36) (h.fr 1206 t0) hka37 e40) (mo_X2_carryOut N a37 h (h.fr 1002 a36) (h.fr 1206 t0) e40) (mb_X9_carryOut_21 N t0 _ _ _ hJ) hz2 hka37 (by decide) rfl (fs := fs5 h a37) rfl rfl ⟨tw_3_86, tw_5_170, tw_3_84, tw_3_85, tw_1_21⟩ cd_X2_carryOut ⟨by decide, by decide⟩ hl.1 (by first | exact Nat.le_of_ble_eq_true rfl | simp [rf_cat, cat_i, cat_l, cat_r]) rfl dX9_carryOut_18 (fun H locs w1 => ?_)
    have hk41 := kd_keep w (mo_X2_carryOut N a37 h (h.fr 1002 a36) (h.fr 1206 t0) e40) hk0 (by decide)
    have w := w1
    exact sb_X9_carryOut_21 C hz2 N t0 _ _ _ hJ hk41 w hl
  · have hJ := it_pos c35 hJ
    refine lv_iconst (v := (-1 : Int32)) hx hb dX9_carryOut_7 (by decide) ?_
    obtain ⟨rfl, rfl⟩ := rs2 hJ
    exact jr_iret C w hz2 dX9_carryOut_8
def B_X9_carryOut_0 (N : Nat) (t0 : Nat) (h : Hp) (x1 : Option Nat) (x2 : Option Nat) : Option (Hp × Int32) := (J_X9_takeRecord N t0 h).bind (fun z => B_X9_carryOut_4 N t0 z.1 x1 x2 z.2)
theorem mb_X9_carryOut_0 (N : Nat) (t0 : Nat) (h : Hp) (x1 : Option Nat) (x2 : Option Nat) (hJ : B_X9_carryOut_0 N t0 h x1 x2 = some (hz, rz)) : Mo h hz := by
  unfold B_X9_carryOut_0 at hJ
  obtain ⟨⟨h42, r43⟩, e44, hJ⟩ := ob_some hJ
  exact (mo_X9_takeRecord N t0 h e44).tr (mb_X9_carryOut_4 N t0 _ _ _ _ hJ)
set_option maxRecDepth 100000 in
set_option maxHeartbeats 4000000 in
theorem sb_X9_carryOut_0 (C : Cx p s m args meth c cX9_carryOut 3 (some .int) RX9 D cs A h0.se) (hz2 : hz.nx ≤ h0.nx + mc ∧ hz.su ≤ h0.su + ms) (N : Nat) (t0 : Nat) (h : Hp) (x1 : Option Nat) (x2 : Option Nat) (hJ : B_X9_carryOut_0 N t0 h x1 x2 = some (hz, rz)) (hk0 : h.kd t0 = 12) {H : Heap} {locs : List Loc} {cells slots : Nat} (w : Wo D cs A s h0 h H locs cells slots) {ls : Array Slot} (hl : lv_has ls 3 [(0, .ref t0), (1, va_rf x1), (2, va_rf x2)]) : W p l e { frames := 9, cells := mc, slots := ms, locals := 290 } s m args below meth c H locs cells slots (MQ below (Zi D cs A hz rz) args s mc ms A) (F0 m 0 ls []) := by
  obtain ⟨hx, hb, hml, hown, hts, -⟩ := id C
  unfold B_X9_carryOut_0 at hJ
  refine lv_aload_n hx hb dX9_carryOut_0 rfl (lv_at hl 0 rfl) ?_
  obtain ⟨⟨h42, r43⟩, e44, hJ⟩ := ob_some hJ
  refine jc_Vi (As := []) C w (cc_X9_takeRecord N t0 h hk0 e44) (mo_X9_takeRecord N t0 h e44) (mb_X9_carryOut_4 N t0 _ _ _ _ hJ) hz2 hk0 (by decide) rfl (fs := fs12 h t0) rfl rfl ⟨tw_1_186, tw_1_183, tw_1_185, ts_0, tw_1_1⟩ cd_X9_takeRecord ⟨by decide, by decide⟩ hl.1 (by first | exact Nat.le_of_ble_eq_true rfl | simp [rf_cat, cat_i, cat_l, cat_r]) rfl dX9_carryOut_1 (fun H locs w1 => ?_)
  have hk45 := kd_keep w (mo_X9_takeRecord N t0 h e44) hk0 (by decide)
  have w := w1
  exact sb_X9_carryOut_4 C hz2 N t0 _ _ _ _ hJ hk45 w hl
def J_X9_carryOut (N : Nat) (t0 : Nat) (h : Hp) (x1 : Option Nat) (x2 : Option Nat) : Option (Hp × Int32) := B_X9_carryOut_0 N t0 h x1 x2
theorem mo_X9_carryOut (N : Nat) (t0 : Nat) (h : Hp) (x1 : Option Nat) (x2 : Option Nat) (hJ : J_X9_carryOut N t0 h x1 x2 = some (hz, rz)) : Mo h hz := mb_X9_carryOut_0 N t0 h x1 x2 hJ
theorem cd_X9_carryOut : Cd yX9_carryOut 2 := ⟨by decide +kernel, by decide +kernel, by decide +kernel⟩
theorem cc_X9_carryOut (N : Nat) (t0 : Nat) (h : Hp) (x1 : Option Nat) (x2 : Option Nat) (hk0 : h.kd t0 = 12) (hJ : J_X9_carryOut N t0 h x1 x2 = some (hz, rz)) : Ci l yX9_carryOut cX9_carryOut 3 (some .int) 9 290 D cs h hz [.ref t0, va_rf x1, va_rf x2] rz := by
  intro mc ms g1 g2
  refine je_any (by decide) (by simp [lg_sl, rf_cat, cat_i, cat_l, cat_r]) ?_
  intro p e s m args below meth c C hin2 w ls hl
  have hl : lv_has ls 3 [(0, .ref t0), (1, va_rf x1), (2, va_rf x2)] := by simpa [lv_args, rf_cat, cat_i, cat_l, cat_r] using hl
  exact sb_X9_carryOut_0 C ⟨g1, g2⟩ N t0 h x1 x2 hJ hk0 w hl
end G_X9_carryOut
