section G_X6_init
variable {p : Program} {l : Launch} {e : Env} {s : State} {m : MethodId} {args : Array Value} {below : List Frame} {meth : Method} {c : Code} {D : va_G} {cs : C4} {A : Nat → Prop} {h0 hz : Hp} {mc ms : Nat}
def B_X6_init_15 (N : Nat) (t0 : Nat) (h : Hp) (y0 : Option Nat) (y1 : Option Nat) : Option (Hp × Unit) := dr h 9 y0 (fun a1 => some ((h.sfr 901 a1 y1).sfi 902 t0 (0 : Int32), ()))
theorem mb_X6_init_15 (N : Nat) (t0 : Nat) (h : Hp) (y0 : Option Nat) (y1 : Option Nat) (hJ : B_X6_init_15 N t0 h y0 y1 = some (hz, ())) : Mo h hz := by
  unfold B_X6_init_15 at hJ
  obtain ⟨a1, ea1, -, hJ⟩ := dr_some hJ
  obtain ⟨rfl, -⟩ := rs2 hJ
  exact ⟨fun _ _ => rfl, Nat.le_refl _, Nat.le_refl _, rfl, fun _ _ => rfl⟩
set_option maxRecDepth 100000 in
set_option maxHeartbeats 4000000 in
theorem sb_X6_init_15 (C : Cx p s m args meth c cX6_init 1 none RX6 D cs A h0.se) (hin2 : meth.name = "<init>") (hz2 : hz.nx ≤ h0.nx + mc ∧ hz.su ≤ h0.su + ms) (N : Nat) (t0 : Nat) (h : Hp) (y0 : Option Nat) (y1 : Option Nat) (hJ : B_X6_init_15 N t0 h y0 y1 = some (hz, ())) (hk0 : h.kd t0 = 9) {H : Heap} {locs : List Loc} {cells slots : Nat} (w : Wo D cs A s h0 h H locs cells slots) {ls : Array Slot} (hl : lv_has ls 1 [(0, .ref t0)]) : W p l e { frames := 1, cells := mc, slots := ms, locals := 40 } s m args below meth c H locs cells slots (MQ below (Zv D cs A hz) args s mc ms A) (F0 m 15 ls [va_rf y1, va_rf y0]) := by
  obtain ⟨hx, hb, hml, hown, hts, -⟩ := id C
  unfold B_X6_init_15 at hJ
  obtain ⟨a1, ea1, hka1, hJ⟩ := dr_some hJ
  rw [ea1]
  refine fp_901 (x := y1) C w hka1 tw_1_235 dX6_init_15 (fun H locs w => ?_)
  refine lv_aload_n hx hb dX6_init_18 rfl (lv_at hl 0 rfl) ?_
  refine lv_iconst (v := (0 : Int32)) hx hb dX6_init_19 (by decide) ?_
  refine fp_902 (x := (0 : Int32)) C w hk0 tw_1_237 dX6_init_20 (fun H locs w => ?_)
  obtain ⟨rfl, -⟩ := rs2 hJ
  exact jr_vret C w hz2 dX6_init_23
def B_X6_init_8 (N : Nat) (t0 : Nat) (h : Hp) (y0 : Option Nat) (y1 : Option Nat) : Option (Hp × Unit) := dr h 9 y0 (fun a2 => ck (¬ (4 : Int32) < 0 ∧ (4 : Int32).toNatClampNeg ≤ 67108864) (B_X6_init_15 N t0 ((h.sfr 900 a2 y1).new 20 ((4 : Int32).toNatClampNeg) ((4 : Int32).toNatClampNeg)) (some t0) (some (h.sfr 900 a2 y1).nx)))
theorem mb_X6_init_8 (N : Nat) (t0 : Nat) (h : Hp) (y0 : Option Nat) (y1 : Option Nat) (hJ : B_X6_init_8 N t0 h y0 y1 = some (hz, ())) : Mo h hz := by
  unfold B_X6_init_8 at hJ
  obtain ⟨a2, ea2, -, hJ⟩ := dr_some hJ
  obtain ⟨-, hJ⟩ := ck_some hJ
  exact (Mo.tr (show Mo h (h.sfr 900 a2 y1) from ⟨fun _ _ => rfl, Nat.le_refl _, Nat.le_refl _, rfl, fun _ _ => rfl⟩) ((Mo.new (h.sfr 900 a2 y1) _ _ _).tr (mb_X6_init_15 N t0 _ _ _ hJ)))
set_option maxRecDepth 100000 in
set_option maxHeartbeats 4000000 in
theorem sb_X6_init_8 (C : Cx p s m args meth c cX6_init 1 none RX6 D cs A h0.se) (hin2 : meth.name = "<init>") (hz2 : hz.nx ≤ h0.nx + mc ∧ hz.su ≤ h0.su + ms) (N : Nat) (t0 : Nat) (h : Hp) (y0 : Option Nat) (y1 : Option Nat) (hJ : B_X6_init_8 N t0 h y0 y1 = some (hz, ())) (hk0 : h.kd t0 = 9) {H : Heap} {locs : List Loc} {cells slots : Nat} (w : Wo D cs A s h0 h H locs cells slots) {ls : Array Slot} (hl : lv_has ls 1 [(0, .ref t0)]) : W p l e { frames := 1, cells := mc, slots := ms, locals := 40 } s m args below meth c H locs cells slots (MQ below (Zv D cs A hz) args s mc ms A) (F0 m 8 ls [va_rf y1, va_rf y0]) := by
  obtain ⟨hx, hb, hml, hown, hts, -⟩ := id C
  unfold B_X6_init_8 at hJ
  obtain ⟨a2, ea2, hka2, hJ⟩ := dr_some hJ
  rw [ea2]
  refine fp_900 (x := y1) C w hka2 tw_1_233 dX6_init_8 (fun H locs w => ?_)
  refine lv_aload_n hx hb dX6_init_11 rfl (lv_at hl 0 rfl) ?_
  refine lv_iconst (v := (4 : Int32)) hx hb dX6_init_12 (by decide) ?_
  obtain ⟨hn3, hJ⟩ := ck_some hJ
  have w0 := w
  refine fa_20 C w hn3 (mb_X6_init_15 N t0 _ _ _ hJ) hz2 dX6_init_13 (fun H w => ?_)
  have hk4 := kd_new (k := 20) (n := (4 : Int32).toNatClampNeg) (sl := (4 : Int32).toNatClampNeg) w0 hk0 (by decide)
  exact sb_X6_init_15 C hin2 hz2 N t0 _ _ _ hJ hk4 w hl
def B_X6_init_0 (N : Nat) (t0 : Nat) (h : Hp) : Option (Hp × Unit) := ck (¬ (4 : Int32) < 0 ∧ (4 : Int32).toNatClampNeg ≤ 67108864) (B_X6_init_8 N t0 (h.new 20 ((4 : Int32).toNatClampNeg) ((4 : Int32).toNatClampNeg)) (some t0) (some h.nx))
theorem mb_X6_init_0 (N : Nat) (t0 : Nat) (h : Hp) (hJ : B_X6_init_0 N t0 h = some (hz, ())) : Mo h hz := by
  unfold B_X6_init_0 at hJ
  obtain ⟨-, hJ⟩ := ck_some hJ
  exact (Mo.new h _ _ _).tr (mb_X6_init_8 N t0 _ _ _ hJ)
set_option maxRecDepth 100000 in
set_option maxHeartbeats 4000000 in
theorem sb_X6_init_0 (C : Cx p s m args meth c cX6_init 1 none RX6 D cs A h0.se) (hin2 : meth.name = "<init>") (hz2 : hz.nx ≤ h0.nx + mc ∧ hz.su ≤ h0.su + ms) (N : Nat) (t0 : Nat) (h : Hp) (hJ : B_X6_init_0 N t0 h = some (hz, ())) (hk0 : h.kd t0 = 9) {H : Heap} {locs : List Loc} {cells slots : Nat} (w : Wo D cs A s h0 h H locs cells slots) {ls : Array Slot} (hl : lv_has ls 1 [(0, .ref t0)]) : W p l e { frames := 1, cells := mc, slots := ms, locals := 40 } s m args below meth c H locs cells slots (MQ below (Zv D cs A hz) args s mc ms A) (F0 m 0 ls []) := by
  obtain ⟨hx, hb, hml, hown, hts, -⟩ := id C
  unfold B_X6_init_0 at hJ
  refine lv_aload_n hx hb dX6_init_0 rfl (lv_at hl 0 rfl) ?_
  refine jc_O C tw_1_232 tw_1_41 tw_obj hl.1 (by first | exact Nat.le_of_ble_eq_true rfl | simp [rf_cat, cat_i, cat_l, cat_r]) (by decide) dX6_init_1 ?_
  refine lv_aload_n hx hb dX6_init_4 rfl (lv_at hl 0 rfl) ?_
  refine lv_iconst (v := (4 : Int32)) hx hb dX6_init_5 (by decide) ?_
  obtain ⟨hn5, hJ⟩ := ck_some hJ
  have w0 := w
  refine fa_20 C w hn5 (mb_X6_init_8 N t0 _ _ _ hJ) hz2 dX6_init_6 (fun H w => ?_)
  have hk6 := kd_new (k := 20) (n := (4 : Int32).toNatClampNeg) (sl := (4 : Int32).toNatClampNeg) w0 hk0 (by decide)
  exact sb_X6_init_8 C hin2 hz2 N t0 _ _ _ hJ hk6 w hl
def J_X6_init (N : Nat) (t0 : Nat) (h : Hp) : Option (Hp × Unit) := B_X6_init_0 N t0 h
theorem mo_X6_init (N : Nat) (t0 : Nat) (h : Hp) (hJ : J_X6_init N t0 h = some (hz, ())) : Mo h hz := mb_X6_init_0 N t0 h hJ
theorem cd_X6_init : Cd yX6_init 0 := ⟨by decide +kernel, by decide +kernel, by decide +kernel⟩
theorem cc_X6_init (N : Nat) (t0 : Nat) (h : Hp) (hk0 : h.kd t0 = 9) (hJ : J_X6_init N t0 h = some (hz, ())) : Cv l yX6_init cX6_init 1 none 1 40 D cs h hz [.ref t0] := by
  intro mc ms g1 g2
  refine je_any (by decide) (by simp [lg_sl, rf_cat, cat_i, cat_l, cat_r]) ?_
  intro p e s m args below meth c C hin2 w ls hl
  have hl : lv_has ls 1 [(0, .ref t0)] := hl
  exact sb_X6_init_0 C hin2 ⟨g1, g2⟩ N t0 h hJ hk0 w hl
end G_X6_init
section G_X6_indexReaching
variable {p : Program} {l : Launch} {e : Env} {s : State} {m : MethodId} {args : Array Value} {below : List Frame} {meth : Method} {c : Code} {D : va_G} {cs : C4} {A : Nat → Prop} {h0 hz : Hp} {mc ms : Nat} {rz : Int32}
def B_X6_indexReaching_47 (N : Nat) (k8 : Hp → Int64 → Int32 → Int32 → Option (Hp × Int32)) (t0 : Nat) (h : Hp) (x1 : Int64) (x3 : Int32) (x4 : Int32) : Option (Hp × Int32) := k8 h x1 x3 x4
theorem mb_X6_indexReaching_47 (N : Nat) (k8 : Hp → Int64 → Int32 → Int32 → Option (Hp × Int32)) (t0 : Nat) (h : Hp) (x1 : Int64) (x3 : Int32) (x4 : Int32) (m8 : ∀ (h : Hp) (x1 : Int64) (x3 : Int32) (x4 : Int32), k8 h x1 x3 x4 = some (hz, rz) → Mo h hz) (hJ : B_X6_indexReaching_47 N k8 t0 h x1 x3 x4 = some (hz, rz)) : Mo h hz := by
  unfold B_X6_indexReaching_47 at hJ
  exact m8 _ _ _ _ hJ
set_option maxRecDepth 100000 in
set_option maxHeartbeats 4000000 in
theorem sb_X6_indexReaching_47 (C : Cx p s m args meth c cX6_indexReaching 6 (some .int) RX6 D cs A h0.se) (hz2 : hz.nx ≤ h0.nx + mc ∧ hz.su ≤ h0.su + ms) (N : Nat) (k8 : Hp → Int64 → Int32 → Int32 → Option (Hp × Int32)) (t0 : Nat) (m8 : ∀ (h : Hp) (x1 : Int64) (x3 : Int32) (x4 : Int32), k8 h x1 x3 x4 = some (hz, rz) → Mo h hz) (i8 : ∀ (h : Hp) (x1 : Int64) (x3 : Int32) (x4 : Int32) (H : Heap) (locs : List Loc) (cells slots : Nat) (ls : Array Slot), k8 h x1 x3 x4 = some (hz, rz) → h.kd t0 = 9 → Wo D cs A s h0 h H locs cells slots → lv_has ls 6 [(0, .ref t0), (1, .long x1), (3, .int x3), (4, .int x4)] → W p l e { frames := 0, cells := mc, slots := ms, locals := 0 } s m args below meth c H locs cells slots (MQ below (Zi D cs A hz rz) args s mc ms A) (F0 m 8 ls [])) (h : Hp) (x1 : Int64) (x3 : Int32) (x4 : Int32) (hJ : B_X6_indexReaching_47 N k8 t0 h x1 x3 x4 = some (hz, rz)) (hk0 : h.kd t0 = 9) {H : Heap} {locs : List Loc} {cells slots : Nat} (w : Wo D cs A s h0 h H locs cells slots) {ls : Array Slot} (hl : lv_has ls 6 [(0, .ref t0), (1, .long x1), (3, .int x3), (4, .int x4)]) : W p l e { frames := 0, cells := mc, slots := ms, locals := 0 } s m args below meth c H locs cells slots (MQ below (Zi D cs A hz rz) args s mc ms A) (F0 m 47 ls []) := by
  obtain ⟨hx, hb, hml, hown, hts, -⟩ := id C
  unfold B_X6_indexReaching_47 at hJ
  refine lv_goto (tgt := 8) hx hb dX6_indexReaching_47 (by decide) ?_
  exact i8 _ _ _ _ _ _ _ _ _ hJ hk0 w hl
def B_X6_indexReaching_8 (N : Nat) (k8 : Hp → Int64 → Int32 → Int32 → Option (Hp × Int32)) (t0 : Nat) (h : Hp) (x1 : Int64) (x3 : Int32) (x4 : Int32) : Option (Hp × Int32) := if x4 ≤ x3 then (some (h, x3)) else (dr h 20 (h.fr 901 t0) (fun a2 => ck (¬ (((x3 + x4).toUInt32 >>> ((1 : Int32).toUInt32 &&& Int32.toUInt32 31)).toInt32 < 0 ∨ h.al a2 ≤ (((x3 + x4).toUInt32 >>> ((1 : Int32).toUInt32 &&& Int32.toUInt32 31)).toInt32).toNatClampNeg)) (if 0 ≤ (lg_cmp ((h.ai a2 (((x3 + x4).toUInt32 >>> ((1 : Int32).toUInt32 &&& Int32.toUInt32 31)).toInt32).toNatClampNeg).toInt64) x1) then (B_X6_indexReaching_47 N k8 t0 h x1 x3 (((x3 + x4).toUInt32 >>> ((1 : Int32).toUInt32 &&& Int32.toUInt32 31)).toInt32)) else (B_X6_indexReaching_47 N k8 t0 h x1 ((((x3 + x4).toUInt32 >>> ((1 : Int32).toUInt32 &&& Int32.toUInt32 31)).toInt32) + (1 : Int32)) x4))))
theorem mb_X6_indexReaching_8 (N : Nat) (k8 : Hp → Int64 → Int32 → Int32 → Option (Hp × Int32)) (t0 : Nat) (h : Hp) (x1 : Int64) (x3 : Int32) (x4 : Int32) (m8 : ∀ (h : Hp) (x1 : Int64) (x3 : Int32) (x4 : Int32), k8 h x1 x3 x4 = some (hz, rz) → Mo h hz) (hJ : B_X6_indexReaching_8 N k8 t0 h x1 x3 x4 = some (hz, rz)) : Mo h hz := by
  unfold B_X6_indexReaching_8 at hJ
  by_cases c1 : x4 ≤ x3
  · have hJ := it_pos c1 hJ
    obtain ⟨rfl, -⟩ := rs2 hJ
    exact ⟨fun _ _ => rfl, Nat.le_refl _, Nat.le_refl _, rfl, fun _ _ => rfl⟩
  · have hJ := it_neg c1 hJ
    obtain ⟨a2, ea2, -, hJ⟩ := dr_some hJ
    obtain ⟨-, hJ⟩ := ck_some hJ
    by_cases c4 : 0 ≤ (lg_cmp ((h.ai a2 (((x3 + x4).toUInt32 >>> ((1 : Int32).toUInt32 &&& Int32.toUInt32 31)).toInt32).toNatClampNeg).toInt64) x1)
    · have hJ := it_pos c4 hJ
      exact mb_X6_indexReaching_47 N k8 t0 _ _ _ _ m8 hJ
    · have hJ := it_neg c4 hJ
      exact mb_X6_indexReaching_47 N k8 t0 _ _ _ _ m8 hJ
set_option maxRecDepth 100000 in
set_option maxHeartbeats 4000000 in
theorem sb_X6_indexReaching_8 (C : Cx p s m args meth c cX6_indexReaching 6 (some .int) RX6 D cs A h0.se) (hz2 : hz.nx ≤ h0.nx + mc ∧ hz.su ≤ h0.su + ms) (N : Nat) (k8 : Hp → Int64 → Int32 → Int32 → Option (Hp × Int32)) (t0 : Nat) (m8 : ∀ (h : Hp) (x1 : Int64) (x3 : Int32) (x4 : Int32), k8 h x1 x3 x4 = some (hz, rz) → Mo h hz) (i8 : ∀ (h : Hp) (x1 : Int64) (x3 : Int32) (x4 : Int32) (H : Heap) (locs : List Loc) (cells slots : Nat) (ls : Array Slot), k8 h x1 x3 x4 = some (hz, rz) → h.kd t0 = 9 → Wo D cs A s h0 h H locs cells slots → lv_has ls 6 [(0, .ref t0), (1, .long x1), (3, .int x3), (4, .int x4)] → W p l e { frames := 0, cells := mc, slots := ms, locals := 0 } s m args below meth c H locs cells slots (MQ below (Zi D cs A hz rz) args s mc ms A) (F0 m 8 ls [])) (h : Hp) (x1 : Int64) (x3 : Int32) (x4 : Int32) (hJ : B_X6_indexReaching_8 N k8 t0 h x1 x3 x4 = some (hz, rz)) (hk0 : h.kd t0 = 9) {H : Heap} {locs : List Loc} {cells slots : Nat} (w : Wo D cs A s h0 h H locs cells slots) {ls : Array Slot} (hl : lv_has ls 6 [(0, .ref t0), (1, .long x1), (3, .int x3), (4, .int x4)]) : W p l e { frames := 0, cells := mc, slots := ms, locals := 0 } s m args below meth c H locs cells slots (MQ below (Zi D cs A hz rz) args s mc ms A) (F0 m 8 ls []) := by
  obtain ⟨hx, hb, hml, hown, hts, -⟩ := id C
  unfold B_X6_indexReaching_8 at hJ
  refine lv_iload_n hx hb dX6_indexReaching_8 rfl (lv_at hl 2 rfl) ?_
  refine lv_iload hx hb dX6_indexReaching_9 (lv_at hl 3 rfl) ?_
  refine lv_icmp_ge (tgt := 50) hx hb dX6_indexReaching_11 (by decide) (fun c1 => ?_) (fun c1 => ?_)
  · have hJ := it_pos c1 hJ
    refine lv_iload_n hx hb dX6_indexReaching_50 rfl (lv_at hl 2 rfl) ?_
    obtain ⟨rfl, rfl⟩ := rs2 hJ
    exact jr_iret C w hz2 dX6_indexReaching_51
  · have hJ := it_neg c1 hJ
    refine lv_iload_n hx hb dX6_indexReaching_14 rfl (lv_at hl 2 rfl) ?_
    refine lv_iload hx hb dX6_indexReaching_15 (lv_at hl 3 rfl) ?_
    refine lv_iadd hx hb dX6_indexReaching_17 ?_
    refine lv_iconst (v := (1 : Int32)) hx hb dX6_indexReaching_18 (by decide) ?_
    refine lv_iushr hx hb dX6_indexReaching_19 rfl ?_
    refine lv_istore (i := 5) (lv' := [(5, .int (((x3 + x4).toUInt32 >>> ((1 : Int32).toUInt32 &&& Int32.toUInt32 31)).toInt32)), (0, .ref t0), (1, .long x1), (3, .int x3), (4, .int x4)]) hx hb dX6_indexReaching_20 hl (by decide) rfl (fun ls hl => ?_)
    refine lv_aload_n hx hb dX6_indexReaching_22 rfl (lv_at hl 1 rfl) ?_
    refine fg_901 C w hk0 tw_1_235 dX6_indexReaching_23 ?_
    refine lv_iload hx hb dX6_indexReaching_26 (lv_at hl 0 rfl) ?_
    obtain ⟨a2, ea2, hka2, hJ⟩ := dr_some hJ
    rw [ea2]
    obtain ⟨hi3, hJ⟩ := ck_some hJ
    refine jr_iald C w hka2 hi3 dX6_indexReaching_28 ?_
    refine lv_i2l hx hb dX6_indexReaching_29 rfl ?_
    refine lv_lload_n hx hb dX6_indexReaching_30 rfl (lv_at hl 2 rfl) ?_
    refine W.lcmp hx hb dX6_indexReaching_31 ?_
    refine lv_if_ge (tgt := 43) hx hb dX6_indexReaching_32 (by decide) (fun c4 => ?_) (fun c4 => ?_)
    · have hJ := it_pos c4 hJ
      refine lv_iload hx hb dX6_indexReaching_43 (lv_at hl 0 rfl) ?_
      refine lv_istore (i := 4) (lv' := [(4, .int (((x3 + x4).toUInt32 >>> ((1 : Int32).toUInt32 &&& Int32.toUInt32 31)).toInt32)), (5, .int (((x3 + x4).toUInt32 >>> ((1 : Int32).toUInt32 &&& Int32.toUInt32 31)).toInt32)), (0, .ref t0), (1, .long x1), (3, .int x3)]) hx hb dX6_indexReaching_45 hl (by decide) rfl (fun ls hl => ?_)
      exact sb_X6_indexReaching_47 C hz2 N k8 t0 m8 i8 _ _ _ _ hJ hk0 w (lv_sub (l' := [(0, .ref t0), (1, .long x1), (3, .int x3), (4, .int (((x3 + x4).toUInt32 >>> ((1 : Int32).toUInt32 &&& Int32.toUInt32 31)).toInt32))]) hl [2, 3, 4, 0] rfl)
    · have hJ := it_neg c4 hJ
      refine lv_iload hx hb dX6_indexReaching_35 (lv_at hl 0 rfl) ?_
      refine lv_iconst (v := (1 : Int32)) hx hb dX6_indexReaching_37 (by decide) ?_
      refine lv_iadd hx hb dX6_indexReaching_38 ?_
      refine lv_istore_n (i := 3) (lv' := [(3, .int ((((x3 + x4).toUInt32 >>> ((1 : Int32).toUInt32 &&& Int32.toUInt32 31)).toInt32) + (1 : Int32))), (5, .int (((x3 + x4).toUInt32 >>> ((1 : Int32).toUInt32 &&& Int32.toUInt32 31)).toInt32)), (0, .ref t0), (1, .long x1), (4, .int x4)]) hx hb dX6_indexReaching_39 rfl hl (by decide) rfl (fun ls hl => ?_)
      refine lv_goto (tgt := 47) hx hb dX6_indexReaching_40 (by decide) ?_
      exact sb_X6_indexReaching_47 C hz2 N k8 t0 m8 i8 _ _ _ _ hJ hk0 w (lv_sub (l' := [(0, .ref t0), (1, .long x1), (3, .int ((((x3 + x4).toUInt32 >>> ((1 : Int32).toUInt32 &&& Int32.toUInt32 31)).toInt32) + (1 : Int32))), (4, .int x4)]) hl [2, 3, 0, 4] rfl)
def L_X6_indexReaching_8 (N : Nat) (t0 : Nat) : Nat → Hp → Int64 → Int32 → Int32 → Option (Hp × Int32)
  | 0 => fun _ _ _ _ => none
  | n + 1 => fun h x1 x3 x4 => B_X6_indexReaching_8 N (L_X6_indexReaching_8 N t0 n) t0 h x1 x3 x4
theorem ml_X6_indexReaching_8 (N : Nat) (t0 : Nat) : ∀ (n : Nat) (h : Hp) (x1 : Int64) (x3 : Int32) (x4 : Int32), L_X6_indexReaching_8 N t0 n h x1 x3 x4 = some (hz, rz) → Mo h hz := by
  intro n
  induction n with
  | zero => intro h x1 x3 x4 hJ; cases hJ
  | succ n ih => intro h x1 x3 x4 hJ; exact mb_X6_indexReaching_8 N (L_X6_indexReaching_8 N t0 n) t0 h x1 x3 x4 ih hJ
theorem sl_X6_indexReaching_8 (C : Cx p s m args meth c cX6_indexReaching 6 (some .int) RX6 D cs A h0.se) (hz2 : hz.nx ≤ h0.nx + mc ∧ hz.su ≤ h0.su + ms) (N : Nat) (t0 : Nat) : ∀ n : Nat, ∀ (h : Hp) (x1 : Int64) (x3 : Int32) (x4 : Int32) (H : Heap) (locs : List Loc) (cells slots : Nat) (ls : Array Slot), L_X6_indexReaching_8 N t0 n h x1 x3 x4 = some (hz, rz) → h.kd t0 = 9 → Wo D cs A s h0 h H locs cells slots → lv_has ls 6 [(0, .ref t0), (1, .long x1), (3, .int x3), (4, .int x4)] → W p l e { frames := 0, cells := mc, slots := ms, locals := 0 } s m args below meth c H locs cells slots (MQ below (Zi D cs A hz rz) args s mc ms A) (F0 m 8 ls []) := by
  intro n
  induction n with
  | zero => intro h x1 x3 x4 H locs cells slots ls hJ; cases hJ
  | succ n ih =>
    intro h x1 x3 x4 H locs cells slots ls hJ hk0 w hl
    exact sb_X6_indexReaching_8 C hz2 N (L_X6_indexReaching_8 N t0 n) t0 (ml_X6_indexReaching_8 N t0 n) ih h x1 x3 x4 hJ hk0 w hl
def B_X6_indexReaching_0 (N : Nat) (t0 : Nat) (h : Hp) (x1 : Int64) : Option (Hp × Int32) := L_X6_indexReaching_8 N t0 N h x1 (0 : Int32) (h.fi 902 t0)
theorem mb_X6_indexReaching_0 (N : Nat) (t0 : Nat) (h : Hp) (x1 : Int64) (hJ : B_X6_indexReaching_0 N t0 h x1 = some (hz, rz)) : Mo h hz := by
  unfold B_X6_indexReaching_0 at hJ
  exact ml_X6_indexReaching_8 N t0 N _ _ _ _ hJ
set_option maxRecDepth 100000 in
set_option maxHeartbeats 4000000 in
theorem sb_X6_indexReaching_0 (C : Cx p s m args meth c cX6_indexReaching 6 (some .int) RX6 D cs A h0.se) (hz2 : hz.nx ≤ h0.nx + mc ∧ hz.su ≤ h0.su + ms) (N : Nat) (t0 : Nat) (h : Hp) (x1 : Int64) (hJ : B_X6_indexReaching_0 N t0 h x1 = some (hz, rz)) (hk0 : h.kd t0 = 9) {H : Heap} {locs : List Loc} {cells slots : Nat} (w : Wo D cs A s h0 h H locs cells slots) {ls : Array Slot} (hl : lv_has ls 6 [(0, .ref t0), (1, .long x1)]) : W p l e { frames := 0, cells := mc, slots := ms, locals := 0 } s m args below meth c H locs cells slots (MQ below (Zi D cs A hz rz) args s mc ms A) (F0 m 0 ls []) := by
  obtain ⟨hx, hb, hml, hown, hts, -⟩ := id C
  unfold B_X6_indexReaching_0 at hJ
  refine lv_iconst (v := (0 : Int32)) hx hb dX6_indexReaching_0 (by decide) ?_
  refine lv_istore_n (i := 3) (lv' := [(3, .int (0 : Int32)), (0, .ref t0), (1, .long x1)]) hx hb dX6_indexReaching_1 rfl hl (by decide) rfl (fun ls hl => ?_)
  refine lv_aload_n hx hb dX6_indexReaching_2 rfl (lv_at hl 1 rfl) ?_
  refine fg_902 C w hk0 tw_1_237 dX6_indexReaching_3 ?_
  refine lv_istore (i := 4) (lv' := [(4, .int (h.fi 902 t0)), (3, .int (0 : Int32)), (0, .ref t0), (1, .long x1)]) hx hb dX6_indexReaching_6 hl (by decide) rfl (fun ls hl => ?_)
  exact sl_X6_indexReaching_8 C hz2 N t0 N _ _ _ _ _ _ _ _ _ hJ hk0 w (lv_sub (l' := [(0, .ref t0), (1, .long x1), (3, .int (0 : Int32)), (4, .int (h.fi 902 t0))]) hl [2, 3, 1, 0] rfl)
def J_X6_indexReaching (N : Nat) (t0 : Nat) (h : Hp) (x1 : Int64) : Option (Hp × Int32) := B_X6_indexReaching_0 N t0 h x1
theorem mo_X6_indexReaching (N : Nat) (t0 : Nat) (h : Hp) (x1 : Int64) (hJ : J_X6_indexReaching N t0 h x1 = some (hz, rz)) : Mo h hz := mb_X6_indexReaching_0 N t0 h x1 hJ
theorem cd_X6_indexReaching : Cd yX6_indexReaching 1 := ⟨by decide +kernel, by decide +kernel, by decide +kernel⟩
theorem cc_X6_indexReaching (N : Nat) (t0 : Nat) (h : Hp) (x1 : Int64) (hk0 : h.kd t0 = 9) (hJ : J_X6_indexReaching N t0 h x1 = some (hz, rz)) : Ci l yX6_indexReaching cX6_indexReaching 6 (some .int) 0 0 D cs h hz [.ref t0, .long x1] rz := by
  intro mc ms g1 g2
  refine je_any (by decide) (by simp [lg_sl, rf_cat, cat_i, cat_l, cat_r]) ?_
  intro p e s m args below meth c C hin2 w ls hl
  have hl : lv_has ls 6 [(0, .ref t0), (1, .long x1)] := hl
  exact sb_X6_indexReaching_0 C ⟨g1, g2⟩ N t0 h x1 hJ hk0 w hl
end G_X6_indexReaching
section G_X6_replace
variable {p : Program} {l : Launch} {e : Env} {s : State} {m : MethodId} {args : Array Value} {below : List Frame} {meth : Method} {c : Code} {D : va_G} {cs : C4} {A : Nat → Prop} {h0 hz : Hp} {mc ms : Nat}
def B_X6_replace_46 (N : Nat) (t0 : Nat) (h : Hp) (x1 : Int32) (x2 : Int32) (x3 : Int32) (x4 : Int32) : Option (Hp × Unit) := dr h 20 (h.fr 900 t0) (fun a1 => ck (¬ x2 < 0 ∧ ¬ (x1 + (1 : Int32)) < 0 ∧ ¬ ((h.fi 902 t0) - x2) < 0 ∧ x2.toNatClampNeg + ((h.fi 902 t0) - x2).toNatClampNeg ≤ h.al a1 ∧ (x1 + (1 : Int32)).toNatClampNeg + ((h.fi 902 t0) - x2).toNatClampNeg ≤ h.al a1) (dr (h.tai a1 (va_cpy (h.ai a1) (h.ai a1) x2.toNatClampNeg (x1 + (1 : Int32)).toNatClampNeg ((h.fi 902 t0) - x2).toNatClampNeg)) 20 ((h.tai a1 (va_cpy (h.ai a1) (h.ai a1) x2.toNatClampNeg (x1 + (1 : Int32)).toNatClampNeg ((h.fi 902 t0) - x2).toNatClampNeg)).fr 901 t0) (fun a3 => ck (¬ x2 < 0 ∧ ¬ (x1 + (1 : Int32)) < 0 ∧ ¬ (((h.tai a1 (va_cpy (h.ai a1) (h.ai a1) x2.toNatClampNeg (x1 + (1 : Int32)).toNatClampNeg ((h.fi 902 t0) - x2).toNatClampNeg)).fi 902 t0) - x2) < 0 ∧ x2.toNatClampNeg + (((h.tai a1 (va_cpy (h.ai a1) (h.ai a1) x2.toNatClampNeg (x1 + (1 : Int32)).toNatClampNeg ((h.fi 902 t0) - x2).toNatClampNeg)).fi 902 t0) - x2).toNatClampNeg ≤ (h.tai a1 (va_cpy (h.ai a1) (h.ai a1) x2.toNatClampNeg (x1 + (1 : Int32)).toNatClampNeg ((h.fi 902 t0) - x2).toNatClampNeg)).al a3 ∧ (x1 + (1 : Int32)).toNatClampNeg + (((h.tai a1 (va_cpy (h.ai a1) (h.ai a1) x2.toNatClampNeg (x1 + (1 : Int32)).toNatClampNeg ((h.fi 902 t0) - x2).toNatClampNeg)).fi 902 t0) - x2).toNatClampNeg ≤ (h.tai a1 (va_cpy (h.ai a1) (h.ai a1) x2.toNatClampNeg (x1 + (1 : Int32)).toNatClampNeg ((h.fi 902 t0) - x2).toNatClampNeg)).al a3) (dr ((h.tai a1 (va_cpy (h.ai a1) (h.ai a1) x2.toNatClampNeg (x1 + (1 : Int32)).toNatClampNeg ((h.fi 902 t0) - x2).toNatClampNeg)).tai a3 (va_cpy ((h.tai a1 (va_cpy (h.ai a1) (h.ai a1) x2.toNatClampNeg (x1 + (1 : Int32)).toNatClampNeg ((h.fi 902 t0) - x2).toNatClampNeg)).ai a3) ((h.tai a1 (va_cpy (h.ai a1) (h.ai a1) x2.toNatClampNeg (x1 + (1 : Int32)).toNatClampNeg ((h.fi 902 t0) - x2).toNatClampNeg)).ai a3) x2.toNatClampNeg (x1 + (1 : Int32)).toNatClampNeg (((h.tai a1 (va_cpy (h.ai a1) (h.ai a1) x2.toNatClampNeg (x1 + (1 : Int32)).toNatClampNeg ((h.fi 902 t0) - x2).toNatClampNeg)).fi 902 t0) - x2).toNatClampNeg)) 20 (((h.tai a1 (va_cpy (h.ai a1) (h.ai a1) x2.toNatClampNeg (x1 + (1 : Int32)).toNatClampNeg ((h.fi 902 t0) - x2).toNatClampNeg)).tai a3 (va_cpy ((h.tai a1 (va_cpy (h.ai a1) (h.ai a1) x2.toNatClampNeg (x1 + (1 : Int32)).toNatClampNeg ((h.fi 902 t0) - x2).toNatClampNeg)).ai a3) ((h.tai a1 (va_cpy (h.ai a1) (h.ai a1) x2.toNatClampNeg (x1 + (1 : Int32)).toNatClampNeg ((h.fi 902 t0) - x2).toNatClampNeg)).ai a3) x2.toNatClampNeg (x1 + (1 : Int32)).toNatClampNeg (((h.tai a1 (va_cpy (h.ai a1) (h.ai a1) x2.toNatClampNeg (x1 + (1 : Int32)).toNatClampNeg ((h.fi 902 t0) - x2).toNatClampNeg)).fi 902 t0) - x2).toNatClampNeg)).fr 900 t0) (fun a5 => ck (¬ (x1 < 0 ∨ ((h.tai a1 (va_cpy (h.ai a1) (h.ai a1) x2.toNatClampNeg (x1 + (1 : Int32)).toNatClampNeg ((h.fi 902 t0) - x2).toNatClampNeg)).tai a3 (va_cpy ((h.tai a1 (va_cpy (h.ai a1) (h.ai a1) x2.toNatClampNeg (x1 + (1 : Int32)).toNatClampNeg ((h.fi 902 t0) - x2).toNatClampNeg)).ai a3) ((h.tai a1 (va_cpy (h.ai a1) (h.ai a1) x2.toNatClampNeg (x1 + (1 : Int32)).toNatClampNeg ((h.fi 902 t0) - x2).toNatClampNeg)).ai a3) x2.toNatClampNeg (x1 + (1 : Int32)).toNatClampNeg (((h.tai a1 (va_cpy (h.ai a1) (h.ai a1) x2.toNatClampNeg (x1 + (1 : Int32)).toNatClampNeg ((h.fi 902 t0) - x2).toNatClampNeg)).fi 902 t0) - x2).toNatClampNeg)).al a5 ≤ x1.toNatClampNeg)) (dr (((h.tai a1 (va_cpy (h.ai a1) (h.ai a1) x2.toNatClampNeg (x1 + (1 : Int32)).toNatClampNeg ((h.fi 902 t0) - x2).toNatClampNeg)).tai a3 (va_cpy ((h.tai a1 (va_cpy (h.ai a1) (h.ai a1) x2.toNatClampNeg (x1 + (1 : Int32)).toNatClampNeg ((h.fi 902 t0) - x2).toNatClampNeg)).ai a3) ((h.tai a1 (va_cpy (h.ai a1) (h.ai a1) x2.toNatClampNeg (x1 + (1 : Int32)).toNatClampNeg ((h.fi 902 t0) - x2).toNatClampNeg)).ai a3) x2.toNatClampNeg (x1 + (1 : Int32)).toNatClampNeg (((h.tai a1 (va_cpy (h.ai a1) (h.ai a1) x2.toNatClampNeg (x1 + (1 : Int32)).toNatClampNeg ((h.fi 902 t0) - x2).toNatClampNeg)).fi 902 t0) - x2).toNatClampNeg)).sai a5 x1.toNatClampNeg x3) 20 ((((h.tai a1 (va_cpy (h.ai a1) (h.ai a1) x2.toNatClampNeg (x1 + (1 : Int32)).toNatClampNeg ((h.fi 902 t0) - x2).toNatClampNeg)).tai a3 (va_cpy ((h.tai a1 (va_cpy (h.ai a1) (h.ai a1) x2.toNatClampNeg (x1 + (1 : Int32)).toNatClampNeg ((h.fi 902 t0) - x2).toNatClampNeg)).ai a3) ((h.tai a1 (va_cpy (h.ai a1) (h.ai a1) x2.toNatClampNeg (x1 + (1 : Int32)).toNatClampNeg ((h.fi 902 t0) - x2).toNatClampNeg)).ai a3) x2.toNatClampNeg (x1 + (1 : Int32)).toNatClampNeg (((h.tai a1 (va_cpy (h.ai a1) (h.ai a1) x2.toNatClampNeg (x1 + (1 : Int32)).toNatClampNeg ((h.fi 902 t0) - x2).toNatClampNeg)).fi 902 t0) - x2).toNatClampNeg)).sai a5 x1.toNatClampNeg x3).fr 901 t0) (fun a7 => ck (¬ (x1 < 0 ∨ (((h.tai a1 (va_cpy (h.ai a1) (h.ai a1) x2.toNatClampNeg (x1 + (1 : Int32)).toNatClampNeg ((h.fi 902 t0) - x2).toNatClampNeg)).tai a3 (va_cpy ((h.tai a1 (va_cpy (h.ai a1) (h.ai a1) x2.toNatClampNeg (x1 + (1 : Int32)).toNatClampNeg ((h.fi 902 t0) - x2).toNatClampNeg)).ai a3) ((h.tai a1 (va_cpy (h.ai a1) (h.ai a1) x2.toNatClampNeg (x1 + (1 : Int32)).toNatClampNeg ((h.fi 902 t0) - x2).toNatClampNeg)).ai a3) x2.toNatClampNeg (x1 + (1 : Int32)).toNatClampNeg (((h.tai a1 (va_cpy (h.ai a1) (h.ai a1) x2.toNatClampNeg (x1 + (1 : Int32)).toNatClampNeg ((h.fi 902 t0) - x2).toNatClampNeg)).fi 902 t0) - x2).toNatClampNeg)).sai a5 x1.toNatClampNeg x3).al a7 ≤ x1.toNatClampNeg)) (some (((((h.tai a1 (va_cpy (h.ai a1) (h.ai a1) x2.toNatClampNeg (x1 + (1 : Int32)).toNatClampNeg ((h.fi 902 t0) - x2).toNatClampNeg)).tai a3 (va_cpy ((h.tai a1 (va_cpy (h.ai a1) (h.ai a1) x2.toNatClampNeg (x1 + (1 : Int32)).toNatClampNeg ((h.fi 902 t0) - x2).toNatClampNeg)).ai a3) ((h.tai a1 (va_cpy (h.ai a1) (h.ai a1) x2.toNatClampNeg (x1 + (1 : Int32)).toNatClampNeg ((h.fi 902 t0) - x2).toNatClampNeg)).ai a3) x2.toNatClampNeg (x1 + (1 : Int32)).toNatClampNeg (((h.tai a1 (va_cpy (h.ai a1) (h.ai a1) x2.toNatClampNeg (x1 + (1 : Int32)).toNatClampNeg ((h.fi 902 t0) - x2).toNatClampNeg)).fi 902 t0) - x2).toNatClampNeg)).sai a5 x1.toNatClampNeg x3).sai a7 x1.toNatClampNeg x4).sfi 902 t0 ((((((h.tai a1 (va_cpy (h.ai a1) (h.ai a1) x2.toNatClampNeg (x1 + (1 : Int32)).toNatClampNeg ((h.fi 902 t0) - x2).toNatClampNeg)).tai a3 (va_cpy ((h.tai a1 (va_cpy (h.ai a1) (h.ai a1) x2.toNatClampNeg (x1 + (1 : Int32)).toNatClampNeg ((h.fi 902 t0) - x2).toNatClampNeg)).ai a3) ((h.tai a1 (va_cpy (h.ai a1) (h.ai a1) x2.toNatClampNeg (x1 + (1 : Int32)).toNatClampNeg ((h.fi 902 t0) - x2).toNatClampNeg)).ai a3) x2.toNatClampNeg (x1 + (1 : Int32)).toNatClampNeg (((h.tai a1 (va_cpy (h.ai a1) (h.ai a1) x2.toNatClampNeg (x1 + (1 : Int32)).toNatClampNeg ((h.fi 902 t0) - x2).toNatClampNeg)).fi 902 t0) - x2).toNatClampNeg)).sai a5 x1.toNatClampNeg x3).sai a7 x1.toNatClampNeg x4).fi 902 t0) + ((1 : Int32) - (x2 - x1))), ())))))))))
theorem mb_X6_replace_46 (N : Nat) (t0 : Nat) (h : Hp) (x1 : Int32) (x2 : Int32) (x3 : Int32) (x4 : Int32) (hJ : B_X6_replace_46 N t0 h x1 x2 x3 x4 = some (hz, ())) : Mo h hz := by
  unfold B_X6_replace_46 at hJ
  obtain ⟨a1, ea1, -, hJ⟩ := dr_some hJ
  obtain ⟨-, hJ⟩ := ck_some hJ
  obtain ⟨a3, ea3, -, hJ⟩ := dr_some hJ
  obtain ⟨-, hJ⟩ := ck_some hJ
  obtain ⟨a5, ea5, -, hJ⟩ := dr_some hJ
  obtain ⟨-, hJ⟩ := ck_some hJ
  obtain ⟨a7, ea7, -, hJ⟩ := dr_some hJ
  obtain ⟨-, hJ⟩ := ck_some hJ
  obtain ⟨rfl, -⟩ := rs2 hJ
  exact ⟨fun _ _ => rfl, Nat.le_refl _, Nat.le_refl _, rfl, fun _ _ => rfl⟩
set_option maxRecDepth 100000 in
set_option maxHeartbeats 4000000 in
theorem sb_X6_replace_46 (C : Cx p s m args meth c cX6_replace 5 none RX6 D cs A h0.se) (hz2 : hz.nx ≤ h0.nx + mc ∧ hz.su ≤ h0.su + ms) (N : Nat) (t0 : Nat) (h : Hp) (x1 : Int32) (x2 : Int32) (x3 : Int32) (x4 : Int32) (hJ : B_X6_replace_46 N t0 h x1 x2 x3 x4 = some (hz, ())) (hk0 : h.kd t0 = 9) {H : Heap} {locs : List Loc} {cells slots : Nat} (w : Wo D cs A s h0 h H locs cells slots) {ls : Array Slot} (hl : lv_has ls 5 [(0, .ref t0), (1, .int x1), (2, .int x2), (3, .int x3), (4, .int x4)]) : W p l e { frames := 2, cells := mc, slots := ms, locals := 90 } s m args below meth c H locs cells slots (MQ below (Zv D cs A hz) args s mc ms A) (F0 m 46 ls []) := by
  obtain ⟨hx, hb, hml, hown, hts, -⟩ := id C
  unfold B_X6_replace_46 at hJ
  refine lv_aload_n hx hb dX6_replace_46 rfl (lv_at hl 0 rfl) ?_
  refine fg_900 C w hk0 tw_1_233 dX6_replace_47 ?_
  refine lv_iload_n hx hb dX6_replace_50 rfl (lv_at hl 2 rfl) ?_
  refine lv_aload_n hx hb dX6_replace_51 rfl (lv_at hl 0 rfl) ?_
  refine fg_900 C w hk0 tw_1_233 dX6_replace_52 ?_
  refine lv_iload_n hx hb dX6_replace_55 rfl (lv_at hl 1 rfl) ?_
  refine lv_iconst (v := (1 : Int32)) hx hb dX6_replace_56 (by decide) ?_
  refine lv_iadd hx hb dX6_replace_57 ?_
  refine lv_aload_n hx hb dX6_replace_58 rfl (lv_at hl 0 rfl) ?_
  refine fg_902 C w hk0 tw_1_237 dX6_replace_59 ?_
  refine lv_iload_n hx hb dX6_replace_62 rfl (lv_at hl 2 rfl) ?_
  refine lv_isub hx hb dX6_replace_63 ?_
  obtain ⟨a1, ea1, hka1, hJ⟩ := dr_some hJ
  rw [ea1]
  obtain ⟨hc2, hJ⟩ := ck_some hJ
  refine jr_cpi C w hl.1 tw_5_231 hka1 hka1 hc2 (Nat.le_of_ble_eq_true rfl) (by first | exact Nat.le_of_ble_eq_true rfl | (simp [rf_cat, cat_i, cat_l, cat_r]; done) | (simp [rf_cat, cat_i, cat_l, cat_r]; decide)) dX6_replace_64 (fun H locs w => ?_)
  refine lv_aload_n hx hb dX6_replace_67 rfl (lv_at hl 0 rfl) ?_
  refine fg_901 C w hk0 tw_1_235 dX6_replace_68 ?_
  refine lv_iload_n hx hb dX6_replace_71 rfl (lv_at hl 2 rfl) ?_
  refine lv_aload_n hx hb dX6_replace_72 rfl (lv_at hl 0 rfl) ?_
  refine fg_901 C w hk0 tw_1_235 dX6_replace_73 ?_
  refine lv_iload_n hx hb dX6_replace_76 rfl (lv_at hl 1 rfl) ?_
  refine lv_iconst (v := (1 : Int32)) hx hb dX6_replace_77 (by decide) ?_
  refine lv_iadd hx hb dX6_replace_78 ?_
  refine lv_aload_n hx hb dX6_replace_79 rfl (lv_at hl 0 rfl) ?_
  refine fg_902 C w hk0 tw_1_237 dX6_replace_80 ?_
  refine lv_iload_n hx hb dX6_replace_83 rfl (lv_at hl 2 rfl) ?_
  refine lv_isub hx hb dX6_replace_84 ?_
  obtain ⟨a3, ea3, hka3, hJ⟩ := dr_some hJ
  rw [ea3]
  obtain ⟨hc4, hJ⟩ := ck_some hJ
  refine jr_cpi C w hl.1 tw_5_231 hka3 hka3 hc4 (Nat.le_of_ble_eq_true rfl) (by first | exact Nat.le_of_ble_eq_true rfl | (simp [rf_cat, cat_i, cat_l, cat_r]; done) | (simp [rf_cat, cat_i, cat_l, cat_r]; decide)) dX6_replace_85 (fun H locs w => ?_)
  refine lv_aload_n hx hb dX6_replace_88 rfl (lv_at hl 0 rfl) ?_
  refine fg_900 C w hk0 tw_1_233 dX6_replace_89 ?_
  refine lv_iload_n hx hb dX6_replace_92 rfl (lv_at hl 1 rfl) ?_
  refine lv_iload_n hx hb dX6_replace_93 rfl (lv_at hl 3 rfl) ?_
  obtain ⟨a5, ea5, hka5, hJ⟩ := dr_some hJ
  rw [ea5]
  obtain ⟨hi6, hJ⟩ := ck_some hJ
  refine jr_iast C w hka5 hi6 dX6_replace_94 (fun H locs w => ?_)
  refine lv_aload_n hx hb dX6_replace_95 rfl (lv_at hl 0 rfl) ?_
  refine fg_901 C w hk0 tw_1_235 dX6_replace_96 ?_
  refine lv_iload_n hx hb dX6_replace_99 rfl (lv_at hl 1 rfl) ?_
  refine lv_iload hx hb dX6_replace_100 (lv_at hl 4 rfl) ?_
  obtain ⟨a7, ea7, hka7, hJ⟩ := dr_some hJ
  rw [ea7]
  obtain ⟨hi8, hJ⟩ := ck_some hJ
  refine jr_iast C w hka7 hi8 dX6_replace_102 (fun H locs w => ?_)
  refine lv_aload_n hx hb dX6_replace_103 rfl (lv_at hl 0 rfl) ?_
  refine lv_dup hx hb dX6_replace_104 rfl ?_
  refine fg_902 C w hk0 tw_1_237 dX6_replace_105 ?_
  refine lv_iconst (v := (1 : Int32)) hx hb dX6_replace_108 (by decide) ?_
  refine lv_iload_n hx hb dX6_replace_109 rfl (lv_at hl 2 rfl) ?_
  refine lv_iload_n hx hb dX6_replace_110 rfl (lv_at hl 1 rfl) ?_
  refine lv_isub hx hb dX6_replace_111 ?_
  refine lv_isub hx hb dX6_replace_112 ?_
  refine lv_iadd hx hb dX6_replace_113 ?_
  refine fp_902 (x := (((((h.tai a1 (va_cpy (h.ai a1) (h.ai a1) x2.toNatClampNeg (x1 + (1 : Int32)).toNatClampNeg ((h.fi 902 t0) - x2).toNatClampNeg)).tai a3 (va_cpy ((h.tai a1 (va_cpy (h.ai a1) (h.ai a1) x2.toNatClampNeg (x1 + (1 : Int32)).toNatClampNeg ((h.fi 902 t0) - x2).toNatClampNeg)).ai a3) ((h.tai a1 (va_cpy (h.ai a1) (h.ai a1) x2.toNatClampNeg (x1 + (1 : Int32)).toNatClampNeg ((h.fi 902 t0) - x2).toNatClampNeg)).ai a3) x2.toNatClampNeg (x1 + (1 : Int32)).toNatClampNeg (((h.tai a1 (va_cpy (h.ai a1) (h.ai a1) x2.toNatClampNeg (x1 + (1 : Int32)).toNatClampNeg ((h.fi 902 t0) - x2).toNatClampNeg)).fi 902 t0) - x2).toNatClampNeg)).sai a5 x1.toNatClampNeg x3).sai a7 x1.toNatClampNeg x4).fi 902 t0) + ((1 : Int32) - (x2 - x1))) C w hk0 tw_1_237 dX6_replace_114 (fun H locs w => ?_)
  obtain ⟨rfl, -⟩ := rs2 hJ
  exact jr_vret C w hz2 dX6_replace_117
def B_X6_replace_43 (N : Nat) (t0 : Nat) (h : Hp) (x1 : Int32) (x2 : Int32) (x3 : Int32) (x4 : Int32) (y0 : Option Nat) (y1 : Option Nat) : Option (Hp × Unit) := dr h 9 y0 (fun a9 => B_X6_replace_46 N t0 (h.sfr 901 a9 y1) x1 x2 x3 x4)
theorem mb_X6_replace_43 (N : Nat) (t0 : Nat) (h : Hp) (x1 : Int32) (x2 : Int32) (x3 : Int32) (x4 : Int32) (y0 : Option Nat) (y1 : Option Nat) (hJ : B_X6_replace_43 N t0 h x1 x2 x3 x4 y0 y1 = some (hz, ())) : Mo h hz := by
  unfold B_X6_replace_43 at hJ
  obtain ⟨a9, ea9, -, hJ⟩ := dr_some hJ
  exact (Mo.tr (show Mo h (h.sfr 901 a9 y1) from ⟨fun _ _ => rfl, Nat.le_refl _, Nat.le_refl _, rfl, fun _ _ => rfl⟩) (mb_X6_replace_46 N t0 _ _ _ _ _ hJ))
set_option maxRecDepth 100000 in
set_option maxHeartbeats 4000000 in
theorem sb_X6_replace_43 (C : Cx p s m args meth c cX6_replace 5 none RX6 D cs A h0.se) (hz2 : hz.nx ≤ h0.nx + mc ∧ hz.su ≤ h0.su + ms) (N : Nat) (t0 : Nat) (h : Hp) (x1 : Int32) (x2 : Int32) (x3 : Int32) (x4 : Int32) (y0 : Option Nat) (y1 : Option Nat) (hJ : B_X6_replace_43 N t0 h x1 x2 x3 x4 y0 y1 = some (hz, ())) (hk0 : h.kd t0 = 9) {H : Heap} {locs : List Loc} {cells slots : Nat} (w : Wo D cs A s h0 h H locs cells slots) {ls : Array Slot} (hl : lv_has ls 5 [(0, .ref t0), (1, .int x1), (2, .int x2), (3, .int x3), (4, .int x4)]) : W p l e { frames := 2, cells := mc, slots := ms, locals := 90 } s m args below meth c H locs cells slots (MQ below (Zv D cs A hz) args s mc ms A) (F0 m 43 ls [va_rf y1, va_rf y0]) := by
  obtain ⟨hx, hb, hml, hown, hts, -⟩ := id C
  unfold B_X6_replace_43 at hJ
  obtain ⟨a9, ea9, hka9, hJ⟩ := dr_some hJ
  rw [ea9]
  refine fp_901 (x := y1) C w hka9 tw_1_235 dX6_replace_43 (fun H locs w => ?_)
  exact sb_X6_replace_46 C hz2 N t0 _ _ _ _ _ hJ hk0 w hl
def B_X6_replace_26 (N : Nat) (t0 : Nat) (h : Hp) (x1 : Int32) (x2 : Int32) (x3 : Int32) (x4 : Int32) (y0 : Option Nat) (y1 : Option Nat) : Option (Hp × Unit) := dr h 9 y0 (fun a10 => (J_J7_copyOf_59c91 N (h.sfr 900 a10 y1) ((h.sfr 900 a10 y1).fr 901 t0) (((h.sfr 900 a10 y1).fi 902 t0) * (2 : Int32))).bind (fun z => B_X6_replace_43 N t0 z.1 x1 x2 x3 x4 (some t0) z.2))
theorem mb_X6_replace_26 (N : Nat) (t0 : Nat) (h : Hp) (x1 : Int32) (x2 : Int32) (x3 : Int32) (x4 : Int32) (y0 : Option Nat) (y1 : Option Nat) (hJ : B_X6_replace_26 N t0 h x1 x2 x3 x4 y0 y1 = some (hz, ())) : Mo h hz := by
  unfold B_X6_replace_26 at hJ
  obtain ⟨a10, ea10, -, hJ⟩ := dr_some hJ
  obtain ⟨⟨h11, r12⟩, e13, hJ⟩ := ob_some hJ
  exact (Mo.tr (show Mo h (h.sfr 900 a10 y1) from ⟨fun _ _ => rfl, Nat.le_refl _, Nat.le_refl _, rfl, fun _ _ => rfl⟩) ((mo_J7_copyOf_59c91 N (h.sfr 900 a10 y1) ((h.sfr 900 a10 y1).fr 901 t0) (((h.sfr 900 a10 y1).fi 902 t0) * (2 : Int32)) e13).tr (mb_X6_replace_43 N t0 _ _ _ _ _ _ _ hJ)))
set_option maxRecDepth 100000 in
set_option maxHeartbeats 4000000 in
theorem sb_X6_replace_26 (C : Cx p s m args meth c cX6_replace 5 none RX6 D cs A h0.se) (hz2 : hz.nx ≤ h0.nx + mc ∧ hz.su ≤ h0.su + ms) (N : Nat) (t0 : Nat) (h : Hp) (x1 : Int32) (x2 : Int32) (x3 : Int32) (x4 : Int32) (y0 : Option Nat) (y1 : Option Nat) (hJ : B_X6_replace_26 N t0 h x1 x2 x3 x4 y0 y1 = some (hz, ())) (hk0 : h.kd t0 = 9) {H : Heap} {locs : List Loc} {cells slots : Nat} (w : Wo D cs A s h0 h H locs cells slots) {ls : Array Slot} (hl : lv_has ls 5 [(0, .ref t0), (1, .int x1), (2, .int x2), (3, .int x3), (4, .int x4)]) : W p l e { frames := 2, cells := mc, slots := ms, locals := 90 } s m args below meth c H locs cells slots (MQ below (Zv D cs A hz) args s mc ms A) (F0 m 26 ls [va_rf y1, va_rf y0]) := by
  obtain ⟨hx, hb, hml, hown, hts, -⟩ := id C
  unfold B_X6_replace_26 at hJ
  obtain ⟨a10, ea10, hka10, hJ⟩ := dr_some hJ
  rw [ea10]
  refine fp_900 (x := y1) C w hka10 tw_1_233 dX6_replace_26 (fun H locs w => ?_)
  refine lv_aload_n hx hb dX6_replace_29 rfl (lv_at hl 0 rfl) ?_
  refine lv_aload_n hx hb dX6_replace_30 rfl (lv_at hl 0 rfl) ?_
  refine fg_901 C w hk0 tw_1_235 dX6_replace_31 ?_
  refine lv_aload_n hx hb dX6_replace_34 rfl (lv_at hl 0 rfl) ?_
  refine fg_902 C w hk0 tw_1_237 dX6_replace_35 ?_
  refine lv_iconst (v := (2 : Int32)) hx hb dX6_replace_38 (by decide) ?_
  refine lv_imul hx hb dX6_replace_39 ?_
  obtain ⟨⟨h11, r12⟩, e13, hJ⟩ := ob_some hJ
  refine jc_Sq (As := [va_rf ((h.sfr 900 a10 y1).fr 901 t0), .int (((h.sfr 900 a10 y1).fi 902 t0) * (2 : Int32))]) C w (cc_J7_copyOf_59c91 N (h.sfr 900 a10 y1) ((h.sfr 900 a10 y1).fr 901 t0) (((h.sfr 900 a10 y1).fi 902 t0) * (2 : Int32)) e13) (mo_J7_copyOf_59c91 N (h.sfr 900 a10 y1) ((h.sfr 900 a10 y1).fr 901 t0) (((h.sfr 900 a10 y1).fi 902 t0) * (2 : Int32)) e13) (mb_X6_replace_43 N t0 _ _ _ _ _ _ _ hJ) hz2 ⟨tw_5_225, tw_5_223, tw_5_224, tw_1_15⟩ cd_J7_copyOf_59c91 ⟨by decide, by decide⟩ hl.1 (by first | exact Nat.le_of_ble_eq_true rfl | simp [rf_cat, cat_i, cat_l, cat_r]) rfl dX6_replace_40 (fun H locs w1 => ?_)
  have hk14 := kd_keep w (mo_J7_copyOf_59c91 N (h.sfr 900 a10 y1) ((h.sfr 900 a10 y1).fr 901 t0) (((h.sfr 900 a10 y1).fi 902 t0) * (2 : Int32)) e13) hk0 (by decide)
  have w := w1
  exact sb_X6_replace_43 C hz2 N t0 _ _ _ _ _ _ _ hJ hk14 w hl
def B_X6_replace_0 (N : Nat) (t0 : Nat) (h : Hp) (x1 : Int32) (x2 : Int32) (x3 : Int32) (x4 : Int32) : Option (Hp × Unit) := dr h 20 (h.fr 900 t0) (fun a15 => if (h.fi 902 t0) = (nI (h.al a15)) then ((J_J7_copyOf_59c91 N h (h.fr 900 t0) ((h.fi 902 t0) * (2 : Int32))).bind (fun z => B_X6_replace_26 N t0 z.1 x1 x2 x3 x4 (some t0) z.2)) else (B_X6_replace_46 N t0 h x1 x2 x3 x4))
theorem mb_X6_replace_0 (N : Nat) (t0 : Nat) (h : Hp) (x1 : Int32) (x2 : Int32) (x3 : Int32) (x4 : Int32) (hJ : B_X6_replace_0 N t0 h x1 x2 x3 x4 = some (hz, ())) : Mo h hz := by
  unfold B_X6_replace_0 at hJ
  obtain ⟨a15, ea15, -, hJ⟩ := dr_some hJ
  by_cases c16 : (h.fi 902 t0) = (nI (h.al a15))
  · have hJ := it_pos c16 hJ
    obtain ⟨⟨h17, r18⟩, e19, hJ⟩ := ob_some hJ
    exact (mo_J7_copyOf_59c91 N h (h.fr 900 t0) ((h.fi 902 t0) * (2 : Int32)) e19).tr (mb_X6_replace_26 N t0 _ _ _ _ _ _ _ hJ)
  · have hJ := it_neg c16 hJ
    exact mb_X6_replace_46 N t0 _ _ _ _ _ hJ
set_option maxRecDepth 100000 in
set_option maxHeartbeats 4000000 in
theorem sb_X6_replace_0 (C : Cx p s m args meth c cX6_replace 5 none RX6 D cs A h0.se) (hz2 : hz.nx ≤ h0.nx + mc ∧ hz.su ≤ h0.su + ms) (N : Nat) (t0 : Nat) (h : Hp) (x1 : Int32) (x2 : Int32) (x3 : Int32) (x4 : Int32) (hJ : B_X6_replace_0 N t0 h x1 x2 x3 x4 = some (hz, ())) (hk0 : h.kd t0 = 9) {H : Heap} {locs : List Loc} {cells slots : Nat} (w : Wo D cs A s h0 h H locs cells slots) {ls : Array Slot} (hl : lv_has ls 5 [(0, .ref t0), (1, .int x1), (2, .int x2), (3, .int x3), (4, .int x4)]) : W p l e { frames := 2, cells := mc, slots := ms, locals := 90 } s m args below meth c H locs cells slots (MQ below (Zv D cs A hz) args s mc ms A) (F0 m 0 ls []) := by
  obtain ⟨hx, hb, hml, hown, hts, -⟩ := id C
  unfold B_X6_replace_0 at hJ
  refine lv_aload_n hx hb dX6_replace_0 rfl (lv_at hl 0 rfl) ?_
  refine fg_902 C w hk0 tw_1_237 dX6_replace_1 ?_
  refine lv_aload_n hx hb dX6_replace_4 rfl (lv_at hl 0 rfl) ?_
  refine fg_900 C w hk0 tw_1_233 dX6_replace_5 ?_
  obtain ⟨a15, ea15, hka15, hJ⟩ := dr_some hJ
  rw [ea15]
  refine jr_alen C w hka15 (by decide) dX6_replace_8 ?_
  refine lv_icmp_ne (tgt := 46) hx hb dX6_replace_9 (by decide) (fun c16 => ?_) (fun c16 => ?_)
  · have hJ := it_neg c16 hJ
    exact sb_X6_replace_46 C hz2 N t0 _ _ _ _ _ hJ hk0 w hl
  · have hJ := it_pos c16 hJ
    refine lv_aload_n hx hb dX6_replace_12 rfl (lv_at hl 0 rfl) ?_
    refine lv_aload_n hx hb dX6_replace_13 rfl (lv_at hl 0 rfl) ?_
    refine fg_900 C w hk0 tw_1_233 dX6_replace_14 ?_
    refine lv_aload_n hx hb dX6_replace_17 rfl (lv_at hl 0 rfl) ?_
    refine fg_902 C w hk0 tw_1_237 dX6_replace_18 ?_
    refine lv_iconst (v := (2 : Int32)) hx hb dX6_replace_21 (by decide) ?_
    refine lv_imul hx hb dX6_replace_22 ?_
    obtain ⟨⟨h17, r18⟩, e19, hJ⟩ := ob_some hJ
    refine jc_Sq (As := [va_rf (h.fr 900 t0), .int ((h.fi 902 t0) * (2 : Int32))]) C w (cc_J7_copyOf_59c91 N h (h.fr 900 t0) ((h.fi 902 t0) * (2 : Int32)) e19) (mo_J7_copyOf_59c91 N h (h.fr 900 t0) ((h.fi 902 t0) * (2 : Int32)) e19) (mb_X6_replace_26 N t0 _ _ _ _ _ _ _ hJ) hz2 ⟨tw_5_225, tw_5_223, tw_5_224, tw_1_15⟩ cd_J7_copyOf_59c91 ⟨by decide, by decide⟩ hl.1 (by first | exact Nat.le_of_ble_eq_true rfl | simp [rf_cat, cat_i, cat_l, cat_r]) rfl dX6_replace_23 (fun H locs w1 => ?_)
    have hk20 := kd_keep w (mo_J7_copyOf_59c91 N h (h.fr 900 t0) ((h.fi 902 t0) * (2 : Int32)) e19) hk0 (by decide)
    have w := w1
    exact sb_X6_replace_26 C hz2 N t0 _ _ _ _ _ _ _ hJ hk20 w hl
def J_X6_replace (N : Nat) (t0 : Nat) (h : Hp) (x1 : Int32) (x2 : Int32) (x3 : Int32) (x4 : Int32) : Option (Hp × Unit) := B_X6_replace_0 N t0 h x1 x2 x3 x4
theorem mo_X6_replace (N : Nat) (t0 : Nat) (h : Hp) (x1 : Int32) (x2 : Int32) (x3 : Int32) (x4 : Int32) (hJ : J_X6_replace N t0 h x1 x2 x3 x4 = some (hz, ())) : Mo h hz := mb_X6_replace_0 N t0 h x1 x2 x3 x4 hJ
theorem cd_X6_replace : Cd yX6_replace 4 := ⟨by decide +kernel, by decide +kernel, by decide +kernel⟩
theorem cc_X6_replace (N : Nat) (t0 : Nat) (h : Hp) (x1 : Int32) (x2 : Int32) (x3 : Int32) (x4 : Int32) (hk0 : h.kd t0 = 9) (hJ : J_X6_replace N t0 h x1 x2 x3 x4 = some (hz, ())) : Cv l yX6_replace cX6_replace 5 none 2 90 D cs h hz [.ref t0, .int x1, .int x2, .int x3, .int x4] := by
  intro mc ms g1 g2
  refine je_any (by decide) (by simp [lg_sl, rf_cat, cat_i, cat_l, cat_r]) ?_
  intro p e s m args below meth c C hin2 w ls hl
  have hl : lv_has ls 5 [(0, .ref t0), (1, .int x1), (2, .int x2), (3, .int x3), (4, .int x4)] := hl
  exact sb_X6_replace_0 C ⟨g1, g2⟩ N t0 h x1 x2 x3 x4 hJ hk0 w hl
end G_X6_replace
section G_X6_add
variable {p : Program} {l : Launch} {e : Env} {s : State} {m : MethodId} {args : Array Value} {below : List Frame} {meth : Method} {c : Code} {D : va_G} {cs : C4} {A : Nat → Prop} {h0 hz : Hp} {mc ms : Nat}
def B_X6_add_69 (N : Nat) (k18 : Hp → Int32 → Int32 → Int32 → Int32 → Int32 → Option (Hp × Unit)) (t0 : Nat) (h : Hp) (x2 : Int32) (x3 : Int32) (x4 : Int32) (x5 : Int32) (y0 : Int32) : Option (Hp × Unit) := k18 h x2 x3 (x4 + (1 : Int32)) x5 y0
theorem mb_X6_add_69 (N : Nat) (k18 : Hp → Int32 → Int32 → Int32 → Int32 → Int32 → Option (Hp × Unit)) (t0 : Nat) (h : Hp) (x2 : Int32) (x3 : Int32) (x4 : Int32) (x5 : Int32) (y0 : Int32) (m18 : ∀ (h : Hp) (x2 : Int32) (x3 : Int32) (x4 : Int32) (x5 : Int32) (x6 : Int32), k18 h x2 x3 x4 x5 x6 = some (hz, ()) → Mo h hz) (hJ : B_X6_add_69 N k18 t0 h x2 x3 x4 x5 y0 = some (hz, ())) : Mo h hz := by
  unfold B_X6_add_69 at hJ
  exact m18 _ _ _ _ _ _ hJ
set_option maxRecDepth 100000 in
set_option maxHeartbeats 4000000 in
theorem sb_X6_add_69 (C : Cx p s m args meth c cX6_add 7 none RX6 D cs A h0.se) (hz2 : hz.nx ≤ h0.nx + mc ∧ hz.su ≤ h0.su + ms) (N : Nat) (k18 : Hp → Int32 → Int32 → Int32 → Int32 → Int32 → Option (Hp × Unit)) (t0 : Nat) (m18 : ∀ (h : Hp) (x2 : Int32) (x3 : Int32) (x4 : Int32) (x5 : Int32) (x6 : Int32), k18 h x2 x3 x4 x5 x6 = some (hz, ()) → Mo h hz) (i18 : ∀ (h : Hp) (x2 : Int32) (x3 : Int32) (x4 : Int32) (x5 : Int32) (x6 : Int32) (H : Heap) (locs : List Loc) (cells slots : Nat) (ls : Array Slot), k18 h x2 x3 x4 x5 x6 = some (hz, ()) → h.kd t0 = 9 → Wo D cs A s h0 h H locs cells slots → lv_has ls 7 [(0, .ref t0), (2, .int x2), (3, .int x3), (4, .int x4), (5, .int x5), (6, .int x6)] → W p l e { frames := 3, cells := mc, slots := ms, locals := 120 } s m args below meth c H locs cells slots (MQ below (Zv D cs A hz) args s mc ms A) (F0 m 18 ls [])) (h : Hp) (x2 : Int32) (x3 : Int32) (x4 : Int32) (x5 : Int32) (y0 : Int32) (hJ : B_X6_add_69 N k18 t0 h x2 x3 x4 x5 y0 = some (hz, ())) (hk0 : h.kd t0 = 9) {H : Heap} {locs : List Loc} {cells slots : Nat} (w : Wo D cs A s h0 h H locs cells slots) {ls : Array Slot} (hl : lv_has ls 7 [(0, .ref t0), (2, .int x2), (3, .int x3), (4, .int x4), (5, .int x5)]) : W p l e { frames := 3, cells := mc, slots := ms, locals := 120 } s m args below meth c H locs cells slots (MQ below (Zv D cs A hz) args s mc ms A) (F0 m 69 ls [.int y0]) := by
  obtain ⟨hx, hb, hml, hown, hts, -⟩ := id C
  unfold B_X6_add_69 at hJ
  refine lv_istore (i := 6) (lv' := [(6, .int y0), (0, .ref t0), (2, .int x2), (3, .int x3), (4, .int x4), (5, .int x5)]) hx hb dX6_add_69 hl (by decide) rfl (fun ls hl => ?_)
  refine lv_iinc (v := x4 + (1 : Int32)) (lv' := [(4, .int (x4 + (1 : Int32))), (6, .int y0), (0, .ref t0), (2, .int x2), (3, .int x3), (5, .int x5)]) hx hb dX6_add_71 hl (k := 4) rfl rfl (by decide) rfl (fun ls hl => ?_)
  refine lv_goto (tgt := 18) hx hb dX6_add_74 (by decide) ?_
  exact i18 _ _ _ _ _ _ _ _ _ _ _ hJ hk0 w (lv_sub (l' := [(0, .ref t0), (2, .int x2), (3, .int x3), (4, .int (x4 + (1 : Int32))), (5, .int x5), (6, .int y0)]) hl [2, 3, 4, 0, 5, 1] rfl)
def B_X6_add_55 (N : Nat) (k18 : Hp → Int32 → Int32 → Int32 → Int32 → Int32 → Option (Hp × Unit)) (t0 : Nat) (h : Hp) (x2 : Int32) (x3 : Int32) (x4 : Int32) (x6 : Int32) (y0 : Int32) : Option (Hp × Unit) := dr h 20 (h.fr 901 t0) (fun a1 => ck (¬ (x4 < 0 ∨ h.al a1 ≤ x4.toNatClampNeg)) (B_X6_add_69 N k18 t0 h x2 x3 x4 y0 (if x6 < (h.ai a1 x4.toNatClampNeg) then (h.ai a1 x4.toNatClampNeg) else x6)))
theorem mb_X6_add_55 (N : Nat) (k18 : Hp → Int32 → Int32 → Int32 → Int32 → Int32 → Option (Hp × Unit)) (t0 : Nat) (h : Hp) (x2 : Int32) (x3 : Int32) (x4 : Int32) (x6 : Int32) (y0 : Int32) (m18 : ∀ (h : Hp) (x2 : Int32) (x3 : Int32) (x4 : Int32) (x5 : Int32) (x6 : Int32), k18 h x2 x3 x4 x5 x6 = some (hz, ()) → Mo h hz) (hJ : B_X6_add_55 N k18 t0 h x2 x3 x4 x6 y0 = some (hz, ())) : Mo h hz := by
  unfold B_X6_add_55 at hJ
  obtain ⟨a1, ea1, -, hJ⟩ := dr_some hJ
  obtain ⟨-, hJ⟩ := ck_some hJ
  exact mb_X6_add_69 N k18 t0 _ _ _ _ _ _ m18 hJ
set_option maxRecDepth 100000 in
set_option maxHeartbeats 4000000 in
theorem sb_X6_add_55 (C : Cx p s m args meth c cX6_add 7 none RX6 D cs A h0.se) (hz2 : hz.nx ≤ h0.nx + mc ∧ hz.su ≤ h0.su + ms) (N : Nat) (k18 : Hp → Int32 → Int32 → Int32 → Int32 → Int32 → Option (Hp × Unit)) (t0 : Nat) (m18 : ∀ (h : Hp) (x2 : Int32) (x3 : Int32) (x4 : Int32) (x5 : Int32) (x6 : Int32), k18 h x2 x3 x4 x5 x6 = some (hz, ()) → Mo h hz) (i18 : ∀ (h : Hp) (x2 : Int32) (x3 : Int32) (x4 : Int32) (x5 : Int32) (x6 : Int32) (H : Heap) (locs : List Loc) (cells slots : Nat) (ls : Array Slot), k18 h x2 x3 x4 x5 x6 = some (hz, ()) → h.kd t0 = 9 → Wo D cs A s h0 h H locs cells slots → lv_has ls 7 [(0, .ref t0), (2, .int x2), (3, .int x3), (4, .int x4), (5, .int x5), (6, .int x6)] → W p l e { frames := 3, cells := mc, slots := ms, locals := 120 } s m args below meth c H locs cells slots (MQ below (Zv D cs A hz) args s mc ms A) (F0 m 18 ls [])) (h : Hp) (x2 : Int32) (x3 : Int32) (x4 : Int32) (x6 : Int32) (y0 : Int32) (hJ : B_X6_add_55 N k18 t0 h x2 x3 x4 x6 y0 = some (hz, ())) (hk0 : h.kd t0 = 9) {H : Heap} {locs : List Loc} {cells slots : Nat} (w : Wo D cs A s h0 h H locs cells slots) {ls : Array Slot} (hl : lv_has ls 7 [(0, .ref t0), (2, .int x2), (3, .int x3), (4, .int x4), (6, .int x6)]) : W p l e { frames := 3, cells := mc, slots := ms, locals := 120 } s m args below meth c H locs cells slots (MQ below (Zv D cs A hz) args s mc ms A) (F0 m 55 ls [.int y0]) := by
  obtain ⟨hx, hb, hml, hown, hts, -⟩ := id C
  unfold B_X6_add_55 at hJ
  refine lv_istore (i := 5) (lv' := [(5, .int y0), (0, .ref t0), (2, .int x2), (3, .int x3), (4, .int x4), (6, .int x6)]) hx hb dX6_add_55 hl (by decide) rfl (fun ls hl => ?_)
  refine lv_iload hx hb dX6_add_57 (lv_at hl 5 rfl) ?_
  refine lv_aload_n hx hb dX6_add_59 rfl (lv_at hl 1 rfl) ?_
  refine fg_901 C w hk0 tw_1_235 dX6_add_60 ?_
  refine lv_iload hx hb dX6_add_63 (lv_at hl 4 rfl) ?_
  obtain ⟨a1, ea1, hka1, hJ⟩ := dr_some hJ
  rw [ea1]
  obtain ⟨hi2, hJ⟩ := ck_some hJ
  refine jr_iald C w hka1 hi2 dX6_add_65 ?_
  refine va_mmax hx hb (hml.trans hl.1.symm) hown (hts _ tw_5_218) (hts _ tw_2_104) (hts _ tw_1_14) (hts _ tw_max) (Nat.le_of_ble_eq_true rfl) (by first | exact Nat.le_of_ble_eq_true rfl | simp [rf_cat, cat_i, cat_l, cat_r]) (rm_now w (mb_X6_add_69 N k18 t0 _ _ _ _ _ _ m18 hJ) hz2).1 (rm_now w (mb_X6_add_69 N k18 t0 _ _ _ _ _ _ m18 hJ) hz2).2 dX6_add_66 ?_
  exact sb_X6_add_69 C hz2 N k18 t0 m18 i18 _ _ _ _ _ _ hJ hk0 w (lv_sub (l' := [(0, .ref t0), (2, .int x2), (3, .int x3), (4, .int x4), (5, .int y0)]) hl [1, 2, 3, 4, 0] rfl)
def B_X6_add_88 (N : Nat) (t0 : Nat) (h : Hp) : Option (Hp × Unit) := some (h, ())
theorem mb_X6_add_88 (N : Nat) (t0 : Nat) (h : Hp) (hJ : B_X6_add_88 N t0 h = some (hz, ())) : Mo h hz := by
  unfold B_X6_add_88 at hJ
  obtain ⟨rfl, -⟩ := rs2 hJ
  exact ⟨fun _ _ => rfl, Nat.le_refl _, Nat.le_refl _, rfl, fun _ _ => rfl⟩
set_option maxRecDepth 100000 in
set_option maxHeartbeats 4000000 in
theorem sb_X6_add_88 (C : Cx p s m args meth c cX6_add 7 none RX6 D cs A h0.se) (hz2 : hz.nx ≤ h0.nx + mc ∧ hz.su ≤ h0.su + ms) (N : Nat) (t0 : Nat) (h : Hp) (hJ : B_X6_add_88 N t0 h = some (hz, ())) (hk0 : h.kd t0 = 9) {H : Heap} {locs : List Loc} {cells slots : Nat} (w : Wo D cs A s h0 h H locs cells slots) {ls : Array Slot} (hl : lv_has ls 7 [(0, .ref t0)]) : W p l e { frames := 3, cells := mc, slots := ms, locals := 120 } s m args below meth c H locs cells slots (MQ below (Zv D cs A hz) args s mc ms A) (F0 m 88 ls []) := by
  obtain ⟨hx, hb, hml, hown, hts, -⟩ := id C
  unfold B_X6_add_88 at hJ
  obtain ⟨rfl, -⟩ := rs2 hJ
  exact jr_vret C w hz2 dX6_add_88
def B_X6_add_77 (N : Nat) (t0 : Nat) (h : Hp) (x3 : Int32) (x4 : Int32) (x5 : Int32) (x6 : Int32) : Option (Hp × Unit) := (J_X6_replace N t0 h x3 x4 x5 x6).bind (fun z => B_X6_add_88 N t0 z.1)
theorem mb_X6_add_77 (N : Nat) (t0 : Nat) (h : Hp) (x3 : Int32) (x4 : Int32) (x5 : Int32) (x6 : Int32) (hJ : B_X6_add_77 N t0 h x3 x4 x5 x6 = some (hz, ())) : Mo h hz := by
  unfold B_X6_add_77 at hJ
  obtain ⟨⟨h3, r4⟩, e5, hJ⟩ := ob_some hJ
  exact (mo_X6_replace N t0 h x3 x4 x5 x6 e5).tr (mb_X6_add_88 N t0 _ hJ)
set_option maxRecDepth 100000 in
set_option maxHeartbeats 4000000 in
theorem sb_X6_add_77 (C : Cx p s m args meth c cX6_add 7 none RX6 D cs A h0.se) (hz2 : hz.nx ≤ h0.nx + mc ∧ hz.su ≤ h0.su + ms) (N : Nat) (t0 : Nat) (h : Hp) (x3 : Int32) (x4 : Int32) (x5 : Int32) (x6 : Int32) (hJ : B_X6_add_77 N t0 h x3 x4 x5 x6 = some (hz, ())) (hk0 : h.kd t0 = 9) {H : Heap} {locs : List Loc} {cells slots : Nat} (w : Wo D cs A s h0 h H locs cells slots) {ls : Array Slot} (hl : lv_has ls 7 [(0, .ref t0), (3, .int x3), (4, .int x4), (5, .int x5), (6, .int x6)]) : W p l e { frames := 3, cells := mc, slots := ms, locals := 120 } s m args below meth c H locs cells slots (MQ below (Zv D cs A hz) args s mc ms A) (F0 m 77 ls []) := by
  obtain ⟨hx, hb, hml, hown, hts, -⟩ := id C
  unfold B_X6_add_77 at hJ
  refine lv_aload_n hx hb dX6_add_77 rfl (lv_at hl 0 rfl) ?_
  refine lv_iload_n hx hb dX6_add_78 rfl (lv_at hl 1 rfl) ?_
  refine lv_iload hx hb dX6_add_79 (lv_at hl 2 rfl) ?_
  refine lv_iload hx hb dX6_add_81 (lv_at hl 3 rfl) ?_
  refine lv_iload hx hb dX6_add_83 (lv_at hl 4 rfl) ?_
  obtain ⟨⟨h3, r4⟩, e5, hJ⟩ := ob_some hJ
  refine jc_Vv (As := [.int x3, .int x4, .int x5, .int x6]) C w (cc_X6_replace N t0 h x3 x4 x5 x6 hk0 e5) (mo_X6_replace N t0 h x3 x4 x5 x6 e5) (mb_X6_add_88 N t0 _ hJ) hz2 hk0 (by decide) rfl (fs := fs9 h t0) rfl rfl ⟨tw_5_222, tw_5_219, tw_5_220, tw_5_221, tw_1_10⟩ cd_X6_replace ⟨by decide, by decide⟩ hl.1 (by first | exact Nat.le_of_ble_eq_true rfl | simp [rf_cat, cat_i, cat_l, cat_r]) rfl dX6_add_85 (fun H locs w1 => ?_)
  have hk6 := kd_keep w (mo_X6_replace N t0 h x3 x4 x5 x6 e5) hk0 (by decide)
  have w := w1
  exact sb_X6_add_88 C hz2 N t0 _ hJ hk6 w (lv_sub (l' := [(0, .ref t0)]) hl [0] rfl)
def B_X6_add_18 (N : Nat) (k18 : Hp → Int32 → Int32 → Int32 → Int32 → Int32 → Option (Hp × Unit)) (t0 : Nat) (h : Hp) (x2 : Int32) (x3 : Int32) (x4 : Int32) (x5 : Int32) (x6 : Int32) : Option (Hp × Unit) := if (h.fi 902 t0) ≤ x4 then (B_X6_add_77 N t0 h x3 x4 x5 x6) else (dr h 20 (h.fr 900 t0) (fun a8 => ck (¬ (x4 < 0 ∨ h.al a8 ≤ x4.toNatClampNeg)) (if 0 < (lg_cmp ((h.ai a8 x4.toNatClampNeg).toInt64) (x2.toInt64 + (1 : Int64))) then (B_X6_add_77 N t0 h x3 x4 x5 x6) else (dr h 20 (h.fr 900 t0) (fun a11 => ck (¬ (x4 < 0 ∨ h.al a11 ≤ x4.toNatClampNeg)) (B_X6_add_55 N k18 t0 h x2 x3 x4 x6 (if (h.ai a11 x4.toNatClampNeg) < x5 then (h.ai a11 x4.toNatClampNeg) else x5)))))))
theorem mb_X6_add_18 (N : Nat) (k18 : Hp → Int32 → Int32 → Int32 → Int32 → Int32 → Option (Hp × Unit)) (t0 : Nat) (h : Hp) (x2 : Int32) (x3 : Int32) (x4 : Int32) (x5 : Int32) (x6 : Int32) (m18 : ∀ (h : Hp) (x2 : Int32) (x3 : Int32) (x4 : Int32) (x5 : Int32) (x6 : Int32), k18 h x2 x3 x4 x5 x6 = some (hz, ()) → Mo h hz) (hJ : B_X6_add_18 N k18 t0 h x2 x3 x4 x5 x6 = some (hz, ())) : Mo h hz := by
  unfold B_X6_add_18 at hJ
  by_cases c7 : (h.fi 902 t0) ≤ x4
  · have hJ := it_pos c7 hJ
    exact mb_X6_add_77 N t0 _ _ _ _ _ hJ
  · have hJ := it_neg c7 hJ
    obtain ⟨a8, ea8, -, hJ⟩ := dr_some hJ
    obtain ⟨-, hJ⟩ := ck_some hJ
    by_cases c10 : 0 < (lg_cmp ((h.ai a8 x4.toNatClampNeg).toInt64) (x2.toInt64 + (1 : Int64)))
    · have hJ := it_pos c10 hJ
      exact mb_X6_add_77 N t0 _ _ _ _ _ hJ
    · have hJ := it_neg c10 hJ
      obtain ⟨a11, ea11, -, hJ⟩ := dr_some hJ
      obtain ⟨-, hJ⟩ := ck_some hJ
      exact mb_X6_add_55 N k18 t0 _ _ _ _ _ _ m18 hJ
set_option maxRecDepth 100000 in
set_option maxHeartbeats 4000000 in
theorem sb_X6_add_18 (C : Cx p s m args meth c cX6_add 7 none RX6 D cs A h0.se) (hz2 : hz.nx ≤ h0.nx + mc ∧ hz.su ≤ h0.su + ms) (N : Nat) (k18 : Hp → Int32 → Int32 → Int32 → Int32 → Int32 → Option (Hp × Unit)) (t0 : Nat) (m18 : ∀ (h : Hp) (x2 : Int32) (x3 : Int32) (x4 : Int32) (x5 : Int32) (x6 : Int32), k18 h x2 x3 x4 x5 x6 = some (hz, ()) → Mo h hz) (i18 : ∀ (h : Hp) (x2 : Int32) (x3 : Int32) (x4 : Int32) (x5 : Int32) (x6 : Int32) (H : Heap) (locs : List Loc) (cells slots : Nat) (ls : Array Slot), k18 h x2 x3 x4 x5 x6 = some (hz, ()) → h.kd t0 = 9 → Wo D cs A s h0 h H locs cells slots → lv_has ls 7 [(0, .ref t0), (2, .int x2), (3, .int x3), (4, .int x4), (5, .int x5), (6, .int x6)] → W p l e { frames := 3, cells := mc, slots := ms, locals := 120 } s m args below meth c H locs cells slots (MQ below (Zv D cs A hz) args s mc ms A) (F0 m 18 ls [])) (h : Hp) (x2 : Int32) (x3 : Int32) (x4 : Int32) (x5 : Int32) (x6 : Int32) (hJ : B_X6_add_18 N k18 t0 h x2 x3 x4 x5 x6 = some (hz, ())) (hk0 : h.kd t0 = 9) {H : Heap} {locs : List Loc} {cells slots : Nat} (w : Wo D cs A s h0 h H locs cells slots) {ls : Array Slot} (hl : lv_has ls 7 [(0, .ref t0), (2, .int x2), (3, .int x3), (4, .int x4), (5, .int x5), (6, .int x6)]) : W p l e { frames := 3, cells := mc, slots := ms, locals := 120 } s m args below meth c H locs cells slots (MQ below (Zv D cs A hz) args s mc ms A) (F0 m 18 ls []) := by
  obtain ⟨hx, hb, hml, hown, hts, -⟩ := id C
  unfold B_X6_add_18 at hJ
  refine lv_iload hx hb dX6_add_18 (lv_at hl 3 rfl) ?_
  refine lv_aload_n hx hb dX6_add_20 rfl (lv_at hl 0 rfl) ?_
  refine fg_902 C w hk0 tw_1_237 dX6_add_21 ?_
  refine lv_icmp_ge (tgt := 77) hx hb dX6_add_24 (by decide) (fun c7 => ?_) (fun c7 => ?_)
  · have hJ := it_pos c7 hJ
    exact sb_X6_add_77 C hz2 N t0 _ _ _ _ _ hJ hk0 w (lv_sub (l' := [(0, .ref t0), (3, .int x3), (4, .int x4), (5, .int x5), (6, .int x6)]) hl [0, 2, 3, 4, 5] rfl)
  · have hJ := it_neg c7 hJ
    refine lv_aload_n hx hb dX6_add_27 rfl (lv_at hl 0 rfl) ?_
    refine fg_900 C w hk0 tw_1_233 dX6_add_28 ?_
    refine lv_iload hx hb dX6_add_31 (lv_at hl 3 rfl) ?_
    obtain ⟨a8, ea8, hka8, hJ⟩ := dr_some hJ
    rw [ea8]
    obtain ⟨hi9, hJ⟩ := ck_some hJ
    refine jr_iald C w hka8 hi9 dX6_add_33 ?_
    refine lv_i2l hx hb dX6_add_34 rfl ?_
    refine lv_iload_n hx hb dX6_add_35 rfl (lv_at hl 1 rfl) ?_
    refine lv_i2l hx hb dX6_add_36 rfl ?_
    refine lv_lconst (v := (1 : Int64)) hx hb dX6_add_37 (by decide) ?_
    refine lv_ladd hx hb dX6_add_38 ?_
    refine W.lcmp hx hb dX6_add_39 ?_
    refine lv_if_gt (tgt := 77) hx hb dX6_add_40 (by decide) (fun c10 => ?_) (fun c10 => ?_)
    · have hJ := it_pos c10 hJ
      exact sb_X6_add_77 C hz2 N t0 _ _ _ _ _ hJ hk0 w (lv_sub (l' := [(0, .ref t0), (3, .int x3), (4, .int x4), (5, .int x5), (6, .int x6)]) hl [0, 2, 3, 4, 5] rfl)
    · have hJ := it_neg c10 hJ
      refine lv_iload hx hb dX6_add_43 (lv_at hl 4 rfl) ?_
      refine lv_aload_n hx hb dX6_add_45 rfl (lv_at hl 0 rfl) ?_
      refine fg_900 C w hk0 tw_1_233 dX6_add_46 ?_
      refine lv_iload hx hb dX6_add_49 (lv_at hl 3 rfl) ?_
      obtain ⟨a11, ea11, hka11, hJ⟩ := dr_some hJ
      rw [ea11]
      obtain ⟨hi12, hJ⟩ := ck_some hJ
      refine jr_iald C w hka11 hi12 dX6_add_51 ?_
      refine va_mmin hx hb (hml.trans hl.1.symm) hown (hts _ tw_5_217) (hts _ tw_2_143) (hts _ tw_1_14) (hts _ tw_min) (Nat.le_of_ble_eq_true rfl) (by first | exact Nat.le_of_ble_eq_true rfl | simp [rf_cat, cat_i, cat_l, cat_r]) (rm_now w (mb_X6_add_55 N k18 t0 _ _ _ _ _ _ m18 hJ) hz2).1 (rm_now w (mb_X6_add_55 N k18 t0 _ _ _ _ _ _ m18 hJ) hz2).2 dX6_add_52 ?_
      exact sb_X6_add_55 C hz2 N k18 t0 m18 i18 _ _ _ _ _ _ hJ hk0 w (lv_sub (l' := [(0, .ref t0), (2, .int x2), (3, .int x3), (4, .int x4), (6, .int x6)]) hl [0, 1, 2, 3, 5] rfl)
def L_X6_add_18 (N : Nat) (t0 : Nat) : Nat → Hp → Int32 → Int32 → Int32 → Int32 → Int32 → Option (Hp × Unit)
  | 0 => fun _ _ _ _ _ _ => none
  | n + 1 => fun h x2 x3 x4 x5 x6 => B_X6_add_18 N (L_X6_add_18 N t0 n) t0 h x2 x3 x4 x5 x6
theorem ml_X6_add_18 (N : Nat) (t0 : Nat) : ∀ (n : Nat) (h : Hp) (x2 : Int32) (x3 : Int32) (x4 : Int32) (x5 : Int32) (x6 : Int32), L_X6_add_18 N t0 n h x2 x3 x4 x5 x6 = some (hz, ()) → Mo h hz := by
  intro n
  induction n with
  | zero => intro h x2 x3 x4 x5 x6 hJ; cases hJ
  | succ n ih => intro h x2 x3 x4 x5 x6 hJ; exact mb_X6_add_18 N (L_X6_add_18 N t0 n) t0 h x2 x3 x4 x5 x6 ih hJ
theorem sl_X6_add_18 (C : Cx p s m args meth c cX6_add 7 none RX6 D cs A h0.se) (hz2 : hz.nx ≤ h0.nx + mc ∧ hz.su ≤ h0.su + ms) (N : Nat) (t0 : Nat) : ∀ n : Nat, ∀ (h : Hp) (x2 : Int32) (x3 : Int32) (x4 : Int32) (x5 : Int32) (x6 : Int32) (H : Heap) (locs : List Loc) (cells slots : Nat) (ls : Array Slot), L_X6_add_18 N t0 n h x2 x3 x4 x5 x6 = some (hz, ()) → h.kd t0 = 9 → Wo D cs A s h0 h H locs cells slots → lv_has ls 7 [(0, .ref t0), (2, .int x2), (3, .int x3), (4, .int x4), (5, .int x5), (6, .int x6)] → W p l e { frames := 3, cells := mc, slots := ms, locals := 120 } s m args below meth c H locs cells slots (MQ below (Zv D cs A hz) args s mc ms A) (F0 m 18 ls []) := by
  intro n
  induction n with
  | zero => intro h x2 x3 x4 x5 x6 H locs cells slots ls hJ; cases hJ
  | succ n ih =>
    intro h x2 x3 x4 x5 x6 H locs cells slots ls hJ hk0 w hl
    exact sb_X6_add_18 C hz2 N (L_X6_add_18 N t0 n) t0 (ml_X6_add_18 N t0 n) ih h x2 x3 x4 x5 x6 hJ hk0 w hl
def B_X6_add_8 (N : Nat) (t0 : Nat) (h : Hp) (x1 : Int32) (x2 : Int32) (y0 : Int32) : Option (Hp × Unit) := L_X6_add_18 N t0 N h x2 y0 y0 x1 x2
theorem mb_X6_add_8 (N : Nat) (t0 : Nat) (h : Hp) (x1 : Int32) (x2 : Int32) (y0 : Int32) (hJ : B_X6_add_8 N t0 h x1 x2 y0 = some (hz, ())) : Mo h hz := by
  unfold B_X6_add_8 at hJ
  exact ml_X6_add_18 N t0 N _ _ _ _ _ _ hJ
set_option maxRecDepth 100000 in
set_option maxHeartbeats 4000000 in
theorem sb_X6_add_8 (C : Cx p s m args meth c cX6_add 7 none RX6 D cs A h0.se) (hz2 : hz.nx ≤ h0.nx + mc ∧ hz.su ≤ h0.su + ms) (N : Nat) (t0 : Nat) (h : Hp) (x1 : Int32) (x2 : Int32) (y0 : Int32) (hJ : B_X6_add_8 N t0 h x1 x2 y0 = some (hz, ())) (hk0 : h.kd t0 = 9) {H : Heap} {locs : List Loc} {cells slots : Nat} (w : Wo D cs A s h0 h H locs cells slots) {ls : Array Slot} (hl : lv_has ls 7 [(0, .ref t0), (1, .int x1), (2, .int x2)]) : W p l e { frames := 3, cells := mc, slots := ms, locals := 120 } s m args below meth c H locs cells slots (MQ below (Zv D cs A hz) args s mc ms A) (F0 m 8 ls [.int y0]) := by
  obtain ⟨hx, hb, hml, hown, hts, -⟩ := id C
  unfold B_X6_add_8 at hJ
  refine lv_istore_n (i := 3) (lv' := [(3, .int y0), (0, .ref t0), (1, .int x1), (2, .int x2)]) hx hb dX6_add_8 rfl hl (by decide) rfl (fun ls hl => ?_)
  refine lv_iload_n hx hb dX6_add_9 rfl (lv_at hl 0 rfl) ?_
  refine lv_istore (i := 4) (lv' := [(4, .int y0), (3, .int y0), (0, .ref t0), (1, .int x1), (2, .int x2)]) hx hb dX6_add_10 hl (by decide) rfl (fun ls hl => ?_)
  refine lv_iload_n hx hb dX6_add_12 rfl (lv_at hl 3 rfl) ?_
  refine lv_istore (i := 5) (lv' := [(5, .int x1), (4, .int y0), (3, .int y0), (0, .ref t0), (1, .int x1), (2, .int x2)]) hx hb dX6_add_13 hl (by decide) rfl (fun ls hl => ?_)
  refine lv_iload_n hx hb dX6_add_15 rfl (lv_at hl 5 rfl) ?_
  refine lv_istore (i := 6) (lv' := [(6, .int x2), (5, .int x1), (4, .int y0), (3, .int y0), (0, .ref t0), (1, .int x1), (2, .int x2)]) hx hb dX6_add_16 hl (by decide) rfl (fun ls hl => ?_)
  exact sl_X6_add_18 C hz2 N t0 N _ _ _ _ _ _ _ _ _ _ _ hJ hk0 w (lv_sub (l' := [(0, .ref t0), (2, .int x2), (3, .int y0), (4, .int y0), (5, .int x1), (6, .int x2)]) hl [4, 6, 3, 2, 1, 0] rfl)
def B_X6_add_0 (N : Nat) (t0 : Nat) (h : Hp) (x1 : Int32) (x2 : Int32) : Option (Hp × Unit) := (J_X6_indexReaching N t0 h (x1.toInt64 - (1 : Int64))).bind (fun z => B_X6_add_8 N t0 z.1 x1 x2 z.2)
theorem mb_X6_add_0 (N : Nat) (t0 : Nat) (h : Hp) (x1 : Int32) (x2 : Int32) (hJ : B_X6_add_0 N t0 h x1 x2 = some (hz, ())) : Mo h hz := by
  unfold B_X6_add_0 at hJ
  obtain ⟨⟨h13, r14⟩, e15, hJ⟩ := ob_some hJ
  exact (mo_X6_indexReaching N t0 h (x1.toInt64 - (1 : Int64)) e15).tr (mb_X6_add_8 N t0 _ _ _ _ hJ)
set_option maxRecDepth 100000 in
set_option maxHeartbeats 4000000 in
theorem sb_X6_add_0 (C : Cx p s m args meth c cX6_add 7 none RX6 D cs A h0.se) (hz2 : hz.nx ≤ h0.nx + mc ∧ hz.su ≤ h0.su + ms) (N : Nat) (t0 : Nat) (h : Hp) (x1 : Int32) (x2 : Int32) (hJ : B_X6_add_0 N t0 h x1 x2 = some (hz, ())) (hk0 : h.kd t0 = 9) {H : Heap} {locs : List Loc} {cells slots : Nat} (w : Wo D cs A s h0 h H locs cells slots) {ls : Array Slot} (hl : lv_has ls 7 [(0, .ref t0), (1, .int x1), (2, .int x2)]) : W p l e { frames := 3, cells := mc, slots := ms, locals := 120 } s m args below meth c H locs cells slots (MQ below (Zv D cs A hz) args s mc ms A) (F0 m 0 ls []) := by
  obtain ⟨hx, hb, hml, hown, hts, -⟩ := id C
  unfold B_X6_add_0 at hJ
  refine lv_aload_n hx hb dX6_add_0 rfl (lv_at hl 0 rfl) ?_
  refine lv_iload_n hx hb dX6_add_1 rfl (lv_at hl 1 rfl) ?_
  refine lv_i2l hx hb dX6_add_2 rfl ?_
  refine lv_lconst (v := (1 : Int64)) hx hb dX6_add_3 (by decide) ?_
  refine lv_lsub hx hb dX6_add_4 ?_
  obtain ⟨⟨h13, r14⟩, e15, hJ⟩ := ob_some hJ
  refine jc_Vi (As := [.long (x1.toInt64 - (1 : Int64))]) C w (cc_X6_indexReaching N t0 h (x1.toInt64 - (1 : Int64)) hk0 e15) (mo_X6_indexReaching N t0 h (x1.toInt64 - (1 : Int64)) e15) (mb_X6_add_8 N t0 _ _ _ _ hJ) hz2 hk0 (by decide) rfl (fs := fs9 h t0) rfl rfl ⟨tw_5_216, tw_5_213, tw_5_214, tw_5_215, tw_1_10⟩ cd_X6_indexReaching ⟨by decide, by decide⟩ hl.1 (by first | exact Nat.le_of_ble_eq_true rfl | simp [rf_cat, cat_i, cat_l, cat_r]) rfl dX6_add_5 (fun H locs w1 => ?_)
  have hk16 := kd_keep w (mo_X6_indexReaching N t0 h (x1.toInt64 - (1 : Int64)) e15) hk0 (by decide)
  have w := w1
  exact sb_X6_add_8 C hz2 N t0 _ _ _ _ hJ hk16 w hl
def J_X6_add (N : Nat) (t0 : Nat) (h : Hp) (x1 : Int32) (x2 : Int32) : Option (Hp × Unit) := B_X6_add_0 N t0 h x1 x2
theorem mo_X6_add (N : Nat) (t0 : Nat) (h : Hp) (x1 : Int32) (x2 : Int32) (hJ : J_X6_add N t0 h x1 x2 = some (hz, ())) : Mo h hz := mb_X6_add_0 N t0 h x1 x2 hJ
theorem cd_X6_add : Cd yX6_add 2 := ⟨by decide +kernel, by decide +kernel, by decide +kernel⟩
theorem cc_X6_add (N : Nat) (t0 : Nat) (h : Hp) (x1 : Int32) (x2 : Int32) (hk0 : h.kd t0 = 9) (hJ : J_X6_add N t0 h x1 x2 = some (hz, ())) : Cv l yX6_add cX6_add 7 none 3 120 D cs h hz [.ref t0, .int x1, .int x2] := by
  intro mc ms g1 g2
  refine je_any (by decide) (by simp [lg_sl, rf_cat, cat_i, cat_l, cat_r]) ?_
  intro p e s m args below meth c C hin2 w ls hl
  have hl : lv_has ls 7 [(0, .ref t0), (1, .int x1), (2, .int x2)] := hl
  exact sb_X6_add_0 C ⟨g1, g2⟩ N t0 h x1 x2 hJ hk0 w hl
end G_X6_add
section G_X6_contains
variable {p : Program} {l : Launch} {e : Env} {s : State} {m : MethodId} {args : Array Value} {below : List Frame} {meth : Method} {c : Code} {D : va_G} {cs : C4} {A : Nat → Prop} {h0 hz : Hp} {mc ms : Nat} {rz : Int32}
def B_X6_contains_30 (N : Nat) (t0 : Nat) (h : Hp) (y0 : Int32) : Option (Hp × Int32) := ck (y0 = 0 ∨ y0 = 1) (some (h, y0))
theorem mb_X6_contains_30 (N : Nat) (t0 : Nat) (h : Hp) (y0 : Int32) (hJ : B_X6_contains_30 N t0 h y0 = some (hz, rz)) : Mo h hz := by
  unfold B_X6_contains_30 at hJ
  obtain ⟨-, hJ⟩ := ck_some hJ
  obtain ⟨rfl, -⟩ := rs2 hJ
  exact ⟨fun _ _ => rfl, Nat.le_refl _, Nat.le_refl _, rfl, fun _ _ => rfl⟩
set_option maxRecDepth 100000 in
set_option maxHeartbeats 4000000 in
theorem sb_X6_contains_30 (C : Cx p s m args meth c cX6_contains 3 (some .boolean) RX6 D cs A h0.se) (hz2 : hz.nx ≤ h0.nx + mc ∧ hz.su ≤ h0.su + ms) (N : Nat) (t0 : Nat) (h : Hp) (y0 : Int32) (hJ : B_X6_contains_30 N t0 h y0 = some (hz, rz)) (hk0 : h.kd t0 = 9) {H : Heap} {locs : List Loc} {cells slots : Nat} (w : Wo D cs A s h0 h H locs cells slots) {ls : Array Slot} (hl : lv_has ls 3 [(0, .ref t0)]) : W p l e { frames := 1, cells := mc, slots := ms, locals := 30 } s m args below meth c H locs cells slots (MQ below (Zi D cs A hz rz) args s mc ms A) (F0 m 30 ls [.int y0]) := by
  obtain ⟨hx, hb, hml, hown, hts, -⟩ := id C
  unfold B_X6_contains_30 at hJ
  obtain ⟨hzo1, hJ⟩ := ck_some hJ
  obtain ⟨rfl, rfl⟩ := rs2 hJ
  exact jr_zret C w hzo1 hz2 dX6_contains_30
def B_X6_contains_29 (N : Nat) (t0 : Nat) (h : Hp) : Option (Hp × Int32) := B_X6_contains_30 N t0 h (0 : Int32)
theorem mb_X6_contains_29 (N : Nat) (t0 : Nat) (h : Hp) (hJ : B_X6_contains_29 N t0 h = some (hz, rz)) : Mo h hz := by
  unfold B_X6_contains_29 at hJ
  exact mb_X6_contains_30 N t0 _ _ hJ
set_option maxRecDepth 100000 in
set_option maxHeartbeats 4000000 in
theorem sb_X6_contains_29 (C : Cx p s m args meth c cX6_contains 3 (some .boolean) RX6 D cs A h0.se) (hz2 : hz.nx ≤ h0.nx + mc ∧ hz.su ≤ h0.su + ms) (N : Nat) (t0 : Nat) (h : Hp) (hJ : B_X6_contains_29 N t0 h = some (hz, rz)) (hk0 : h.kd t0 = 9) {H : Heap} {locs : List Loc} {cells slots : Nat} (w : Wo D cs A s h0 h H locs cells slots) {ls : Array Slot} (hl : lv_has ls 3 [(0, .ref t0)]) : W p l e { frames := 1, cells := mc, slots := ms, locals := 30 } s m args below meth c H locs cells slots (MQ below (Zi D cs A hz rz) args s mc ms A) (F0 m 29 ls []) := by
  obtain ⟨hx, hb, hml, hown, hts, -⟩ := id C
  unfold B_X6_contains_29 at hJ
  refine lv_iconst (v := (0 : Int32)) hx hb dX6_contains_29 (by decide) ?_
  exact sb_X6_contains_30 C hz2 N t0 _ _ hJ hk0 w hl
def B_X6_contains_6 (N : Nat) (t0 : Nat) (h : Hp) (x1 : Int32) (y0 : Int32) : Option (Hp × Int32) := if (h.fi 902 t0) ≤ y0 then (B_X6_contains_29 N t0 h) else (dr h 20 (h.fr 900 t0) (fun a3 => ck (¬ (y0 < 0 ∨ h.al a3 ≤ y0.toNatClampNeg)) (if x1 < (h.ai a3 y0.toNatClampNeg) then (B_X6_contains_29 N t0 h) else (B_X6_contains_30 N t0 h (1 : Int32)))))
theorem mb_X6_contains_6 (N : Nat) (t0 : Nat) (h : Hp) (x1 : Int32) (y0 : Int32) (hJ : B_X6_contains_6 N t0 h x1 y0 = some (hz, rz)) : Mo h hz := by
  unfold B_X6_contains_6 at hJ
  by_cases c2 : (h.fi 902 t0) ≤ y0
  · have hJ := it_pos c2 hJ
    exact mb_X6_contains_29 N t0 _ hJ
  · have hJ := it_neg c2 hJ
    obtain ⟨a3, ea3, -, hJ⟩ := dr_some hJ
    obtain ⟨-, hJ⟩ := ck_some hJ
    by_cases c5 : x1 < (h.ai a3 y0.toNatClampNeg)
    · have hJ := it_pos c5 hJ
      exact mb_X6_contains_29 N t0 _ hJ
    · have hJ := it_neg c5 hJ
      exact mb_X6_contains_30 N t0 _ _ hJ
set_option maxRecDepth 100000 in
set_option maxHeartbeats 4000000 in
theorem sb_X6_contains_6 (C : Cx p s m args meth c cX6_contains 3 (some .boolean) RX6 D cs A h0.se) (hz2 : hz.nx ≤ h0.nx + mc ∧ hz.su ≤ h0.su + ms) (N : Nat) (t0 : Nat) (h : Hp) (x1 : Int32) (y0 : Int32) (hJ : B_X6_contains_6 N t0 h x1 y0 = some (hz, rz)) (hk0 : h.kd t0 = 9) {H : Heap} {locs : List Loc} {cells slots : Nat} (w : Wo D cs A s h0 h H locs cells slots) {ls : Array Slot} (hl : lv_has ls 3 [(0, .ref t0), (1, .int x1)]) : W p l e { frames := 1, cells := mc, slots := ms, locals := 30 } s m args below meth c H locs cells slots (MQ below (Zi D cs A hz rz) args s mc ms A) (F0 m 6 ls [.int y0]) := by
  obtain ⟨hx, hb, hml, hown, hts, -⟩ := id C
  unfold B_X6_contains_6 at hJ
  refine lv_istore_n (i := 2) (lv' := [(2, .int y0), (0, .ref t0), (1, .int x1)]) hx hb dX6_contains_6 rfl hl (by decide) rfl (fun ls hl => ?_)
  refine lv_iload_n hx hb dX6_contains_7 rfl (lv_at hl 0 rfl) ?_
  refine lv_aload_n hx hb dX6_contains_8 rfl (lv_at hl 1 rfl) ?_
  refine fg_902 C w hk0 tw_1_237 dX6_contains_9 ?_
  refine lv_icmp_ge (tgt := 29) hx hb dX6_contains_12 (by decide) (fun c2 => ?_) (fun c2 => ?_)
  · have hJ := it_pos c2 hJ
    exact sb_X6_contains_29 C hz2 N t0 _ hJ hk0 w (lv_sub (l' := [(0, .ref t0)]) hl [1] rfl)
  · have hJ := it_neg c2 hJ
    refine lv_aload_n hx hb dX6_contains_15 rfl (lv_at hl 1 rfl) ?_
    refine fg_900 C w hk0 tw_1_233 dX6_contains_16 ?_
    refine lv_iload_n hx hb dX6_contains_19 rfl (lv_at hl 0 rfl) ?_
    obtain ⟨a3, ea3, hka3, hJ⟩ := dr_some hJ
    rw [ea3]
    obtain ⟨hi4, hJ⟩ := ck_some hJ
    refine jr_iald C w hka3 hi4 dX6_contains_20 ?_
    refine lv_iload_n hx hb dX6_contains_21 rfl (lv_at hl 2 rfl) ?_
    refine lv_icmp_gt (tgt := 29) hx hb dX6_contains_22 (by decide) (fun c5 => ?_) (fun c5 => ?_)
    · have hJ := it_pos c5 hJ
      exact sb_X6_contains_29 C hz2 N t0 _ hJ hk0 w (lv_sub (l' := [(0, .ref t0)]) hl [1] rfl)
    · have hJ := it_neg c5 hJ
      refine lv_iconst (v := (1 : Int32)) hx hb dX6_contains_25 (by decide) ?_
      refine lv_goto (tgt := 30) hx hb dX6_contains_26 (by decide) ?_
      exact sb_X6_contains_30 C hz2 N t0 _ _ hJ hk0 w (lv_sub (l' := [(0, .ref t0)]) hl [1] rfl)
def B_X6_contains_0 (N : Nat) (t0 : Nat) (h : Hp) (x1 : Int32) : Option (Hp × Int32) := (J_X6_indexReaching N t0 h x1.toInt64).bind (fun z => B_X6_contains_6 N t0 z.1 x1 z.2)
theorem mb_X6_contains_0 (N : Nat) (t0 : Nat) (h : Hp) (x1 : Int32) (hJ : B_X6_contains_0 N t0 h x1 = some (hz, rz)) : Mo h hz := by
  unfold B_X6_contains_0 at hJ
  obtain ⟨⟨h6, r7⟩, e8, hJ⟩ := ob_some hJ
  exact (mo_X6_indexReaching N t0 h x1.toInt64 e8).tr (mb_X6_contains_6 N t0 _ _ _ hJ)
set_option maxRecDepth 100000 in
set_option maxHeartbeats 4000000 in
theorem sb_X6_contains_0 (C : Cx p s m args meth c cX6_contains 3 (some .boolean) RX6 D cs A h0.se) (hz2 : hz.nx ≤ h0.nx + mc ∧ hz.su ≤ h0.su + ms) (N : Nat) (t0 : Nat) (h : Hp) (x1 : Int32) (hJ : B_X6_contains_0 N t0 h x1 = some (hz, rz)) (hk0 : h.kd t0 = 9) {H : Heap} {locs : List Loc} {cells slots : Nat} (w : Wo D cs A s h0 h H locs cells slots) {ls : Array Slot} (hl : lv_has ls 3 [(0, .ref t0), (1, .int x1)]) : W p l e { frames := 1, cells := mc, slots := ms, locals := 30 } s m args below meth c H locs cells slots (MQ below (Zi D cs A hz rz) args s mc ms A) (F0 m 0 ls []) := by
  obtain ⟨hx, hb, hml, hown, hts, -⟩ := id C
  unfold B_X6_contains_0 at hJ
  refine lv_aload_n hx hb dX6_contains_0 rfl (lv_at hl 0 rfl) ?_
  refine lv_iload_n hx hb dX6_contains_1 rfl (lv_at hl 1 rfl) ?_
  refine lv_i2l hx hb dX6_contains_2 rfl ?_
  obtain ⟨⟨h6, r7⟩, e8, hJ⟩ := ob_some hJ
  refine jc_Vi (As := [.long x1.toInt64]) C w (cc_X6_indexReaching N t0 h x1.toInt64 hk0 e8) (mo_X6_indexReaching N t0 h x1.toInt64 e8) (mb_X6_contains_6 N t0 _ _ _ hJ) hz2 hk0 (by decide) rfl (fs := fs9 h t0) rfl rfl ⟨tw_5_216, tw_5_213, tw_5_214, tw_5_215, tw_1_10⟩ cd_X6_indexReaching ⟨by decide, by decide⟩ hl.1 (by first | exact Nat.le_of_ble_eq_true rfl | simp [rf_cat, cat_i, cat_l, cat_r]) rfl dX6_contains_3 (fun H locs w1 => ?_)
  have hk9 := kd_keep w (mo_X6_indexReaching N t0 h x1.toInt64 e8) hk0 (by decide)
  have w := w1
  exact sb_X6_contains_6 C hz2 N t0 _ _ _ hJ hk9 w hl
def J_X6_contains (N : Nat) (t0 : Nat) (h : Hp) (x1 : Int32) : Option (Hp × Int32) := B_X6_contains_0 N t0 h x1
theorem mo_X6_contains (N : Nat) (t0 : Nat) (h : Hp) (x1 : Int32) (hJ : J_X6_contains N t0 h x1 = some (hz, rz)) : Mo h hz := mb_X6_contains_0 N t0 h x1 hJ
theorem cd_X6_contains : Cd yX6_contains 1 := ⟨by decide +kernel, by decide +kernel, by decide +kernel⟩
theorem cc_X6_contains (N : Nat) (t0 : Nat) (h : Hp) (x1 : Int32) (hk0 : h.kd t0 = 9) (hJ : J_X6_contains N t0 h x1 = some (hz, rz)) : Ci l yX6_contains cX6_contains 3 (some .boolean) 1 30 D cs h hz [.ref t0, .int x1] rz := by
  intro mc ms g1 g2
  refine je_any (by decide) (by simp [lg_sl, rf_cat, cat_i, cat_l, cat_r]) ?_
  intro p e s m args below meth c C hin2 w ls hl
  have hl : lv_has ls 3 [(0, .ref t0), (1, .int x1)] := hl
  exact sb_X6_contains_0 C ⟨g1, g2⟩ N t0 h x1 hJ hk0 w hl
end G_X6_contains
