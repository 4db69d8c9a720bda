section G_X9_init
variable {p : Program} {l : Launch} {e : Env} {s : State} {m : MethodId} {args : Array Value} {below : List Frame} {meth : Method} {c : Code} {D : va_G} {cs : C4} {A : Nat → Prop} {h0 hz : Hp} {mc ms : Nat}
def B_X9_init_102 (N : Nat) (t0 : Nat) (h : Hp) : Option (Hp × Unit) := some (((h.sfr 1211 t0 none).sfi 1212 t0 (0 : Int32)).sfi 1213 t0 (0 : Int32), ())
theorem mb_X9_init_102 (N : Nat) (t0 : Nat) (h : Hp) (hJ : B_X9_init_102 N t0 h = some (hz, ())) : Mo h hz := by
  unfold B_X9_init_102 at hJ
  obtain ⟨rfl, -⟩ := rs2 hJ
  exact ⟨fun _ _ => rfl, Nat.le_refl _, Nat.le_refl _, rfl, fun _ _ => rfl⟩
set_option maxRecDepth 100000 in
set_option maxHeartbeats 4000000 in
theorem sb_X9_init_102 (C : Cx p s m args meth c cX9_init 1 none RX9 D cs A h0.se) (hin2 : meth.name = "<init>") (hz2 : hz.nx ≤ h0.nx + mc ∧ hz.su ≤ h0.su + ms) (N : Nat) (t0 : Nat) (h : Hp) (hJ : B_X9_init_102 N t0 h = some (hz, ())) (hk0 : h.kd t0 = 12) {H : Heap} {locs : List Loc} {cells slots : Nat} (w : Wo D cs A s h0 h H locs cells slots) {ls : Array Slot} (hl : lv_has ls 1 [(0, .ref t0)]) : W p l e { frames := 5, cells := mc, slots := ms, locals := 120 } s m args below meth c H locs cells slots (MQ below (Zv D cs A hz) args s mc ms A) (F0 m 102 ls []) := by
  obtain ⟨hx, hb, hml, hown, hts, -⟩ := id C
  unfold B_X9_init_102 at hJ
  refine lv_aload_n hx hb dX9_init_102 rfl (lv_at hl 0 rfl) ?_
  refine lv_null hx hb dX9_init_103 ?_
  change W _ _ _ _ _ _ _ _ _ _ _ _ _ _ _ (F0 m 104 ls [va_rf none, .ref t0])
  refine fp_1211 (x := none) C w hk0 tw_1_143 dX9_init_104 (fun H locs w => ?_)
  refine lv_aload_n hx hb dX9_init_107 rfl (lv_at hl 0 rfl) ?_
  refine lv_iconst (v := (0 : Int32)) hx hb dX9_init_108 (by decide) ?_
  refine fp_1212 (x := (0 : Int32)) C w hk0 tw_1_144 dX9_init_109 (fun H locs w => ?_)
  refine lv_aload_n hx hb dX9_init_112 rfl (lv_at hl 0 rfl) ?_
  refine lv_iconst (v := (0 : Int32)) hx hb dX9_init_113 (by decide) ?_
  refine fp_1213 (x := (0 : Int32)) C w hk0 tw_1_145 dX9_init_114 (fun H locs w => ?_)
  obtain ⟨rfl, -⟩ := rs2 hJ
  exact jr_vret C w hz2 dX9_init_117
def B_X9_init_84 (N : Nat) (t0 : Nat) (h : Hp) (y0 : Option Nat) (y1 : Option Nat) : Option (Hp × Unit) := dr h 12 y0 (fun a1 => B_X9_init_102 N t0 ((((h.sfr 1207 a1 y1).sfi 1208 t0 (0 : Int32)).sfi 1209 t0 (0 : Int32)).sfl 1210 t0 (0 : Int64)))
theorem mb_X9_init_84 (N : Nat) (t0 : Nat) (h : Hp) (y0 : Option Nat) (y1 : Option Nat) (hJ : B_X9_init_84 N t0 h y0 y1 = some (hz, ())) : Mo h hz := by
  unfold B_X9_init_84 at hJ
  obtain ⟨a1, ea1, -, hJ⟩ := dr_some hJ
  exact (Mo.tr (show Mo h ((((h.sfr 1207 a1 y1).sfi 1208 t0 (0 : Int32)).sfi 1209 t0 (0 : Int32)).sfl 1210 t0 (0 : Int64)) from ⟨fun _ _ => rfl, Nat.le_refl _, Nat.le_refl _, rfl, fun _ _ => rfl⟩) (mb_X9_init_102 N t0 _ hJ))
set_option maxRecDepth 100000 in
set_option maxHeartbeats 4000000 in
theorem sb_X9_init_84 (C : Cx p s m args meth c cX9_init 1 none RX9 D cs A h0.se) (hin2 : meth.name = "<init>") (hz2 : hz.nx ≤ h0.nx + mc ∧ hz.su ≤ h0.su + ms) (N : Nat) (t0 : Nat) (h : Hp) (y0 : Option Nat) (y1 : Option Nat) (hJ : B_X9_init_84 N t0 h y0 y1 = some (hz, ())) (hk0 : h.kd t0 = 12) {H : Heap} {locs : List Loc} {cells slots : Nat} (w : Wo D cs A s h0 h H locs cells slots) {ls : Array Slot} (hl : lv_has ls 1 [(0, .ref t0)]) : W p l e { frames := 5, cells := mc, slots := ms, locals := 120 } s m args below meth c H locs cells slots (MQ below (Zv D cs A hz) args s mc ms A) (F0 m 84 ls [va_rf y1, va_rf y0]) := by
  obtain ⟨hx, hb, hml, hown, hts, -⟩ := id C
  unfold B_X9_init_84 at hJ
  obtain ⟨a1, ea1, hka1, hJ⟩ := dr_some hJ
  rw [ea1]
  refine fp_1207 (x := y1) C hin2 w hka1 tw_1_139 dX9_init_84 (fun H locs w => ?_)
  refine lv_aload_n hx hb dX9_init_87 rfl (lv_at hl 0 rfl) ?_
  refine lv_iconst (v := (0 : Int32)) hx hb dX9_init_88 (by decide) ?_
  refine fp_1208 (x := (0 : Int32)) C w hk0 tw_1_140 dX9_init_89 (fun H locs w => ?_)
  refine lv_aload_n hx hb dX9_init_92 rfl (lv_at hl 0 rfl) ?_
  refine lv_iconst (v := (0 : Int32)) hx hb dX9_init_93 (by decide) ?_
  refine fp_1209 (x := (0 : Int32)) C w hk0 tw_1_141 dX9_init_94 (fun H locs w => ?_)
  refine lv_aload_n hx hb dX9_init_97 rfl (lv_at hl 0 rfl) ?_
  refine lv_lconst (v := (0 : Int64)) hx hb dX9_init_98 (by decide) ?_
  refine fp_1210 (x := (0 : Int64)) C w hk0 tw_1_142 dX9_init_99 (fun H locs w => ?_)
  exact sb_X9_init_102 C hin2 hz2 N t0 _ hJ hk0 w hl
def B_X9_init_80 (N : Nat) (t0 : Nat) (h : Hp) (y0 : Option Nat) (y1 : Option Nat) : Option (Hp × Unit) := dr h 2 y1 (fun a2 => (J_Jx4a65c_init_da8c8 N a2 h).bind (fun z => B_X9_init_84 N t0 z.1 y0 (some a2)))
theorem mb_X9_init_80 (N : Nat) (t0 : Nat) (h : Hp) (y0 : Option Nat) (y1 : Option Nat) (hJ : B_X9_init_80 N t0 h y0 y1 = some (hz, ())) : Mo h hz := by
  unfold B_X9_init_80 at hJ
  obtain ⟨a2, ea2, -, hJ⟩ := dr_some hJ
  obtain ⟨⟨h3, r4⟩, e5, hJ⟩ := ob_some hJ
  exact (mo_Jx4a65c_init_da8c8 N a2 h e5).tr (mb_X9_init_84 N t0 _ _ _ hJ)
set_option maxRecDepth 100000 in
set_option maxHeartbeats 4000000 in
theorem sb_X9_init_80 (C : Cx p s m args meth c cX9_init 1 none RX9 D cs A h0.se) (hin2 : meth.name = "<init>") (hz2 : hz.nx ≤ h0.nx + mc ∧ hz.su ≤ h0.su + ms) (N : Nat) (t0 : Nat) (h : Hp) (y0 : Option Nat) (y1 : Option Nat) (hJ : B_X9_init_80 N t0 h y0 y1 = some (hz, ())) (hk0 : h.kd t0 = 12) {H : Heap} {locs : List Loc} {cells slots : Nat} (w : Wo D cs A s h0 h H locs cells slots) {ls : Array Slot} (hl : lv_has ls 1 [(0, .ref t0)]) : W p l e { frames := 5, cells := mc, slots := ms, locals := 120 } s m args below meth c H locs cells slots (MQ below (Zv D cs A hz) args s mc ms A) (F0 m 80 ls [va_rf y1, va_rf y0]) := by
  obtain ⟨hx, hb, hml, hown, hts, -⟩ := id C
  unfold B_X9_init_80 at hJ
  refine lv_dup hx hb dX9_init_80 (rf_cat _) ?_
  obtain ⟨a2, ea2, hka2, hJ⟩ := dr_some hJ
  rw [ea2]
  obtain ⟨⟨h3, r4⟩, e5, hJ⟩ := ob_some hJ
  refine jc_I (As := []) C w (cc_Jx4a65c_init_da8c8 N a2 h hka2 e5) (mo_Jx4a65c_init_da8c8 N a2 h e5) (mb_X9_init_84 N t0 _ _ _ hJ) hz2 tw_1_53 tw_1_80 tw_1_52 tw_1_5 rfl cd_Jx4a65c_init_da8c8 ⟨by decide, by decide⟩ hl.1 (by first | exact Nat.le_of_ble_eq_true rfl | simp [rf_cat, cat_i, cat_l, cat_r]) rfl dX9_init_81 (fun H locs w1 => ?_)
  have hk6 := kd_keep w (mo_Jx4a65c_init_da8c8 N a2 h e5) hk0 (by decide)
  have w := w1
  exact sb_X9_init_84 C hin2 hz2 N t0 _ _ _ hJ hk6 w hl
def B_X9_init_73 (N : Nat) (t0 : Nat) (h : Hp) (y0 : Option Nat) (y1 : Option Nat) : Option (Hp × Unit) := dr h 12 y0 (fun a7 => B_X9_init_80 N t0 ((h.sfr 1206 a7 y1).new 2 0 3) (some t0) (some (h.sfr 1206 a7 y1).nx))
theorem mb_X9_init_73 (N : Nat) (t0 : Nat) (h : Hp) (y0 : Option Nat) (y1 : Option Nat) (hJ : B_X9_init_73 N t0 h y0 y1 = some (hz, ())) : Mo h hz := by
  unfold B_X9_init_73 at hJ
  obtain ⟨a7, ea7, -, hJ⟩ := dr_some hJ
  exact (Mo.tr (show Mo h (h.sfr 1206 a7 y1) from ⟨fun _ _ => rfl, Nat.le_refl _, Nat.le_refl _, rfl, fun _ _ => rfl⟩) ((Mo.new (h.sfr 1206 a7 y1) _ _ _).tr (mb_X9_init_80 N t0 _ _ _ hJ)))
set_option maxRecDepth 100000 in
set_option maxHeartbeats 4000000 in
theorem sb_X9_init_73 (C : Cx p s m args meth c cX9_init 1 none RX9 D cs A h0.se) (hin2 : meth.name = "<init>") (hz2 : hz.nx ≤ h0.nx + mc ∧ hz.su ≤ h0.su + ms) (N : Nat) (t0 : Nat) (h : Hp) (y0 : Option Nat) (y1 : Option Nat) (hJ : B_X9_init_73 N t0 h y0 y1 = some (hz, ())) (hk0 : h.kd t0 = 12) {H : Heap} {locs : List Loc} {cells slots : Nat} (w : Wo D cs A s h0 h H locs cells slots) {ls : Array Slot} (hl : lv_has ls 1 [(0, .ref t0)]) : W p l e { frames := 5, cells := mc, slots := ms, locals := 120 } s m args below meth c H locs cells slots (MQ below (Zv D cs A hz) args s mc ms A) (F0 m 73 ls [va_rf y1, va_rf y0]) := by
  obtain ⟨hx, hb, hml, hown, hts, -⟩ := id C
  unfold B_X9_init_73 at hJ
  obtain ⟨a7, ea7, hka7, hJ⟩ := dr_some hJ
  rw [ea7]
  refine fp_1206 (x := y1) C hin2 w hka7 tw_1_138 dX9_init_73 (fun H locs w => ?_)
  refine lv_aload_n hx hb dX9_init_76 rfl (lv_at hl 0 rfl) ?_
  have w0 := w
  refine fn_2 C w (mb_X9_init_80 N t0 _ _ _ hJ) hz2 tw_1_79 dX9_init_77 (fun H w => ?_)
  have hk8 := kd_new (k := 2) (n := 0) (sl := 3) w0 hk0 (by decide)
  exact sb_X9_init_80 C hin2 hz2 N t0 _ _ _ hJ hk8 w hl
def B_X9_init_67 (N : Nat) (t0 : Nat) (h : Hp) (y0 : Option Nat) (y1 : Option Nat) : Option (Hp × Unit) := dr h 3 y1 (fun a9 => (J_X0_init N a9 h (100 : Int32)).bind (fun z => B_X9_init_73 N t0 z.1 y0 (some a9)))
theorem mb_X9_init_67 (N : Nat) (t0 : Nat) (h : Hp) (y0 : Option Nat) (y1 : Option Nat) (hJ : B_X9_init_67 N t0 h y0 y1 = some (hz, ())) : Mo h hz := by
  unfold B_X9_init_67 at hJ
  obtain ⟨a9, ea9, -, hJ⟩ := dr_some hJ
  obtain ⟨⟨h10, r11⟩, e12, hJ⟩ := ob_some hJ
  exact (mo_X0_init N a9 h (100 : Int32) e12).tr (mb_X9_init_73 N t0 _ _ _ hJ)
set_option maxRecDepth 100000 in
set_option maxHeartbeats 4000000 in
theorem sb_X9_init_67 (C : Cx p s m args meth c cX9_init 1 none RX9 D cs A h0.se) (hin2 : meth.name = "<init>") (hz2 : hz.nx ≤ h0.nx + mc ∧ hz.su ≤ h0.su + ms) (N : Nat) (t0 : Nat) (h : Hp) (y0 : Option Nat) (y1 : Option Nat) (hJ : B_X9_init_67 N t0 h y0 y1 = some (hz, ())) (hk0 : h.kd t0 = 12) {H : Heap} {locs : List Loc} {cells slots : Nat} (w : Wo D cs A s h0 h H locs cells slots) {ls : Array Slot} (hl : lv_has ls 1 [(0, .ref t0)]) : W p l e { frames := 5, cells := mc, slots := ms, locals := 120 } s m args below meth c H locs cells slots (MQ below (Zv D cs A hz) args s mc ms A) (F0 m 67 ls [va_rf y1, va_rf y0]) := by
  obtain ⟨hx, hb, hml, hown, hts, -⟩ := id C
  unfold B_X9_init_67 at hJ
  refine lv_dup hx hb dX9_init_67 (rf_cat _) ?_
  refine lv_bipush (v := (100 : Int32)) hx hb dX9_init_68 (by decide) ?_
  obtain ⟨a9, ea9, hka9, hJ⟩ := dr_some hJ
  rw [ea9]
  obtain ⟨⟨h10, r11⟩, e12, hJ⟩ := ob_some hJ
  refine jc_I (As := [.int (100 : Int32)]) C w (cc_X0_init N a9 h (100 : Int32) hka9 e12) (mo_X0_init N a9 h (100 : Int32) e12) (mb_X9_init_73 N t0 _ _ _ hJ) hz2 tw_1_85 tw_1_83 tw_1_84 tw_1_6 rfl cd_X0_init ⟨by decide, by decide⟩ hl.1 (by first | exact Nat.le_of_ble_eq_true rfl | simp [rf_cat, cat_i, cat_l, cat_r]) rfl dX9_init_70 (fun H locs w1 => ?_)
  have hk13 := kd_keep w (mo_X0_init N a9 h (100 : Int32) e12) hk0 (by decide)
  have w := w1
  exact sb_X9_init_73 C hin2 hz2 N t0 _ _ _ hJ hk13 w hl
def B_X9_init_60 (N : Nat) (t0 : Nat) (h : Hp) (y0 : Option Nat) (y1 : Option Nat) : Option (Hp × Unit) := dr h 12 y0 (fun a14 => B_X9_init_67 N t0 ((h.sfr 1205 a14 y1).new 3 0 10) (some t0) (some (h.sfr 1205 a14 y1).nx))
theorem mb_X9_init_60 (N : Nat) (t0 : Nat) (h : Hp) (y0 : Option Nat) (y1 : Option Nat) (hJ : B_X9_init_60 N t0 h y0 y1 = some (hz, ())) : Mo h hz := by
  unfold B_X9_init_60 at hJ
  obtain ⟨a14, ea14, -, hJ⟩ := dr_some hJ
  exact (Mo.tr (show Mo h (h.sfr 1205 a14 y1) from ⟨fun _ _ => rfl, Nat.le_refl _, Nat.le_refl _, rfl, fun _ _ => rfl⟩) ((Mo.new (h.sfr 1205 a14 y1) _ _ _).tr (mb_X9_init_67 N t0 _ _ _ hJ)))
set_option maxRecDepth 100000 in
set_option maxHeartbeats 4000000 in
theorem sb_X9_init_60 (C : Cx p s m args meth c cX9_init 1 none RX9 D cs A h0.se) (hin2 : meth.name = "<init>") (hz2 : hz.nx ≤ h0.nx + mc ∧ hz.su ≤ h0.su + ms) (N : Nat) (t0 : Nat) (h : Hp) (y0 : Option Nat) (y1 : Option Nat) (hJ : B_X9_init_60 N t0 h y0 y1 = some (hz, ())) (hk0 : h.kd t0 = 12) {H : Heap} {locs : List Loc} {cells slots : Nat} (w : Wo D cs A s h0 h H locs cells slots) {ls : Array Slot} (hl : lv_has ls 1 [(0, .ref t0)]) : W p l e { frames := 5, cells := mc, slots := ms, locals := 120 } s m args below meth c H locs cells slots (MQ below (Zv D cs A hz) args s mc ms A) (F0 m 60 ls [va_rf y1, va_rf y0]) := by
  obtain ⟨hx, hb, hml, hown, hts, -⟩ := id C
  unfold B_X9_init_60 at hJ
  obtain ⟨a14, ea14, hka14, hJ⟩ := dr_some hJ
  rw [ea14]
  refine fp_1205 (x := y1) C hin2 w hka14 tw_1_137 dX9_init_60 (fun H locs w => ?_)
  refine lv_aload_n hx hb dX9_init_63 rfl (lv_at hl 0 rfl) ?_
  have w0 := w
  refine fn_3 C w (mb_X9_init_67 N t0 _ _ _ hJ) hz2 tw_1_81 dX9_init_64 (fun H w => ?_)
  have hk15 := kd_new (k := 3) (n := 0) (sl := 10) w0 hk0 (by decide)
  exact sb_X9_init_67 C hin2 hz2 N t0 _ _ _ hJ hk15 w hl
def B_X9_init_53 (N : Nat) (t0 : Nat) (h : Hp) (y0 : Option Nat) (y1 : Option Nat) : Option (Hp × Unit) := dr h 12 y0 (fun a16 => ck (¬ (4 : Int32) < 0 ∧ (4 : Int32).toNatClampNeg ≤ 67108864) (B_X9_init_60 N t0 ((h.sfr 1204 a16 y1).new 20 ((4 : Int32).toNatClampNeg) ((4 : Int32).toNatClampNeg)) (some t0) (some (h.sfr 1204 a16 y1).nx)))
theorem mb_X9_init_53 (N : Nat) (t0 : Nat) (h : Hp) (y0 : Option Nat) (y1 : Option Nat) (hJ : B_X9_init_53 N t0 h y0 y1 = some (hz, ())) : Mo h hz := by
  unfold B_X9_init_53 at hJ
  obtain ⟨a16, ea16, -, hJ⟩ := dr_some hJ
  obtain ⟨-, hJ⟩ := ck_some hJ
  exact (Mo.tr (show Mo h (h.sfr 1204 a16 y1) from ⟨fun _ _ => rfl, Nat.le_refl _, Nat.le_refl _, rfl, fun _ _ => rfl⟩) ((Mo.new (h.sfr 1204 a16 y1) _ _ _).tr (mb_X9_init_60 N t0 _ _ _ hJ)))
set_option maxRecDepth 100000 in
set_option maxHeartbeats 4000000 in
theorem sb_X9_init_53 (C : Cx p s m args meth c cX9_init 1 none RX9 D cs A h0.se) (hin2 : meth.name = "<init>") (hz2 : hz.nx ≤ h0.nx + mc ∧ hz.su ≤ h0.su + ms) (N : Nat) (t0 : Nat) (h : Hp) (y0 : Option Nat) (y1 : Option Nat) (hJ : B_X9_init_53 N t0 h y0 y1 = some (hz, ())) (hk0 : h.kd t0 = 12) {H : Heap} {locs : List Loc} {cells slots : Nat} (w : Wo D cs A s h0 h H locs cells slots) {ls : Array Slot} (hl : lv_has ls 1 [(0, .ref t0)]) : W p l e { frames := 5, cells := mc, slots := ms, locals := 120 } s m args below meth c H locs cells slots (MQ below (Zv D cs A hz) args s mc ms A) (F0 m 53 ls [va_rf y1, va_rf y0]) := by
  obtain ⟨hx, hb, hml, hown, hts, -⟩ := id C
  unfold B_X9_init_53 at hJ
  obtain ⟨a16, ea16, hka16, hJ⟩ := dr_some hJ
  rw [ea16]
  refine fp_1204 (x := y1) C hin2 w hka16 tw_1_136 dX9_init_53 (fun H locs w => ?_)
  refine lv_aload_n hx hb dX9_init_56 rfl (lv_at hl 0 rfl) ?_
  refine lv_iconst (v := (4 : Int32)) hx hb dX9_init_57 (by decide) ?_
  obtain ⟨hn17, hJ⟩ := ck_some hJ
  have w0 := w
  refine fa_20 C w hn17 (mb_X9_init_60 N t0 _ _ _ hJ) hz2 dX9_init_58 (fun H w => ?_)
  have hk18 := kd_new (k := 20) (n := (4 : Int32).toNatClampNeg) (sl := (4 : Int32).toNatClampNeg) w0 hk0 (by decide)
  exact sb_X9_init_60 C hin2 hz2 N t0 _ _ _ hJ hk18 w hl
def B_X9_init_45 (N : Nat) (t0 : Nat) (h : Hp) (y0 : Option Nat) (y1 : Option Nat) : Option (Hp × Unit) := dr h 12 y0 (fun a19 => ck (¬ (6 : Int32) < 0 ∧ (6 : Int32).toNatClampNeg ≤ 67108864) (B_X9_init_53 N t0 ((h.sfr 1203 a19 y1).new 20 ((6 : Int32).toNatClampNeg) ((6 : Int32).toNatClampNeg)) (some t0) (some (h.sfr 1203 a19 y1).nx)))
theorem mb_X9_init_45 (N : Nat) (t0 : Nat) (h : Hp) (y0 : Option Nat) (y1 : Option Nat) (hJ : B_X9_init_45 N t0 h y0 y1 = some (hz, ())) : Mo h hz := by
  unfold B_X9_init_45 at hJ
  obtain ⟨a19, ea19, -, hJ⟩ := dr_some hJ
  obtain ⟨-, hJ⟩ := ck_some hJ
  exact (Mo.tr (show Mo h (h.sfr 1203 a19 y1) from ⟨fun _ _ => rfl, Nat.le_refl _, Nat.le_refl _, rfl, fun _ _ => rfl⟩) ((Mo.new (h.sfr 1203 a19 y1) _ _ _).tr (mb_X9_init_53 N t0 _ _ _ hJ)))
set_option maxRecDepth 100000 in
set_option maxHeartbeats 4000000 in
theorem sb_X9_init_45 (C : Cx p s m args meth c cX9_init 1 none RX9 D cs A h0.se) (hin2 : meth.name = "<init>") (hz2 : hz.nx ≤ h0.nx + mc ∧ hz.su ≤ h0.su + ms) (N : Nat) (t0 : Nat) (h : Hp) (y0 : Option Nat) (y1 : Option Nat) (hJ : B_X9_init_45 N t0 h y0 y1 = some (hz, ())) (hk0 : h.kd t0 = 12) {H : Heap} {locs : List Loc} {cells slots : Nat} (w : Wo D cs A s h0 h H locs cells slots) {ls : Array Slot} (hl : lv_has ls 1 [(0, .ref t0)]) : W p l e { frames := 5, cells := mc, slots := ms, locals := 120 } s m args below meth c H locs cells slots (MQ below (Zv D cs A hz) args s mc ms A) (F0 m 45 ls [va_rf y1, va_rf y0]) := by
  obtain ⟨hx, hb, hml, hown, hts, -⟩ := id C
  unfold B_X9_init_45 at hJ
  obtain ⟨a19, ea19, hka19, hJ⟩ := dr_some hJ
  rw [ea19]
  refine fp_1203 (x := y1) C hin2 w hka19 tw_1_135 dX9_init_45 (fun H locs w => ?_)
  refine lv_aload_n hx hb dX9_init_48 rfl (lv_at hl 0 rfl) ?_
  refine lv_bipush (v := (6 : Int32)) hx hb dX9_init_49 (by decide) ?_
  obtain ⟨hn20, hJ⟩ := ck_some hJ
  have w0 := w
  refine fa_20 C w hn20 (mb_X9_init_53 N t0 _ _ _ hJ) hz2 dX9_init_51 (fun H w => ?_)
  have hk21 := kd_new (k := 20) (n := (6 : Int32).toNatClampNeg) (sl := (6 : Int32).toNatClampNeg) w0 hk0 (by decide)
  exact sb_X9_init_53 C hin2 hz2 N t0 _ _ _ hJ hk21 w hl
def B_X9_init_41 (N : Nat) (t0 : Nat) (h : Hp) (y0 : Option Nat) (y1 : Option Nat) : Option (Hp × Unit) := dr h 2 y1 (fun a22 => (J_Jx4a65c_init_da8c8 N a22 h).bind (fun z => B_X9_init_45 N t0 z.1 y0 (some a22)))
theorem mb_X9_init_41 (N : Nat) (t0 : Nat) (h : Hp) (y0 : Option Nat) (y1 : Option Nat) (hJ : B_X9_init_41 N t0 h y0 y1 = some (hz, ())) : Mo h hz := by
  unfold B_X9_init_41 at hJ
  obtain ⟨a22, ea22, -, hJ⟩ := dr_some hJ
  obtain ⟨⟨h23, r24⟩, e25, hJ⟩ := ob_some hJ
  exact (mo_Jx4a65c_init_da8c8 N a22 h e25).tr (mb_X9_init_45 N t0 _ _ _ hJ)
set_option maxRecDepth 100000 in
set_option maxHeartbeats 4000000 in
theorem sb_X9_init_41 (C : Cx p s m args meth c cX9_init 1 none RX9 D cs A h0.se) (hin2 : meth.name = "<init>") (hz2 : hz.nx ≤ h0.nx + mc ∧ hz.su ≤ h0.su + ms) (N : Nat) (t0 : Nat) (h : Hp) (y0 : Option Nat) (y1 : Option Nat) (hJ : B_X9_init_41 N t0 h y0 y1 = some (hz, ())) (hk0 : h.kd t0 = 12) {H : Heap} {locs : List Loc} {cells slots : Nat} (w : Wo D cs A s h0 h H locs cells slots) {ls : Array Slot} (hl : lv_has ls 1 [(0, .ref t0)]) : W p l e { frames := 5, cells := mc, slots := ms, locals := 120 } s m args below meth c H locs cells slots (MQ below (Zv D cs A hz) args s mc ms A) (F0 m 41 ls [va_rf y1, va_rf y0]) := by
  obtain ⟨hx, hb, hml, hown, hts, -⟩ := id C
  unfold B_X9_init_41 at hJ
  refine lv_dup hx hb dX9_init_41 (rf_cat _) ?_
  obtain ⟨a22, ea22, hka22, hJ⟩ := dr_some hJ
  rw [ea22]
  obtain ⟨⟨h23, r24⟩, e25, hJ⟩ := ob_some hJ
  refine jc_I (As := []) C w (cc_Jx4a65c_init_da8c8 N a22 h hka22 e25) (mo_Jx4a65c_init_da8c8 N a22 h e25) (mb_X9_init_45 N t0 _ _ _ hJ) hz2 tw_1_53 tw_1_80 tw_1_52 tw_1_5 rfl cd_Jx4a65c_init_da8c8 ⟨by decide, by decide⟩ hl.1 (by first | exact Nat.le_of_ble_eq_true rfl | simp [rf_cat, cat_i, cat_l, cat_r]) rfl dX9_init_42 (fun H locs w1 => ?_)
  have hk26 := kd_keep w (mo_Jx4a65c_init_da8c8 N a22 h e25) hk0 (by decide)
  have w := w1
  exact sb_X9_init_45 C hin2 hz2 N t0 _ _ _ hJ hk26 w hl
def B_X9_init_34 (N : Nat) (t0 : Nat) (h : Hp) (y0 : Option Nat) (y1 : Option Nat) : Option (Hp × Unit) := dr h 12 y0 (fun a27 => B_X9_init_41 N t0 ((h.sfr 1202 a27 y1).new 2 0 3) (some t0) (some (h.sfr 1202 a27 y1).nx))
theorem mb_X9_init_34 (N : Nat) (t0 : Nat) (h : Hp) (y0 : Option Nat) (y1 : Option Nat) (hJ : B_X9_init_34 N t0 h y0 y1 = some (hz, ())) : Mo h hz := by
  unfold B_X9_init_34 at hJ
  obtain ⟨a27, ea27, -, hJ⟩ := dr_some hJ
  exact (Mo.tr (show Mo h (h.sfr 1202 a27 y1) from ⟨fun _ _ => rfl, Nat.le_refl _, Nat.le_refl _, rfl, fun _ _ => rfl⟩) ((Mo.new (h.sfr 1202 a27 y1) _ _ _).tr (mb_X9_init_41 N t0 _ _ _ hJ)))
set_option maxRecDepth 100000 in
set_option maxHeartbeats 4000000 in
theorem sb_X9_init_34 (C : Cx p s m args meth c cX9_init 1 none RX9 D cs A h0.se) (hin2 : meth.name = "<init>") (hz2 : hz.nx ≤ h0.nx + mc ∧ hz.su ≤ h0.su + ms) (N : Nat) (t0 : Nat) (h : Hp) (y0 : Option Nat) (y1 : Option Nat) (hJ : B_X9_init_34 N t0 h y0 y1 = some (hz, ())) (hk0 : h.kd t0 = 12) {H : Heap} {locs : List Loc} {cells slots : Nat} (w : Wo D cs A s h0 h H locs cells slots) {ls : Array Slot} (hl : lv_has ls 1 [(0, .ref t0)]) : W p l e { frames := 5, cells := mc, slots := ms, locals := 120 } s m args below meth c H locs cells slots (MQ below (Zv D cs A hz) args s mc ms A) (F0 m 34 ls [va_rf y1, va_rf y0]) := by
  obtain ⟨hx, hb, hml, hown, hts, -⟩ := id C
  unfold B_X9_init_34 at hJ
  obtain ⟨a27, ea27, hka27, hJ⟩ := dr_some hJ
  rw [ea27]
  refine fp_1202 (x := y1) C hin2 w hka27 tw_1_134 dX9_init_34 (fun H locs w => ?_)
  refine lv_aload_n hx hb dX9_init_37 rfl (lv_at hl 0 rfl) ?_
  have w0 := w
  refine fn_2 C w (mb_X9_init_41 N t0 _ _ _ hJ) hz2 tw_1_79 dX9_init_38 (fun H w => ?_)
  have hk28 := kd_new (k := 2) (n := 0) (sl := 3) w0 hk0 (by decide)
  exact sb_X9_init_41 C hin2 hz2 N t0 _ _ _ hJ hk28 w hl
def B_X9_init_30 (N : Nat) (t0 : Nat) (h : Hp) (y0 : Option Nat) (y1 : Option Nat) : Option (Hp × Unit) := dr h 2 y1 (fun a29 => (J_Jx4a65c_init_da8c8 N a29 h).bind (fun z => B_X9_init_34 N t0 z.1 y0 (some a29)))
theorem mb_X9_init_30 (N : Nat) (t0 : Nat) (h : Hp) (y0 : Option Nat) (y1 : Option Nat) (hJ : B_X9_init_30 N t0 h y0 y1 = some (hz, ())) : Mo h hz := by
  unfold B_X9_init_30 at hJ
  obtain ⟨a29, ea29, -, hJ⟩ := dr_some hJ
  obtain ⟨⟨h30, r31⟩, e32, hJ⟩ := ob_some hJ
  exact (mo_Jx4a65c_init_da8c8 N a29 h e32).tr (mb_X9_init_34 N t0 _ _ _ hJ)
set_option maxRecDepth 100000 in
set_option maxHeartbeats 4000000 in
theorem sb_X9_init_30 (C : Cx p s m args meth c cX9_init 1 none RX9 D cs A h0.se) (hin2 : meth.name = "<init>") (hz2 : hz.nx ≤ h0.nx + mc ∧ hz.su ≤ h0.su + ms) (N : Nat) (t0 : Nat) (h : Hp) (y0 : Option Nat) (y1 : Option Nat) (hJ : B_X9_init_30 N t0 h y0 y1 = some (hz, ())) (hk0 : h.kd t0 = 12) {H : Heap} {locs : List Loc} {cells slots : Nat} (w : Wo D cs A s h0 h H locs cells slots) {ls : Array Slot} (hl : lv_has ls 1 [(0, .ref t0)]) : W p l e { frames := 5, cells := mc, slots := ms, locals := 120 } s m args below meth c H locs cells slots (MQ below (Zv D cs A hz) args s mc ms A) (F0 m 30 ls [va_rf y1, va_rf y0]) := by
  obtain ⟨hx, hb, hml, hown, hts, -⟩ := id C
  unfold B_X9_init_30 at hJ
  refine lv_dup hx hb dX9_init_30 (rf_cat _) ?_
  obtain ⟨a29, ea29, hka29, hJ⟩ := dr_some hJ
  rw [ea29]
  obtain ⟨⟨h30, r31⟩, e32, hJ⟩ := ob_some hJ
  refine jc_I (As := []) C w (cc_Jx4a65c_init_da8c8 N a29 h hka29 e32) (mo_Jx4a65c_init_da8c8 N a29 h e32) (mb_X9_init_34 N t0 _ _ _ hJ) hz2 tw_1_53 tw_1_80 tw_1_52 tw_1_5 rfl cd_Jx4a65c_init_da8c8 ⟨by decide, by decide⟩ hl.1 (by first | exact Nat.le_of_ble_eq_true rfl | simp [rf_cat, cat_i, cat_l, cat_r]) rfl dX9_init_31 (fun H locs w1 => ?_)
  have hk33 := kd_keep w (mo_Jx4a65c_init_da8c8 N a29 h e32) hk0 (by decide)
  have w := w1
  exact sb_X9_init_34 C hin2 hz2 N t0 _ _ _ hJ hk33 w hl
def B_X9_init_23 (N : Nat) (t0 : Nat) (h : Hp) (y0 : Option Nat) (y1 : Option Nat) : Option (Hp × Unit) := dr h 12 y0 (fun a34 => B_X9_init_30 N t0 ((h.sfr 1201 a34 y1).new 2 0 3) (some t0) (some (h.sfr 1201 a34 y1).nx))
theorem mb_X9_init_23 (N : Nat) (t0 : Nat) (h : Hp) (y0 : Option Nat) (y1 : Option Nat) (hJ : B_X9_init_23 N t0 h y0 y1 = some (hz, ())) : Mo h hz := by
  unfold B_X9_init_23 at hJ
  obtain ⟨a34, ea34, -, hJ⟩ := dr_some hJ
  exact (Mo.tr (show Mo h (h.sfr 1201 a34 y1) from ⟨fun _ _ => rfl, Nat.le_refl _, Nat.le_refl _, rfl, fun _ _ => rfl⟩) ((Mo.new (h.sfr 1201 a34 y1) _ _ _).tr (mb_X9_init_30 N t0 _ _ _ hJ)))
set_option maxRecDepth 100000 in
set_option maxHeartbeats 4000000 in
theorem sb_X9_init_23 (C : Cx p s m args meth c cX9_init 1 none RX9 D cs A h0.se) (hin2 : meth.name = "<init>") (hz2 : hz.nx ≤ h0.nx + mc ∧ hz.su ≤ h0.su + ms) (N : Nat) (t0 : Nat) (h : Hp) (y0 : Option Nat) (y1 : Option Nat) (hJ : B_X9_init_23 N t0 h y0 y1 = some (hz, ())) (hk0 : h.kd t0 = 12) {H : Heap} {locs : List Loc} {cells slots : Nat} (w : Wo D cs A s h0 h H locs cells slots) {ls : Array Slot} (hl : lv_has ls 1 [(0, .ref t0)]) : W p l e { frames := 5, cells := mc, slots := ms, locals := 120 } s m args below meth c H locs cells slots (MQ below (Zv D cs A hz) args s mc ms A) (F0 m 23 ls [va_rf y1, va_rf y0]) := by
  obtain ⟨hx, hb, hml, hown, hts, -⟩ := id C
  unfold B_X9_init_23 at hJ
  obtain ⟨a34, ea34, hka34, hJ⟩ := dr_some hJ
  rw [ea34]
  refine fp_1201 (x := y1) C hin2 w hka34 tw_1_133 dX9_init_23 (fun H locs w => ?_)
  refine lv_aload_n hx hb dX9_init_26 rfl (lv_at hl 0 rfl) ?_
  have w0 := w
  refine fn_2 C w (mb_X9_init_30 N t0 _ _ _ hJ) hz2 tw_1_79 dX9_init_27 (fun H w => ?_)
  have hk35 := kd_new (k := 2) (n := 0) (sl := 3) w0 hk0 (by decide)
  exact sb_X9_init_30 C hin2 hz2 N t0 _ _ _ hJ hk35 w hl
def B_X9_init_19 (N : Nat) (t0 : Nat) (h : Hp) (y0 : Option Nat) (y1 : Option Nat) : Option (Hp × Unit) := dr h 2 y1 (fun a36 => (J_Jx4a65c_init_da8c8 N a36 h).bind (fun z => B_X9_init_23 N t0 z.1 y0 (some a36)))
theorem mb_X9_init_19 (N : Nat) (t0 : Nat) (h : Hp) (y0 : Option Nat) (y1 : Option Nat) (hJ : B_X9_init_19 N t0 h y0 y1 = some (hz, ())) : Mo h hz := by
  unfold B_X9_init_19 at hJ
  obtain ⟨a36, ea36, -, hJ⟩ := dr_some hJ
  obtain ⟨⟨h37, r38⟩, e39, hJ⟩ := ob_some hJ
  exact (mo_Jx4a65c_init_da8c8 N a36 h e39).tr (mb_X9_init_23 N t0 _ _ _ hJ)
set_option maxRecDepth 100000 in
set_option maxHeartbeats 4000000 in
theorem sb_X9_init_19 (C : Cx p s m args meth c cX9_init 1 none RX9 D cs A h0.se) (hin2 : meth.name = "<init>") (hz2 : hz.nx ≤ h0.nx + mc ∧ hz.su ≤ h0.su + ms) (N : Nat) (t0 : Nat) (h : Hp) (y0 : Option Nat) (y1 : Option Nat) (hJ : B_X9_init_19 N t0 h y0 y1 = some (hz, ())) (hk0 : h.kd t0 = 12) {H : Heap} {locs : List Loc} {cells slots : Nat} (w : Wo D cs A s h0 h H locs cells slots) {ls : Array Slot} (hl : lv_has ls 1 [(0, .ref t0)]) : W p l e { frames := 5, cells := mc, slots := ms, locals := 120 } s m args below meth c H locs cells slots (MQ below (Zv D cs A hz) args s mc ms A) (F0 m 19 ls [va_rf y1, va_rf y0]) := by
  obtain ⟨hx, hb, hml, hown, hts, -⟩ := id C
  unfold B_X9_init_19 at hJ
  refine lv_dup hx hb dX9_init_19 (rf_cat _) ?_
  obtain ⟨a36, ea36, hka36, hJ⟩ := dr_some hJ
  rw [ea36]
  obtain ⟨⟨h37, r38⟩, e39, hJ⟩ := ob_some hJ
  refine jc_I (As := []) C w (cc_Jx4a65c_init_da8c8 N a36 h hka36 e39) (mo_Jx4a65c_init_da8c8 N a36 h e39) (mb_X9_init_23 N t0 _ _ _ hJ) hz2 tw_1_53 tw_1_80 tw_1_52 tw_1_5 rfl cd_Jx4a65c_init_da8c8 ⟨by decide, by decide⟩ hl.1 (by first | exact Nat.le_of_ble_eq_true rfl | simp [rf_cat, cat_i, cat_l, cat_r]) rfl dX9_init_20 (fun H locs w1 => ?_)
  have hk40 := kd_keep w (mo_Jx4a65c_init_da8c8 N a36 h e39) hk0 (by decide)
  have w := w1
  exact sb_X9_init_23 C hin2 hz2 N t0 _ _ _ hJ hk40 w hl
def B_X9_init_12 (N : Nat) (t0 : Nat) (h : Hp) (y0 : Option Nat) (y1 : Option Nat) : Option (Hp × Unit) := dr h 12 y0 (fun a41 => B_X9_init_19 N t0 ((h.sfr 1200 a41 y1).new 2 0 3) (some t0) (some (h.sfr 1200 a41 y1).nx))
theorem mb_X9_init_12 (N : Nat) (t0 : Nat) (h : Hp) (y0 : Option Nat) (y1 : Option Nat) (hJ : B_X9_init_12 N t0 h y0 y1 = some (hz, ())) : Mo h hz := by
  unfold B_X9_init_12 at hJ
  obtain ⟨a41, ea41, -, hJ⟩ := dr_some hJ
  exact (Mo.tr (show Mo h (h.sfr 1200 a41 y1) from ⟨fun _ _ => rfl, Nat.le_refl _, Nat.le_refl _, rfl, fun _ _ => rfl⟩) ((Mo.new (h.sfr 1200 a41 y1) _ _ _).tr (mb_X9_init_19 N t0 _ _ _ hJ)))
set_option maxRecDepth 100000 in
set_option maxHeartbeats 4000000 in
theorem sb_X9_init_12 (C : Cx p s m args meth c cX9_init 1 none RX9 D cs A h0.se) (hin2 : meth.name = "<init>") (hz2 : hz.nx ≤ h0.nx + mc ∧ hz.su ≤ h0.su + ms) (N : Nat) (t0 : Nat) (h : Hp) (y0 : Option Nat) (y1 : Option Nat) (hJ : B_X9_init_12 N t0 h y0 y1 = some (hz, ())) (hk0 : h.kd t0 = 12) {H : Heap} {locs : List Loc} {cells slots : Nat} (w : Wo D cs A s h0 h H locs cells slots) {ls : Array Slot} (hl : lv_has ls 1 [(0, .ref t0)]) : W p l e { frames := 5, cells := mc, slots := ms, locals := 120 } s m args below meth c H locs cells slots (MQ below (Zv D cs A hz) args s mc ms A) (F0 m 12 ls [va_rf y1, va_rf y0]) := by
  obtain ⟨hx, hb, hml, hown, hts, -⟩ := id C
  unfold B_X9_init_12 at hJ
  obtain ⟨a41, ea41, hka41, hJ⟩ := dr_some hJ
  rw [ea41]
  refine fp_1200 (x := y1) C hin2 w hka41 tw_1_132 dX9_init_12 (fun H locs w => ?_)
  refine lv_aload_n hx hb dX9_init_15 rfl (lv_at hl 0 rfl) ?_
  have w0 := w
  refine fn_2 C w (mb_X9_init_19 N t0 _ _ _ hJ) hz2 tw_1_79 dX9_init_16 (fun H w => ?_)
  have hk42 := kd_new (k := 2) (n := 0) (sl := 3) w0 hk0 (by decide)
  exact sb_X9_init_19 C hin2 hz2 N t0 _ _ _ hJ hk42 w hl
def B_X9_init_8 (N : Nat) (t0 : Nat) (h : Hp) (y0 : Option Nat) (y1 : Option Nat) : Option (Hp × Unit) := dr h 8 y1 (fun a43 => (J_X5_init N a43 h).bind (fun z => B_X9_init_12 N t0 z.1 y0 (some a43)))
theorem mb_X9_init_8 (N : Nat) (t0 : Nat) (h : Hp) (y0 : Option Nat) (y1 : Option Nat) (hJ : B_X9_init_8 N t0 h y0 y1 = some (hz, ())) : Mo h hz := by
  unfold B_X9_init_8 at hJ
  obtain ⟨a43, ea43, -, hJ⟩ := dr_some hJ
  obtain ⟨⟨h44, r45⟩, e46, hJ⟩ := ob_some hJ
  exact (mo_X5_init N a43 h e46).tr (mb_X9_init_12 N t0 _ _ _ hJ)
set_option maxRecDepth 100000 in
set_option maxHeartbeats 4000000 in
theorem sb_X9_init_8 (C : Cx p s m args meth c cX9_init 1 none RX9 D cs A h0.se) (hin2 : meth.name = "<init>") (hz2 : hz.nx ≤ h0.nx + mc ∧ hz.su ≤ h0.su + ms) (N : Nat) (t0 : Nat) (h : Hp) (y0 : Option Nat) (y1 : Option Nat) (hJ : B_X9_init_8 N t0 h y0 y1 = some (hz, ())) (hk0 : h.kd t0 = 12) {H : Heap} {locs : List Loc} {cells slots : Nat} (w : Wo D cs A s h0 h H locs cells slots) {ls : Array Slot} (hl : lv_has ls 1 [(0, .ref t0)]) : W p l e { frames := 5, cells := mc, slots := ms, locals := 120 } s m args below meth c H locs cells slots (MQ below (Zv D cs A hz) args s mc ms A) (F0 m 8 ls [va_rf y1, va_rf y0]) := by
  obtain ⟨hx, hb, hml, hown, hts, -⟩ := id C
  unfold B_X9_init_8 at hJ
  refine lv_dup hx hb dX9_init_8 (rf_cat _) ?_
  obtain ⟨a43, ea43, hka43, hJ⟩ := dr_some hJ
  rw [ea43]
  obtain ⟨⟨h44, r45⟩, e46, hJ⟩ := ob_some hJ
  refine jc_IN (As := []) C w (cc_X5_init N a43 h hka43 e46) (mo_X5_init N a43 h e46) (mb_X9_init_12 N t0 _ _ _ hJ) hz2 tw_1_47 (nw_1 C) tw_1_46 tw_1_2 rfl cd_X5_init ⟨by decide, by decide⟩ hl.1 (by first | exact Nat.le_of_ble_eq_true rfl | simp [rf_cat, cat_i, cat_l, cat_r]) rfl dX9_init_9 (fun H locs w1 => ?_)
  have hk47 := kd_keep w (mo_X5_init N a43 h e46) hk0 (by decide)
  have w := w1
  exact sb_X9_init_12 C hin2 hz2 N t0 _ _ _ hJ hk47 w hl
def B_X9_init_0 (N : Nat) (t0 : Nat) (h : Hp) : Option (Hp × Unit) := B_X9_init_8 N t0 (h.new 8 0 1) (some t0) (some h.nx)
theorem mb_X9_init_0 (N : Nat) (t0 : Nat) (h : Hp) (hJ : B_X9_init_0 N t0 h = some (hz, ())) : Mo h hz := by
  unfold B_X9_init_0 at hJ
  exact (Mo.new h _ _ _).tr (mb_X9_init_8 N t0 _ _ _ hJ)
set_option maxRecDepth 100000 in
set_option maxHeartbeats 4000000 in
theorem sb_X9_init_0 (C : Cx p s m args meth c cX9_init 1 none RX9 D cs A h0.se) (hin2 : meth.name = "<init>") (hz2 : hz.nx ≤ h0.nx + mc ∧ hz.su ≤ h0.su + ms) (N : Nat) (t0 : Nat) (h : Hp) (hJ : B_X9_init_0 N t0 h = some (hz, ())) (hk0 : h.kd t0 = 12) {H : Heap} {locs : List Loc} {cells slots : Nat} (w : Wo D cs A s h0 h H locs cells slots) {ls : Array Slot} (hl : lv_has ls 1 [(0, .ref t0)]) : W p l e { frames := 5, cells := mc, slots := ms, locals := 120 } s m args below meth c H locs cells slots (MQ below (Zv D cs A hz) args s mc ms A) (F0 m 0 ls []) := by
  obtain ⟨hx, hb, hml, hown, hts, -⟩ := id C
  unfold B_X9_init_0 at hJ
  refine lv_aload_n hx hb dX9_init_0 rfl (lv_at hl 0 rfl) ?_
  refine jc_O C tw_1_40 tw_1_41 tw_obj hl.1 (by first | exact Nat.le_of_ble_eq_true rfl | simp [rf_cat, cat_i, cat_l, cat_r]) (by decide) dX9_init_1 ?_
  refine lv_aload_n hx hb dX9_init_4 rfl (lv_at hl 0 rfl) ?_
  have w0 := w
  refine fn_8 C w (mb_X9_init_8 N t0 _ _ _ hJ) hz2 tw_1_43 dX9_init_5 (fun H w => ?_)
  have hk48 := kd_new (k := 8) (n := 0) (sl := 1) w0 hk0 (by decide)
  exact sb_X9_init_8 C hin2 hz2 N t0 _ _ _ hJ hk48 w hl
def J_X9_init (N : Nat) (t0 : Nat) (h : Hp) : Option (Hp × Unit) := B_X9_init_0 N t0 h
theorem mo_X9_init (N : Nat) (t0 : Nat) (h : Hp) (hJ : J_X9_init N t0 h = some (hz, ())) : Mo h hz := mb_X9_init_0 N t0 h hJ
theorem cd_X9_init : Cd yX9_init 0 := ⟨by decide +kernel, by decide +kernel, by decide +kernel⟩
theorem cc_X9_init (N : Nat) (t0 : Nat) (h : Hp) (hk0 : h.kd t0 = 12) (hJ : J_X9_init N t0 h = some (hz, ())) : Cv l yX9_init cX9_init 1 none 5 120 D cs h hz [.ref t0] := by
  intro mc ms g1 g2
  refine je_any (by decide) (by simp [lg_sl, rf_cat, cat_i, cat_l, cat_r]) ?_
  intro p e s m args below meth c C hin2 w ls hl
  have hl : lv_has ls 1 [(0, .ref t0)] := hl
  exact sb_X9_init_0 C hin2 ⟨g1, g2⟩ N t0 h hJ hk0 w hl
end G_X9_init
section G_X9_activeReadWrite
variable {p : Program} {l : Launch} {e : Env} {s : State} {m : MethodId} {args : Array Value} {below : List Frame} {meth : Method} {c : Code} {D : va_G} {cs : C4} {A : Nat → Prop} {h0 hz : Hp} {mc ms : Nat} {rz : Int32}
def B_X9_activeReadWrite_35 (N : Nat) (k4 : Hp → Int32 → Int32 → Option (Hp × Int32)) (t0 : Nat) (h : Hp) (x1 : Int32) (x2 : Int32) : Option (Hp × Int32) := k4 h x1 (x2 + (1 : Int32))
theorem mb_X9_activeReadWrite_35 (N : Nat) (k4 : Hp → Int32 → Int32 → Option (Hp × Int32)) (t0 : Nat) (h : Hp) (x1 : Int32) (x2 : Int32) (m4 : ∀ (h : Hp) (x1 : Int32) (x2 : Int32), k4 h x1 x2 = some (hz, rz) → Mo h hz) (hJ : B_X9_activeReadWrite_35 N k4 t0 h x1 x2 = some (hz, rz)) : Mo h hz := by
  unfold B_X9_activeReadWrite_35 at hJ
  exact m4 _ _ _ hJ
set_option maxRecDepth 100000 in
set_option maxHeartbeats 4000000 in
theorem sb_X9_activeReadWrite_35 (C : Cx p s m args meth c cX9_activeReadWrite 3 (some .int) RX9 D cs A h0.se) (hz2 : hz.nx ≤ h0.nx + mc ∧ hz.su ≤ h0.su + ms) (N : Nat) (k4 : Hp → Int32 → Int32 → Option (Hp × Int32)) (t0 : Nat) (m4 : ∀ (h : Hp) (x1 : Int32) (x2 : Int32), k4 h x1 x2 = some (hz, rz) → Mo h hz) (i4 : ∀ (h : Hp) (x1 : Int32) (x2 : Int32) (H : Heap) (locs : List Loc) (cells slots : Nat) (ls : Array Slot), k4 h x1 x2 = some (hz, rz) → h.kd t0 = 12 → Wo D cs A s h0 h H locs cells slots → lv_has ls 3 [(0, .ref t0), (1, .int x1), (2, .int x2)] → W p l e { frames := 3, cells := mc, slots := ms, locals := 90 } s m args below meth c H locs cells slots (MQ below (Zi D cs A hz rz) args s mc ms A) (F0 m 4 ls [])) (h : Hp) (x1 : Int32) (x2 : Int32) (hJ : B_X9_activeReadWrite_35 N k4 t0 h x1 x2 = some (hz, rz)) (hk0 : h.kd t0 = 12) {H : Heap} {locs : List Loc} {cells slots : Nat} (w : Wo D cs A s h0 h H locs cells slots) {ls : Array Slot} (hl : lv_has ls 3 [(0, .ref t0), (1, .int x1), (2, .int x2)]) : W p l e { frames := 3, cells := mc, slots := ms, locals := 90 } s m args below meth c H locs cells slots (MQ below (Zi D cs A hz rz) args s mc ms A) (F0 m 35 ls []) := by
  obtain ⟨hx, hb, hml, hown, hts, -⟩ := id C
  unfold B_X9_activeReadWrite_35 at hJ
  refine lv_iinc (v := x2 + (1 : Int32)) (lv' := [(2, .int (x2 + (1 : Int32))), (0, .ref t0), (1, .int x1)]) hx hb dX9_activeReadWrite_35 hl (k := 2) rfl rfl (by decide) rfl (fun ls hl => ?_)
  refine lv_goto (tgt := 4) hx hb dX9_activeReadWrite_38 (by decide) ?_
  exact i4 _ _ _ _ _ _ _ _ hJ hk0 w (lv_sub (l' := [(0, .ref t0), (1, .int x1), (2, .int (x2 + (1 : Int32)))]) hl [1, 2, 0] rfl)
def B_X9_activeReadWrite_23 (N : Nat) (k4 : Hp → Int32 → Int32 → Option (Hp × Int32)) (t0 : Nat) (h : Hp) (x1 : Int32) (x2 : Int32) (y0 : Option Nat) : Option (Hp × Int32) := dr h 10 y0 (fun a1 => if (h.fi 1005 a1) = 0 then (B_X9_activeReadWrite_35 N k4 t0 h (x1 + (1 : Int32)) x2) else (B_X9_activeReadWrite_35 N k4 t0 h x1 x2))
theorem mb_X9_activeReadWrite_23 (N : Nat) (k4 : Hp → Int32 → Int32 → Option (Hp × Int32)) (t0 : Nat) (h : Hp) (x1 : Int32) (x2 : Int32) (y0 : Option Nat) (m4 : ∀ (h : Hp) (x1 : Int32) (x2 : Int32), k4 h x1 x2 = some (hz, rz) → Mo h hz) (hJ : B_X9_activeReadWrite_23 N k4 t0 h x1 x2 y0 = some (hz, rz)) : Mo h hz := by
  unfold B_X9_activeReadWrite_23 at hJ
  obtain ⟨a1, ea1, -, hJ⟩ := dr_some hJ
  by_cases c2 : (h.fi 1005 a1) = 0
  · have hJ := it_pos c2 hJ
    exact mb_X9_activeReadWrite_35 N k4 t0 _ _ _ m4 hJ
  · have hJ := it_neg c2 hJ
    exact mb_X9_activeReadWrite_35 N k4 t0 _ _ _ m4 hJ
set_option maxRecDepth 100000 in
set_option maxHeartbeats 4000000 in
theorem sb_X9_activeReadWrite_23 (C : Cx p s m args meth c cX9_activeReadWrite 3 (some .int) RX9 D cs A h0.se) (hz2 : hz.nx ≤ h0.nx + mc ∧ hz.su ≤ h0.su + ms) (N : Nat) (k4 : Hp → Int32 → Int32 → Option (Hp × Int32)) (t0 : Nat) (m4 : ∀ (h : Hp) (x1 : Int32) (x2 : Int32), k4 h x1 x2 = some (hz, rz) → Mo h hz) (i4 : ∀ (h : Hp) (x1 : Int32) (x2 : Int32) (H : Heap) (locs : List Loc) (cells slots : Nat) (ls : Array Slot), k4 h x1 x2 = some (hz, rz) → h.kd t0 = 12 → Wo D cs A s h0 h H locs cells slots → lv_has ls 3 [(0, .ref t0), (1, .int x1), (2, .int x2)] → W p l e { frames := 3, cells := mc, slots := ms, locals := 90 } s m args below meth c H locs cells slots (MQ below (Zi D cs A hz rz) args s mc ms A) (F0 m 4 ls [])) (h : Hp) (x1 : Int32) (x2 : Int32) (y0 : Option Nat) (hJ : B_X9_activeReadWrite_23 N k4 t0 h x1 x2 y0 = some (hz, rz)) (hk0 : h.kd t0 = 12) {H : Heap} {locs : List Loc} {cells slots : Nat} (w : Wo D cs A s h0 h H locs cells slots) {ls : Array Slot} (hl : lv_has ls 3 [(0, .ref t0), (1, .int x1), (2, .int x2)]) : W p l e { frames := 3, cells := mc, slots := ms, locals := 90 } s m args below meth c H locs cells slots (MQ below (Zi D cs A hz rz) args s mc ms A) (F0 m 23 ls [va_rf y0]) := by
  obtain ⟨hx, hb, hml, hown, hts, -⟩ := id C
  unfold B_X9_activeReadWrite_23 at hJ
  obtain ⟨a1, ea1, hka1, hJ⟩ := dr_some hJ
  rw [ea1]
  refine va_castS hx hb hown (hts _ tw_1_221) (C.2.2.2.2.2.1.1 10 _ rfl).2 (recv_at C w hka1 (by decide) rfl (fs := fs10 h a1) rfl) dX9_activeReadWrite_23 ?_
  refine fg_1005 C w hka1 tw_2_24 dX9_activeReadWrite_26 ?_
  refine lv_if_ne (tgt := 35) hx hb dX9_activeReadWrite_29 (by decide) (fun c2 => ?_) (fun c2 => ?_)
  · have hJ := it_neg c2 hJ
    exact sb_X9_activeReadWrite_35 C hz2 N k4 t0 m4 i4 _ _ _ hJ hk0 w hl
  · have hJ := it_pos c2 hJ
    refine lv_iinc (v := x1 + (1 : Int32)) (lv' := [(1, .int (x1 + (1 : Int32))), (0, .ref t0), (2, .int x2)]) hx hb dX9_activeReadWrite_32 hl (k := 1) rfl rfl (by decide) rfl (fun ls hl => ?_)
    exact sb_X9_activeReadWrite_35 C hz2 N k4 t0 m4 i4 _ _ _ hJ hk0 w (lv_sub (l' := [(0, .ref t0), (1, .int (x1 + (1 : Int32))), (2, .int x2)]) hl [1, 0, 2] rfl)
def B_X9_activeReadWrite_12 (N : Nat) (k4 : Hp → Int32 → Int32 → Option (Hp × Int32)) (t0 : Nat) (h : Hp) (x1 : Int32) (x2 : Int32) (y0 : Int32) (y1 : Int32) : Option (Hp × Int32) := if y1 ≤ y0 then (some (h, x1)) else (dr h 2 (h.fr 1202 t0) (fun a4 => (J_Jx4a65c_get_915e3 N a4 h x2).bind (fun z => B_X9_activeReadWrite_23 N k4 t0 z.1 x1 x2 z.2)))
theorem mb_X9_activeReadWrite_12 (N : Nat) (k4 : Hp → Int32 → Int32 → Option (Hp × Int32)) (t0 : Nat) (h : Hp) (x1 : Int32) (x2 : Int32) (y0 : Int32) (y1 : Int32) (m4 : ∀ (h : Hp) (x1 : Int32) (x2 : Int32), k4 h x1 x2 = some (hz, rz) → Mo h hz) (hJ : B_X9_activeReadWrite_12 N k4 t0 h x1 x2 y0 y1 = some (hz, rz)) : Mo h hz := by
  unfold B_X9_activeReadWrite_12 at hJ
  by_cases c3 : y1 ≤ y0
  · have hJ := it_pos c3 hJ
    obtain ⟨rfl, -⟩ := rs2 hJ
    exact ⟨fun _ _ => rfl, Nat.le_refl _, Nat.le_refl _, rfl, fun _ _ => rfl⟩
  · have hJ := it_neg c3 hJ
    obtain ⟨a4, ea4, -, hJ⟩ := dr_some hJ
    obtain ⟨⟨h5, r6⟩, e7, hJ⟩ := ob_some hJ
    exact (mo_Jx4a65c_get_915e3 N a4 h x2 e7).tr (mb_X9_activeReadWrite_23 N k4 t0 _ _ _ _ m4 hJ)
set_option maxRecDepth 100000 in
set_option maxHeartbeats 4000000 in
theorem sb_X9_activeReadWrite_12 (C : Cx p s m args meth c cX9_activeReadWrite 3 (some .int) RX9 D cs A h0.se) (hz2 : hz.nx ≤ h0.nx + mc ∧ hz.su ≤ h0.su + ms) (N : Nat) (k4 : Hp → Int32 → Int32 → Option (Hp × Int32)) (t0 : Nat) (m4 : ∀ (h : Hp) (x1 : Int32) (x2 : Int32), k4 h x1 x2 = some (hz, rz) → Mo h hz) (i4 : ∀ (h : Hp) (x1 : Int32) (x2 : Int32) (H : Heap) (locs : List Loc) (cells slots : Nat) (ls : Array Slot), k4 h x1 x2 = some (hz, rz) → h.kd t0 = 12 → Wo D cs A s h0 h H locs cells slots → lv_has ls 3 [(0, .ref t0), (1, .int x1), (2, .int x2)] → W p l e { frames := 3, cells := mc, slots := ms, locals := 90 } s m args below meth c H locs cells slots (MQ below (Zi D cs A hz rz) args s mc ms A) (F0 m 4 ls [])) (h : Hp) (x1 : Int32) (x2 : Int32) (y0 : Int32) (y1 : Int32) (hJ : B_X9_activeReadWrite_12 N k4 t0 h x1 x2 y0 y1 = some (hz, rz)) (hk0 : h.kd t0 = 12) {H : Heap} {locs : List Loc} {cells slots : Nat} (w : Wo D cs A s h0 h H locs cells slots) {ls : Array Slot} (hl : lv_has ls 3 [(0, .ref t0), (1, .int x1), (2, .int x2)]) : W p l e { frames := 3, cells := mc, slots := ms, locals := 90 } s m args below meth c H locs cells slots (MQ below (Zi D cs A hz rz) args s mc ms A) (F0 m 12 ls [.int y1, .int y0]) := by
  obtain ⟨hx, hb, hml, hown, hts, -⟩ := id C
  unfold B_X9_activeReadWrite_12 at hJ
  refine lv_icmp_ge (tgt := 41) hx hb dX9_activeReadWrite_12 (by decide) (fun c3 => ?_) (fun c3 => ?_)
  · have hJ := it_pos c3 hJ
    refine lv_iload_n hx hb dX9_activeReadWrite_41 rfl (lv_at hl 1 rfl) ?_
    obtain ⟨rfl, rfl⟩ := rs2 hJ
    exact jr_iret C w hz2 dX9_activeReadWrite_42
  · have hJ := it_neg c3 hJ
    refine lv_aload_n hx hb dX9_activeReadWrite_15 rfl (lv_at hl 0 rfl) ?_
    refine fg_1202 C w hk0 tw_1_134 dX9_activeReadWrite_16 ?_
    refine lv_iload_n hx hb dX9_activeReadWrite_19 rfl (lv_at hl 2 rfl) ?_
    obtain ⟨a4, ea4, hka4, hJ⟩ := dr_some hJ
    rw [ea4]
    obtain ⟨⟨h5, r6⟩, e7, hJ⟩ := ob_some hJ
    refine jc_Vq (As := [.int x2]) C w (cc_Jx4a65c_get_915e3 N a4 h x2 hka4 e7) (mo_Jx4a65c_get_915e3 N a4 h x2 e7) (mb_X9_activeReadWrite_23 N k4 t0 _ _ _ _ m4 hJ) hz2 hka4 (by decide) rfl (fs := fs2 h a4) rfl rfl ⟨tw_2_65, tw_2_62, tw_2_63, tw_2_64, tw_1_5⟩ cd_Jx4a65c_get_915e3 ⟨by decide, by decide⟩ hl.1 (by first | exact Nat.le_of_ble_eq_true rfl | simp [rf_cat, cat_i, cat_l, cat_r]) rfl dX9_activeReadWrite_20 (fun H locs w1 => ?_)
    have hk8 := kd_keep w (mo_Jx4a65c_get_915e3 N a4 h x2 e7) hk0 (by decide)
    have w := w1
    exact sb_X9_activeReadWrite_23 C hz2 N k4 t0 m4 i4 _ _ _ _ hJ hk8 w hl
def B_X9_activeReadWrite_4 (N : Nat) (k4 : Hp → Int32 → Int32 → Option (Hp × Int32)) (t0 : Nat) (h : Hp) (x1 : Int32) (x2 : Int32) : Option (Hp × Int32) := dr h 2 (h.fr 1202 t0) (fun a9 => (J_Jx4a65c_size_8abf5 N a9 h).bind (fun z => B_X9_activeReadWrite_12 N k4 t0 z.1 x1 x2 x2 z.2))
theorem mb_X9_activeReadWrite_4 (N : Nat) (k4 : Hp → Int32 → Int32 → Option (Hp × Int32)) (t0 : Nat) (h : Hp) (x1 : Int32) (x2 : Int32) (m4 : ∀ (h : Hp) (x1 : Int32) (x2 : Int32), k4 h x1 x2 = some (hz, rz) → Mo h hz) (hJ : B_X9_activeReadWrite_4 N k4 t0 h x1 x2 = some (hz, rz)) : Mo h hz := by
  unfold B_X9_activeReadWrite_4 at hJ
  obtain ⟨a9, ea9, -, hJ⟩ := dr_some hJ
  obtain ⟨⟨h10, r11⟩, e12, hJ⟩ := ob_some hJ
  exact (mo_Jx4a65c_size_8abf5 N a9 h e12).tr (mb_X9_activeReadWrite_12 N k4 t0 _ _ _ _ _ m4 hJ)
set_option maxRecDepth 100000 in
set_option maxHeartbeats 4000000 in
theorem sb_X9_activeReadWrite_4 (C : Cx p s m args meth c cX9_activeReadWrite 3 (some .int) RX9 D cs A h0.se) (hz2 : hz.nx ≤ h0.nx + mc ∧ hz.su ≤ h0.su + ms) (N : Nat) (k4 : Hp → Int32 → Int32 → Option (Hp × Int32)) (t0 : Nat) (m4 : ∀ (h : Hp) (x1 : Int32) (x2 : Int32), k4 h x1 x2 = some (hz, rz) → Mo h hz) (i4 : ∀ (h : Hp) (x1 : Int32) (x2 : Int32) (H : Heap) (locs : List Loc) (cells slots : Nat) (ls : Array Slot), k4 h x1 x2 = some (hz, rz) → h.kd t0 = 12 → Wo D cs A s h0 h H locs cells slots → lv_has ls 3 [(0, .ref t0), (1, .int x1), (2, .int x2)] → W p l e { frames := 3, cells := mc, slots := ms, locals := 90 } s m args below meth c H locs cells slots (MQ below (Zi D cs A hz rz) args s mc ms A) (F0 m 4 ls [])) (h : Hp) (x1 : Int32) (x2 : Int32) (hJ : B_X9_activeReadWrite_4 N k4 t0 h x1 x2 = some (hz, rz)) (hk0 : h.kd t0 = 12) {H : Heap} {locs : List Loc} {cells slots : Nat} (w : Wo D cs A s h0 h H locs cells slots) {ls : Array Slot} (hl : lv_has ls 3 [(0, .ref t0), (1, .int x1), (2, .int x2)]) : W p l e { frames := 3, cells := mc, slots := ms, locals := 90 } s m args below meth c H locs cells slots (MQ below (Zi D cs A hz rz) args s mc ms A) (F0 m 4 ls []) := by
  obtain ⟨hx, hb, hml, hown, hts, -⟩ := id C
  unfold B_X9_activeReadWrite_4 at hJ
  refine lv_iload_n hx hb dX9_activeReadWrite_4 rfl (lv_at hl 2 rfl) ?_
  refine lv_aload_n hx hb dX9_activeReadWrite_5 rfl (lv_at hl 0 rfl) ?_
  refine fg_1202 C w hk0 tw_1_134 dX9_activeReadWrite_6 ?_
  obtain ⟨a9, ea9, hka9, hJ⟩ := dr_some hJ
  rw [ea9]
  obtain ⟨⟨h10, r11⟩, e12, hJ⟩ := ob_some hJ
  refine jc_Vi (As := []) C w (cc_Jx4a65c_size_8abf5 N a9 h hka9 e12) (mo_Jx4a65c_size_8abf5 N a9 h e12) (mb_X9_activeReadWrite_12 N k4 t0 _ _ _ _ _ m4 hJ) hz2 hka9 (by decide) rfl (fs := fs2 h a9) rfl rfl ⟨tw_1_182, tw_1_179, tw_1_180, tw_1_181, tw_1_5⟩ cd_Jx4a65c_size_8abf5 ⟨by decide, by decide⟩ hl.1 (by first | exact Nat.le_of_ble_eq_true rfl | simp [rf_cat, cat_i, cat_l, cat_r]) rfl dX9_activeReadWrite_9 (fun H locs w1 => ?_)
  have hk13 := kd_keep w (mo_Jx4a65c_size_8abf5 N a9 h e12) hk0 (by decide)
  have w := w1
  exact sb_X9_activeReadWrite_12 C hz2 N k4 t0 m4 i4 _ _ _ _ _ hJ hk13 w hl
def L_X9_activeReadWrite_4 (N : Nat) (t0 : Nat) : Nat → Hp → Int32 → Int32 → Option (Hp × Int32)
  | 0 => fun _ _ _ => none
  | n + 1 => fun h x1 x2 => B_X9_activeReadWrite_4 N (L_X9_activeReadWrite_4 N t0 n) t0 h x1 x2
theorem ml_X9_activeReadWrite_4 (N : Nat) (t0 : Nat) : ∀ (n : Nat) (h : Hp) (x1 : Int32) (x2 : Int32), L_X9_activeReadWrite_4 N t0 n h x1 x2 = some (hz, rz) → Mo h hz := by
  intro n
  induction n with
  | zero => intro h x1 x2 hJ; cases hJ
  | succ n ih => intro h x1 x2 hJ; exact mb_X9_activeReadWrite_4 N (L_X9_activeReadWrite_4 N t0 n) t0 h x1 x2 ih hJ
theorem sl_X9_activeReadWrite_4 (C : Cx p s m args meth c cX9_activeReadWrite 3 (some .int) RX9 D cs A h0.se) (hz2 : hz.nx ≤ h0.nx + mc ∧ hz.su ≤ h0.su + ms) (N : Nat) (t0 : Nat) : ∀ n : Nat, ∀ (h : Hp) (x1 : Int32) (x2 : Int32) (H : Heap) (locs : List Loc) (cells slots : Nat) (ls : Array Slot), L_X9_activeReadWrite_4 N t0 n h x1 x2 = some (hz, rz) → h.kd t0 = 12 → Wo D cs A s h0 h H locs cells slots → lv_has ls 3 [(0, .ref t0), (1, .int x1), (2, .int x2)] → W p l e { frames := 3, cells := mc, slots := ms, locals := 90 } s m args below meth c H locs cells slots (MQ below (Zi D cs A hz rz) args s mc ms A) (F0 m 4 ls []) := by
  intro n
  induction n with
  | zero => intro h x1 x2 H locs cells slots ls hJ; cases hJ
  | succ n ih =>
    intro h x1 x2 H locs cells slots ls hJ hk0 w hl
    exact sb_X9_activeReadWrite_4 C hz2 N (L_X9_activeReadWrite_4 N t0 n) t0 (ml_X9_activeReadWrite_4 N t0 n) ih h x1 x2 hJ hk0 w hl
def B_X9_activeReadWrite_0 (N : Nat) (t0 : Nat) (h : Hp) : Option (Hp × Int32) := L_X9_activeReadWrite_4 N t0 N h (0 : Int32) (0 : Int32)
theorem mb_X9_activeReadWrite_0 (N : Nat) (t0 : Nat) (h : Hp) (hJ : B_X9_activeReadWrite_0 N t0 h = some (hz, rz)) : Mo h hz := by
  unfold B_X9_activeReadWrite_0 at hJ
  exact ml_X9_activeReadWrite_4 N t0 N _ _ _ hJ
set_option maxRecDepth 100000 in
set_option maxHeartbeats 4000000 in
theorem sb_X9_activeReadWrite_0 (C : Cx p s m args meth c cX9_activeReadWrite 3 (some .int) RX9 D cs A h0.se) (hz2 : hz.nx ≤ h0.nx + mc ∧ hz.su ≤ h0.su + ms) (N : Nat) (t0 : Nat) (h : Hp) (hJ : B_X9_activeReadWrite_0 N t0 h = some (hz, rz)) (hk0 : h.kd t0 = 12) {H : Heap} {locs : List Loc} {cells slots : Nat} (w : Wo D cs A s h0 h H locs cells slots) {ls : Array Slot} (hl : lv_has ls 3 [(0, .ref t0)]) : W p l e { frames := 3, cells := mc, slots := ms, locals := 90 } s m args below meth c H locs cells slots (MQ below (Zi D cs A hz rz) args s mc ms A) (F0 m 0 ls []) := by
  obtain ⟨hx, hb, hml, hown, hts, -⟩ := id C
  unfold B_X9_activeReadWrite_0 at hJ
  refine lv_iconst (v := (0 : Int32)) hx hb dX9_activeReadWrite_0 (by decide) ?_
  refine lv_istore_n (i := 1) (lv' := [(1, .int (0 : Int32)), (0, .ref t0)]) hx hb dX9_activeReadWrite_1 rfl hl (by decide) rfl (fun ls hl => ?_)
  refine lv_iconst (v := (0 : Int32)) hx hb dX9_activeReadWrite_2 (by decide) ?_
  refine lv_istore_n (i := 2) (lv' := [(2, .int (0 : Int32)), (1, .int (0 : Int32)), (0, .ref t0)]) hx hb dX9_activeReadWrite_3 rfl hl (by decide) rfl (fun ls hl => ?_)
  exact sl_X9_activeReadWrite_4 C hz2 N t0 N _ _ _ _ _ _ _ _ hJ hk0 w (lv_sub (l' := [(0, .ref t0), (1, .int (0 : Int32)), (2, .int (0 : Int32))]) hl [2, 1, 0] rfl)
def J_X9_activeReadWrite (N : Nat) (t0 : Nat) (h : Hp) : Option (Hp × Int32) := B_X9_activeReadWrite_0 N t0 h
theorem mo_X9_activeReadWrite (N : Nat) (t0 : Nat) (h : Hp) (hJ : J_X9_activeReadWrite N t0 h = some (hz, rz)) : Mo h hz := mb_X9_activeReadWrite_0 N t0 h hJ
theorem cd_X9_activeReadWrite : Cd yX9_activeReadWrite 0 := ⟨by decide +kernel, by decide +kernel, by decide +kernel⟩
theorem cc_X9_activeReadWrite (N : Nat) (t0 : Nat) (h : Hp) (hk0 : h.kd t0 = 12) (hJ : J_X9_activeReadWrite N t0 h = some (hz, rz)) : Ci l yX9_activeReadWrite cX9_activeReadWrite 3 (some .int) 3 90 D cs h hz [.ref t0] rz := by
  intro mc ms g1 g2
  refine je_any (by decide) (by simp [lg_sl, rf_cat, cat_i, cat_l, cat_r]) ?_
  intro p e s m args below meth c C hin2 w ls hl
  have hl : lv_has ls 3 [(0, .ref t0)] := hl
  exact sb_X9_activeReadWrite_0 C ⟨g1, g2⟩ N t0 h hJ hk0 w hl
end G_X9_activeReadWrite
section G_X9_takeRecord
variable {p : Program} {l : Launch} {e : Env} {s : State} {m : MethodId} {args : Array Value} {below : List Frame} {meth : Method} {c : Code} {D : va_G} {cs : C4} {A : Nat → Prop} {h0 hz : Hp} {mc ms : Nat} {rz : Int32}
def B_X9_takeRecord_0 (N : Nat) (t0 : Nat) (h : Hp) : Option (Hp × Int32) := if (h.fi 1208 t0) < (512 : Int32) then (some (h.sfi 1208 t0 ((h.fi 1208 t0) + (1 : Int32)), (1 : Int32))) else (some (h, (0 : Int32)))
theorem mb_X9_takeRecord_0 (N : Nat) (t0 : Nat) (h : Hp) (hJ : B_X9_takeRecord_0 N t0 h = some (hz, rz)) : Mo h hz := by
  unfold B_X9_takeRecord_0 at hJ
  by_cases c1 : (h.fi 1208 t0) < (512 : Int32)
  · have hJ := it_pos c1 hJ
    obtain ⟨rfl, -⟩ := rs2 hJ
    exact ⟨fun _ _ => rfl, Nat.le_refl _, Nat.le_refl _, rfl, fun _ _ => rfl⟩
  · have hJ := it_neg c1 hJ
    obtain ⟨rfl, -⟩ := rs2 hJ
    exact ⟨fun _ _ => rfl, Nat.le_refl _, Nat.le_refl _, rfl, fun _ _ => rfl⟩
set_option maxRecDepth 100000 in
set_option maxHeartbeats 4000000 in
theorem sb_X9_takeRecord_0 (C : Cx p s m args meth c cX9_takeRecord 1 (some .boolean) RX9 D cs A h0.se) (hz2 : hz.nx ≤ h0.nx + mc ∧ hz.su ≤ h0.su + ms) (N : Nat) (t0 : Nat) (h : Hp) (hJ : B_X9_takeRecord_0 N t0 h = some (hz, rz)) (hk0 : h.kd t0 = 12) {H : Heap} {locs : List Loc} {cells slots : Nat} (w : Wo D cs A s h0 h H locs cells slots) {ls : Array Slot} (hl : lv_has ls 1 [(0, .ref t0)]) : W p l e { frames := 0, cells := mc, slots := ms, locals := 0 } s m args below meth c H locs cells slots (MQ below (Zi D cs A hz rz) args s mc ms A) (F0 m 0 ls []) := by
  obtain ⟨hx, hb, hml, hown, hts, -⟩ := id C
  unfold B_X9_takeRecord_0 at hJ
  refine lv_aload_n hx hb dX9_takeRecord_0 rfl (lv_at hl 0 rfl) ?_
  refine fg_1208 C w hk0 tw_1_140 dX9_takeRecord_1 ?_
  refine lv_sipush (v := (512 : Int32)) hx hb dX9_takeRecord_4 (by decide) ?_
  refine lv_icmp_lt (tgt := 12) hx hb dX9_takeRecord_7 (by decide) (fun c1 => ?_) (fun c1 => ?_)
  · have hJ := it_pos c1 hJ
    refine lv_aload_n hx hb dX9_takeRecord_12 rfl (lv_at hl 0 rfl) ?_
    refine lv_dup hx hb dX9_takeRecord_13 rfl ?_
    refine fg_1208 C w hk0 tw_1_140 dX9_takeRecord_14 ?_
    refine lv_iconst (v := (1 : Int32)) hx hb dX9_takeRecord_17 (by decide) ?_
    refine lv_iadd hx hb dX9_takeRecord_18 ?_
    refine fp_1208 (x := (h.fi 1208 t0) + (1 : Int32)) C w hk0 tw_1_140 dX9_takeRecord_19 (fun H locs w => ?_)
    refine lv_iconst (v := (1 : Int32)) hx hb dX9_takeRecord_22 (by decide) ?_
    obtain ⟨rfl, rfl⟩ := rs2 hJ
    exact jr_zret C w (Or.inr rfl) hz2 dX9_takeRecord_23
  · have hJ := it_neg c1 hJ
    refine lv_iconst (v := (0 : Int32)) hx hb dX9_takeRecord_10 (by decide) ?_
    obtain ⟨rfl, rfl⟩ := rs2 hJ
    exact jr_zret C w (Or.inl rfl) hz2 dX9_takeRecord_11
def J_X9_takeRecord (N : Nat) (t0 : Nat) (h : Hp) : Option (Hp × Int32) := B_X9_takeRecord_0 N t0 h
theorem mo_X9_takeRecord (N : Nat) (t0 : Nat) (h : Hp) (hJ : J_X9_takeRecord N t0 h = some (hz, rz)) : Mo h hz := mb_X9_takeRecord_0 N t0 h hJ
theorem cd_X9_takeRecord : Cd yX9_takeRecord 0 := ⟨by decide +kernel, by decide +kernel, by decide +kernel⟩
theorem cc_X9_takeRecord (N : Nat) (t0 : Nat) (h : Hp) (hk0 : h.kd t0 = 12) (hJ : J_X9_takeRecord N t0 h = some (hz, rz)) : Ci l yX9_takeRecord cX9_takeRecord 1 (some .boolean) 0 0 D cs h hz [.ref t0] rz := by
  intro mc ms g1 g2
  refine je_any (by decide) (by simp [lg_sl, rf_cat, cat_i, cat_l, cat_r]) ?_
  intro p e s m args below meth c C hin2 w ls hl
  have hl : lv_has ls 1 [(0, .ref t0)] := hl
  exact sb_X9_takeRecord_0 C ⟨g1, g2⟩ N t0 h hJ hk0 w hl
end G_X9_takeRecord
section G_X9_begin
variable {p : Program} {l : Launch} {e : Env} {s : State} {m : MethodId} {args : Array Value} {below : List Frame} {meth : Method} {c : Code} {D : va_G} {cs : C4} {A : Nat → Prop} {h0 hz : Hp} {mc ms : Nat} {rz : Int32}
def B_X9_begin_19 (N : Nat) (t0 : Nat) (h : Hp) : Option (Hp × Int32) := some (h, (-1 : Int32))
theorem mb_X9_begin_19 (N : Nat) (t0 : Nat) (h : Hp) (hJ : B_X9_begin_19 N t0 h = some (hz, rz)) : Mo h hz := by
  unfold B_X9_begin_19 at hJ
  obtain ⟨rfl, -⟩ := rs2 hJ
  exact ⟨fun _ _ => rfl, Nat.le_refl _, Nat.le_refl _, rfl, fun _ _ => rfl⟩
set_option maxRecDepth 100000 in
set_option maxHeartbeats 4000000 in
theorem sb_X9_begin_19 (C : Cx p s m args meth c cX9_begin 4 (some .int) RX9 D cs A h0.se) (hz2 : hz.nx ≤ h0.nx + mc ∧ hz.su ≤ h0.su + ms) (N : Nat) (t0 : Nat) (h : Hp) (hJ : B_X9_begin_19 N t0 h = some (hz, rz)) (hk0 : h.kd t0 = 12) {H : Heap} {locs : List Loc} {cells slots : Nat} (w : Wo D cs A s h0 h H locs cells slots) {ls : Array Slot} (hl : lv_has ls 4 [(0, .ref t0)]) : W p l e { frames := 7, cells := mc, slots := ms, locals := 230 } s m args below meth c H locs cells slots (MQ below (Zi D cs A hz rz) args s mc ms A) (F0 m 19 ls []) := by
  obtain ⟨hx, hb, hml, hown, hts, -⟩ := id C
  unfold B_X9_begin_19 at hJ
  refine lv_iconst (v := (-1 : Int32)) hx hb dX9_begin_19 (by decide) ?_
  obtain ⟨rfl, rfl⟩ := rs2 hJ
  exact jr_iret C w hz2 dX9_begin_20
def B_X9_begin_88 (N : Nat) (t0 : Nat) (h : Hp) (x3 : Option Nat) (y0 : Int32) : Option (Hp × Int32) := dr h 20 (h.fr 1204 t0) (fun a1 => ck (¬ ((1 : Int32) < 0 ∨ h.al a1 ≤ (1 : Int32).toNatClampNeg)) (ck (¬ ((1 : Int32) < 0 ∨ h.al a1 ≤ (1 : Int32).toNatClampNeg)) (dr (h.sai a1 (1 : Int32).toNatClampNeg ((h.ai a1 (1 : Int32).toNatClampNeg) + (1 : Int32))) 10 x3 (fun a4 => some (h.sai a1 (1 : Int32).toNatClampNeg ((h.ai a1 (1 : Int32).toNatClampNeg) + (1 : Int32)), (h.sai a1 (1 : Int32).toNatClampNeg ((h.ai a1 (1 : Int32).toNatClampNeg) + (1 : Int32))).fi 1000 a4)))))
theorem mb_X9_begin_88 (N : Nat) (t0 : Nat) (h : Hp) (x3 : Option Nat) (y0 : Int32) (hJ : B_X9_begin_88 N t0 h x3 y0 = some (hz, rz)) : Mo h hz := by
  unfold B_X9_begin_88 at hJ
  obtain ⟨a1, ea1, -, hJ⟩ := dr_some hJ
  obtain ⟨-, hJ⟩ := ck_some hJ
  obtain ⟨-, hJ⟩ := ck_some hJ
  obtain ⟨a4, ea4, -, hJ⟩ := dr_some hJ
  obtain ⟨rfl, -⟩ := rs2 hJ
  exact ⟨fun _ _ => rfl, Nat.le_refl _, Nat.le_refl _, rfl, fun _ _ => rfl⟩
set_option maxRecDepth 100000 in
set_option maxHeartbeats 4000000 in
theorem sb_X9_begin_88 (C : Cx p s m args meth c cX9_begin 4 (some .int) RX9 D cs A h0.se) (hz2 : hz.nx ≤ h0.nx + mc ∧ hz.su ≤ h0.su + ms) (N : Nat) (t0 : Nat) (h : Hp) (x3 : Option Nat) (y0 : Int32) (hJ : B_X9_begin_88 N t0 h x3 y0 = some (hz, rz)) (hk0 : h.kd t0 = 12) {H : Heap} {locs : List Loc} {cells slots : Nat} (w : Wo D cs A s h0 h H locs cells slots) {ls : Array Slot} (hl : lv_has ls 4 [(0, .ref t0), (3, va_rf x3)]) : W p l e { frames := 7, cells := mc, slots := ms, locals := 230 } s m args below meth c H locs cells slots (MQ below (Zi D cs A hz rz) args s mc ms A) (F0 m 88 ls [.int y0]) := by
  obtain ⟨hx, hb, hml, hown, hts, -⟩ := id C
  unfold B_X9_begin_88 at hJ
  refine lv_pop hx hb dX9_begin_88 rfl ?_
  refine lv_aload_n hx hb dX9_begin_89 rfl (lv_at hl 0 rfl) ?_
  refine fg_1204 C w hk0 tw_1_136 dX9_begin_90 ?_
  refine lv_iconst (v := (1 : Int32)) hx hb dX9_begin_93 (by decide) ?_
  refine lv_dup2_11 hx hb dX9_begin_94 rfl (rf_cat _) ?_
  obtain ⟨a1, ea1, hka1, hJ⟩ := dr_some hJ
  rw [ea1]
  obtain ⟨hi2, hJ⟩ := ck_some hJ
  refine jr_iald C w hka1 hi2 dX9_begin_95 ?_
  refine lv_iconst (v := (1 : Int32)) hx hb dX9_begin_96 (by decide) ?_
  refine lv_iadd hx hb dX9_begin_97 ?_
  obtain ⟨hi3, hJ⟩ := ck_some hJ
  refine jr_iast C w hka1 hi3 dX9_begin_98 (fun H locs w => ?_)
  refine jv_aload_n hx hb dX9_begin_99 rfl (lv_at hl 1 rfl) ?_
  obtain ⟨a4, ea4, hka4, hJ⟩ := dr_some hJ
  rw [ea4] at hl
  rw [ea4]
  refine fg_1000 C w hka4 tw_2_10 dX9_begin_100 ?_
  obtain ⟨rfl, rfl⟩ := rs2 hJ
  exact jr_iret C w hz2 dX9_begin_103
def B_X9_begin_79 (N : Nat) (t0 : Nat) (h : Hp) (x3 : Option Nat) (y0 : Int32) : Option (Hp × Int32) := dr h 2 (h.fr 1202 t0) (fun a5 => (J_Jx4a65c_add_9ea2d N a5 h x3).bind (fun z => B_X9_begin_88 N t0 z.1 x3 z.2))
theorem mb_X9_begin_79 (N : Nat) (t0 : Nat) (h : Hp) (x3 : Option Nat) (y0 : Int32) (hJ : B_X9_begin_79 N t0 h x3 y0 = some (hz, rz)) : Mo h hz := by
  unfold B_X9_begin_79 at hJ
  obtain ⟨a5, ea5, -, hJ⟩ := dr_some hJ
  obtain ⟨⟨h6, r7⟩, e8, hJ⟩ := ob_some hJ
  exact (mo_Jx4a65c_add_9ea2d N a5 h x3 e8).tr (mb_X9_begin_88 N t0 _ _ _ hJ)
set_option maxRecDepth 100000 in
set_option maxHeartbeats 4000000 in
theorem sb_X9_begin_79 (C : Cx p s m args meth c cX9_begin 4 (some .int) RX9 D cs A h0.se) (hz2 : hz.nx ≤ h0.nx + mc ∧ hz.su ≤ h0.su + ms) (N : Nat) (t0 : Nat) (h : Hp) (x3 : Option Nat) (y0 : Int32) (hJ : B_X9_begin_79 N t0 h x3 y0 = some (hz, rz)) (hk0 : h.kd t0 = 12) {H : Heap} {locs : List Loc} {cells slots : Nat} (w : Wo D cs A s h0 h H locs cells slots) {ls : Array Slot} (hl : lv_has ls 4 [(0, .ref t0), (3, va_rf x3)]) : W p l e { frames := 7, cells := mc, slots := ms, locals := 230 } s m args below meth c H locs cells slots (MQ below (Zi D cs A hz rz) args s mc ms A) (F0 m 79 ls [.int y0]) := by
  obtain ⟨hx, hb, hml, hown, hts, -⟩ := id C
  unfold B_X9_begin_79 at hJ
  refine lv_pop hx hb dX9_begin_79 rfl ?_
  refine lv_aload_n hx hb dX9_begin_80 rfl (lv_at hl 0 rfl) ?_
  refine fg_1202 C w hk0 tw_1_134 dX9_begin_81 ?_
  refine jv_aload_n hx hb dX9_begin_84 rfl (lv_at hl 1 rfl) ?_
  obtain ⟨a5, ea5, hka5, hJ⟩ := dr_some hJ
  rw [ea5]
  obtain ⟨⟨h6, r7⟩, e8, hJ⟩ := ob_some hJ
  refine jc_Vi (As := [va_rf x3]) C w (cc_Jx4a65c_add_9ea2d N a5 h x3 hka5 e8) (mo_Jx4a65c_add_9ea2d N a5 h x3 e8) (mb_X9_begin_88 N t0 _ _ _ hJ) hz2 hka5 (by decide) rfl (fs := fs2 h a5) rfl rfl ⟨tw_2_87, tw_2_84, tw_2_85, tw_2_86, tw_1_5⟩ cd_Jx4a65c_add_9ea2d ⟨by decide, by decide⟩ hl.1 (by first | exact Nat.le_of_ble_eq_true rfl | simp [rf_cat, cat_i, cat_l, cat_r]) rfl dX9_begin_85 (fun H locs w1 => ?_)
  have hk9 := kd_keep w (mo_Jx4a65c_add_9ea2d N a5 h x3 e8) hk0 (by decide)
  have w := w1
  exact sb_X9_begin_88 C hz2 N t0 _ _ _ hJ hk9 w hl
def B_X9_begin_71 (N : Nat) (t0 : Nat) (h : Hp) (x3 : Option Nat) : Option (Hp × Int32) := dr h 2 (h.fr 1201 t0) (fun a10 => (J_Jx4a65c_add_9ea2d N a10 h x3).bind (fun z => B_X9_begin_79 N t0 z.1 x3 z.2))
theorem mb_X9_begin_71 (N : Nat) (t0 : Nat) (h : Hp) (x3 : Option Nat) (hJ : B_X9_begin_71 N t0 h x3 = some (hz, rz)) : Mo h hz := by
  unfold B_X9_begin_71 at hJ
  obtain ⟨a10, ea10, -, hJ⟩ := dr_some hJ
  obtain ⟨⟨h11, r12⟩, e13, hJ⟩ := ob_some hJ
  exact (mo_Jx4a65c_add_9ea2d N a10 h x3 e13).tr (mb_X9_begin_79 N t0 _ _ _ hJ)
set_option maxRecDepth 100000 in
set_option maxHeartbeats 4000000 in
theorem sb_X9_begin_71 (C : Cx p s m args meth c cX9_begin 4 (some .int) RX9 D cs A h0.se) (hz2 : hz.nx ≤ h0.nx + mc ∧ hz.su ≤ h0.su + ms) (N : Nat) (t0 : Nat) (h : Hp) (x3 : Option Nat) (hJ : B_X9_begin_71 N t0 h x3 = some (hz, rz)) (hk0 : h.kd t0 = 12) {H : Heap} {locs : List Loc} {cells slots : Nat} (w : Wo D cs A s h0 h H locs cells slots) {ls : Array Slot} (hl : lv_has ls 4 [(0, .ref t0), (3, va_rf x3)]) : W p l e { frames := 7, cells := mc, slots := ms, locals := 230 } s m args below meth c H locs cells slots (MQ below (Zi D cs A hz rz) args s mc ms A) (F0 m 71 ls []) := by
  obtain ⟨hx, hb, hml, hown, hts, -⟩ := id C
  unfold B_X9_begin_71 at hJ
  refine lv_aload_n hx hb dX9_begin_71 rfl (lv_at hl 0 rfl) ?_
  refine fg_1201 C w hk0 tw_1_133 dX9_begin_72 ?_
  refine jv_aload_n hx hb dX9_begin_75 rfl (lv_at hl 1 rfl) ?_
  obtain ⟨a10, ea10, hka10, hJ⟩ := dr_some hJ
  rw [ea10]
  obtain ⟨⟨h11, r12⟩, e13, hJ⟩ := ob_some hJ
  refine jc_Vi (As := [va_rf x3]) C w (cc_Jx4a65c_add_9ea2d N a10 h x3 hka10 e13) (mo_Jx4a65c_add_9ea2d N a10 h x3 e13) (mb_X9_begin_79 N t0 _ _ _ hJ) hz2 hka10 (by decide) rfl (fs := fs2 h a10) rfl rfl ⟨tw_2_87, tw_2_84, tw_2_85, tw_2_86, tw_1_5⟩ cd_Jx4a65c_add_9ea2d ⟨by decide, by decide⟩ hl.1 (by first | exact Nat.le_of_ble_eq_true rfl | simp [rf_cat, cat_i, cat_l, cat_r]) rfl dX9_begin_76 (fun H locs w1 => ?_)
  have hk14 := kd_keep w (mo_Jx4a65c_add_9ea2d N a10 h x3 e13) hk0 (by decide)
  have w := w1
  exact sb_X9_begin_79 C hz2 N t0 _ _ _ hJ hk14 w hl
def B_X9_begin_68 (N : Nat) (t0 : Nat) (h : Hp) (x3 : Option Nat) (y0 : Option Nat) (y1 : Int32) : Option (Hp × Int32) := dr h 10 y0 (fun a15 => (J_X7_waitFor N a15 h y1).bind (fun z => B_X9_begin_71 N t0 z.1 x3))
theorem mb_X9_begin_68 (N : Nat) (t0 : Nat) (h : Hp) (x3 : Option Nat) (y0 : Option Nat) (y1 : Int32) (hJ : B_X9_begin_68 N t0 h x3 y0 y1 = some (hz, rz)) : Mo h hz := by
  unfold B_X9_begin_68 at hJ
  obtain ⟨a15, ea15, -, hJ⟩ := dr_some hJ
  obtain ⟨⟨h16, r17⟩, e18, hJ⟩ := ob_some hJ
  exact (mo_X7_waitFor N a15 h y1 e18).tr (mb_X9_begin_71 N t0 _ _ hJ)
set_option maxRecDepth 100000 in
set_option maxHeartbeats 4000000 in
theorem sb_X9_begin_68 (C : Cx p s m args meth c cX9_begin 4 (some .int) RX9 D cs A h0.se) (hz2 : hz.nx ≤ h0.nx + mc ∧ hz.su ≤ h0.su + ms) (N : Nat) (t0 : Nat) (h : Hp) (x3 : Option Nat) (y0 : Option Nat) (y1 : Int32) (hJ : B_X9_begin_68 N t0 h x3 y0 y1 = some (hz, rz)) (hk0 : h.kd t0 = 12) {H : Heap} {locs : List Loc} {cells slots : Nat} (w : Wo D cs A s h0 h H locs cells slots) {ls : Array Slot} (hl : lv_has ls 4 [(0, .ref t0), (3, va_rf x3)]) : W p l e { frames := 7, cells := mc, slots := ms, locals := 230 } s m args below meth c H locs cells slots (MQ below (Zi D cs A hz rz) args s mc ms A) (F0 m 68 ls [.int y1, va_rf y0]) := by
  obtain ⟨hx, hb, hml, hown, hts, -⟩ := id C
  unfold B_X9_begin_68 at hJ
  obtain ⟨a15, ea15, hka15, hJ⟩ := dr_some hJ
  rw [ea15]
  obtain ⟨⟨h16, r17⟩, e18, hJ⟩ := ob_some hJ
  refine jc_Vv (As := [.int y1]) C w (cc_X7_waitFor N a15 h y1 hka15 e18) (mo_X7_waitFor N a15 h y1 e18) (mb_X9_begin_71 N t0 _ _ hJ) hz2 hka15 (by decide) rfl (fs := fs10 h a15) rfl rfl ⟨tw_2_79, tw_2_76, tw_2_77, tw_2_78, tw_1_9⟩ cd_X7_waitFor ⟨by decide, by decide⟩ hl.1 (by first | exact Nat.le_of_ble_eq_true rfl | simp [rf_cat, cat_i, cat_l, cat_r]) rfl dX9_begin_68 (fun H locs w1 => ?_)
  have hk19 := kd_keep w (mo_X7_waitFor N a15 h y1 e18) hk0 (by decide)
  have w := w1
  exact sb_X9_begin_71 C hz2 N t0 _ _ hJ hk19 w hl
def B_X9_begin_58 (N : Nat) (t0 : Nat) (h : Hp) (x1 : Int32) (y0 : Option Nat) : Option (Hp × Int32) := if x1 = 0 then (B_X9_begin_71 N t0 h y0) else ((J_X9_activeReadWrite N t0 h).bind (fun z => B_X9_begin_68 N t0 z.1 y0 y0 z.2))
theorem mb_X9_begin_58 (N : Nat) (t0 : Nat) (h : Hp) (x1 : Int32) (y0 : Option Nat) (hJ : B_X9_begin_58 N t0 h x1 y0 = some (hz, rz)) : Mo h hz := by
  unfold B_X9_begin_58 at hJ
  by_cases c20 : x1 = 0
  · have hJ := it_pos c20 hJ
    exact mb_X9_begin_71 N t0 _ _ hJ
  · have hJ := it_neg c20 hJ
    obtain ⟨⟨h21, r22⟩, e23, hJ⟩ := ob_some hJ
    exact (mo_X9_activeReadWrite N t0 h e23).tr (mb_X9_begin_68 N t0 _ _ _ _ hJ)
set_option maxRecDepth 100000 in
set_option maxHeartbeats 4000000 in
theorem sb_X9_begin_58 (C : Cx p s m args meth c cX9_begin 4 (some .int) RX9 D cs A h0.se) (hz2 : hz.nx ≤ h0.nx + mc ∧ hz.su ≤ h0.su + ms) (N : Nat) (t0 : Nat) (h : Hp) (x1 : Int32) (y0 : Option Nat) (hJ : B_X9_begin_58 N t0 h x1 y0 = some (hz, rz)) (hk0 : h.kd t0 = 12) {H : Heap} {locs : List Loc} {cells slots : Nat} (w : Wo D cs A s h0 h H locs cells slots) {ls : Array Slot} (hl : lv_has ls 4 [(0, .ref t0), (1, .int x1)]) : W p l e { frames := 7, cells := mc, slots := ms, locals := 230 } s m args below meth c H locs cells slots (MQ below (Zi D cs A hz rz) args s mc ms A) (F0 m 58 ls [va_rf y0]) := by
  obtain ⟨hx, hb, hml, hown, hts, -⟩ := id C
  unfold B_X9_begin_58 at hJ
  refine jv_astore_n (i := 3) (lv' := [(3, va_rf y0), (0, .ref t0), (1, .int x1)]) hx hb dX9_begin_58 rfl hl (by decide) rfl (fun ls hl => ?_)
  refine lv_iload_n hx hb dX9_begin_59 rfl (lv_at hl 2 rfl) ?_
  refine lv_if_eq (tgt := 71) hx hb dX9_begin_60 (by decide) (fun c20 => ?_) (fun c20 => ?_)
  · have hJ := it_pos c20 hJ
    exact sb_X9_begin_71 C hz2 N t0 _ _ hJ hk0 w (lv_sub (l' := [(0, .ref t0), (3, va_rf y0)]) hl [1, 0] rfl)
  · have hJ := it_neg c20 hJ
    refine jv_aload_n hx hb dX9_begin_63 rfl (lv_at hl 0 rfl) ?_
    refine lv_aload_n hx hb dX9_begin_64 rfl (lv_at hl 1 rfl) ?_
    obtain ⟨⟨h21, r22⟩, e23, hJ⟩ := ob_some hJ
    refine jc_Vi (As := []) C w (cc_X9_activeReadWrite N t0 h hk0 e23) (mo_X9_activeReadWrite N t0 h e23) (mb_X9_begin_68 N t0 _ _ _ _ hJ) hz2 hk0 (by decide) rfl (fs := fs12 h t0) rfl rfl ⟨tw_2_61, tw_2_58, tw_2_60, ts_1, tw_1_1⟩ cd_X9_activeReadWrite ⟨by decide, by decide⟩ hl.1 (by first | exact Nat.le_of_ble_eq_true rfl | simp [rf_cat, cat_i, cat_l, cat_r]) rfl dX9_begin_65 (fun H locs w1 => ?_)
    have hk24 := kd_keep w (mo_X9_activeReadWrite N t0 h e23) hk0 (by decide)
    have w := w1
    exact sb_X9_begin_68 C hz2 N t0 _ _ _ _ hJ hk24 w (lv_sub (l' := [(0, .ref t0), (3, va_rf y0)]) hl [1, 0] rfl)
def B_X9_begin_52 (N : Nat) (t0 : Nat) (h : Hp) (x1 : Int32) (x2 : Option Nat) (y0 : Option Nat) : Option (Hp × Int32) := dr h 10 y0 (fun a25 => (J_X7_init N a25 h x2 x1).bind (fun z => B_X9_begin_58 N t0 z.1 x1 (some a25)))
theorem mb_X9_begin_52 (N : Nat) (t0 : Nat) (h : Hp) (x1 : Int32) (x2 : Option Nat) (y0 : Option Nat) (hJ : B_X9_begin_52 N t0 h x1 x2 y0 = some (hz, rz)) : Mo h hz := by
  unfold B_X9_begin_52 at hJ
  obtain ⟨a25, ea25, -, hJ⟩ := dr_some hJ
  obtain ⟨⟨h26, r27⟩, e28, hJ⟩ := ob_some hJ
  exact (mo_X7_init N a25 h x2 x1 e28).tr (mb_X9_begin_58 N t0 _ _ _ hJ)
set_option maxRecDepth 100000 in
set_option maxHeartbeats 4000000 in
theorem sb_X9_begin_52 (C : Cx p s m args meth c cX9_begin 4 (some .int) RX9 D cs A h0.se) (hz2 : hz.nx ≤ h0.nx + mc ∧ hz.su ≤ h0.su + ms) (N : Nat) (t0 : Nat) (h : Hp) (x1 : Int32) (x2 : Option Nat) (y0 : Option Nat) (hJ : B_X9_begin_52 N t0 h x1 x2 y0 = some (hz, rz)) (hk0 : h.kd t0 = 12) {H : Heap} {locs : List Loc} {cells slots : Nat} (w : Wo D cs A s h0 h H locs cells slots) {ls : Array Slot} (hl : lv_has ls 4 [(0, .ref t0), (1, .int x1), (2, va_rf x2)]) : W p l e { frames := 7, cells := mc, slots := ms, locals := 230 } s m args below meth c H locs cells slots (MQ below (Zi D cs A hz rz) args s mc ms A) (F0 m 52 ls [va_rf y0]) := by
  obtain ⟨hx, hb, hml, hown, hts, -⟩ := id C
  unfold B_X9_begin_52 at hJ
  refine lv_dup hx hb dX9_begin_52 (rf_cat _) ?_
  refine jv_aload_n hx hb dX9_begin_53 rfl (lv_at hl 2 rfl) ?_
  refine lv_iload_n hx hb dX9_begin_54 rfl (lv_at hl 1 rfl) ?_
  obtain ⟨a25, ea25, hka25, hJ⟩ := dr_some hJ
  rw [ea25]
  obtain ⟨⟨h26, r27⟩, e28, hJ⟩ := ob_some hJ
  refine jc_I (As := [va_rf x2, .int x1]) C w (cc_X7_init N a25 h x2 x1 hka25 e28) (mo_X7_init N a25 h x2 x1 e28) (mb_X9_begin_58 N t0 _ _ _ hJ) hz2 tw_1_225 tw_1_223 tw_1_224 tw_1_9 rfl cd_X7_init ⟨by decide, by decide⟩ hl.1 (by first | exact Nat.le_of_ble_eq_true rfl | simp [rf_cat, cat_i, cat_l, cat_r]) rfl dX9_begin_55 (fun H locs w1 => ?_)
  have hk29 := kd_keep w (mo_X7_init N a25 h x2 x1 e28) hk0 (by decide)
  have w := w1
  exact sb_X9_begin_58 C hz2 N t0 _ _ _ hJ hk29 w (lv_sub (l' := [(0, .ref t0), (1, .int x1)]) hl [0, 1] rfl)
def B_X9_begin_48 (N : Nat) (t0 : Nat) (h : Hp) (x1 : Int32) (y0 : Option Nat) : Option (Hp × Int32) := B_X9_begin_52 N t0 (h.new 10 0 11) x1 y0 (some h.nx)
theorem mb_X9_begin_48 (N : Nat) (t0 : Nat) (h : Hp) (x1 : Int32) (y0 : Option Nat) (hJ : B_X9_begin_48 N t0 h x1 y0 = some (hz, rz)) : Mo h hz := by
  unfold B_X9_begin_48 at hJ
  exact (Mo.new h _ _ _).tr (mb_X9_begin_52 N t0 _ _ _ _ hJ)
set_option maxRecDepth 100000 in
set_option maxHeartbeats 4000000 in
theorem sb_X9_begin_48 (C : Cx p s m args meth c cX9_begin 4 (some .int) RX9 D cs A h0.se) (hz2 : hz.nx ≤ h0.nx + mc ∧ hz.su ≤ h0.su + ms) (N : Nat) (t0 : Nat) (h : Hp) (x1 : Int32) (y0 : Option Nat) (hJ : B_X9_begin_48 N t0 h x1 y0 = some (hz, rz)) (hk0 : h.kd t0 = 12) {H : Heap} {locs : List Loc} {cells slots : Nat} (w : Wo D cs A s h0 h H locs cells slots) {ls : Array Slot} (hl : lv_has ls 4 [(0, .ref t0), (1, .int x1)]) : W p l e { frames := 7, cells := mc, slots := ms, locals := 230 } s m args below meth c H locs cells slots (MQ below (Zi D cs A hz rz) args s mc ms A) (F0 m 48 ls [va_rf y0]) := by
  obtain ⟨hx, hb, hml, hown, hts, -⟩ := id C
  unfold B_X9_begin_48 at hJ
  refine jv_astore_n (i := 2) (lv' := [(2, va_rf y0), (0, .ref t0), (1, .int x1)]) hx hb dX9_begin_48 rfl hl (by decide) rfl (fun ls hl => ?_)
  have w0 := w
  refine fn_10 C w (mb_X9_begin_52 N t0 _ _ _ _ hJ) hz2 tw_1_221 dX9_begin_49 (fun H w => ?_)
  have hk30 := kd_new (k := 10) (n := 0) (sl := 11) w0 hk0 (by decide)
  exact sb_X9_begin_52 C hz2 N t0 _ _ _ _ hJ hk30 w (lv_sub (l' := [(0, .ref t0), (1, .int x1), (2, va_rf y0)]) hl [1, 2, 0] rfl)
def B_X9_begin_43 (N : Nat) (t0 : Nat) (h : Hp) (x1 : Int32) (y0 : Option Nat) (y1 : Option Nat) (y2 : Option Nat) (y3 : Int32) (y4 : Int32) : Option (Hp × Int32) := dr h 11 y1 (fun a31 => (J_X8_init N a31 h y2 y3 (y4 + (1 : Int32))).bind (fun z => B_X9_begin_48 N t0 z.1 x1 y0))
theorem mb_X9_begin_43 (N : Nat) (t0 : Nat) (h : Hp) (x1 : Int32) (y0 : Option Nat) (y1 : Option Nat) (y2 : Option Nat) (y3 : Int32) (y4 : Int32) (hJ : B_X9_begin_43 N t0 h x1 y0 y1 y2 y3 y4 = some (hz, rz)) : Mo h hz := by
  unfold B_X9_begin_43 at hJ
  obtain ⟨a31, ea31, -, hJ⟩ := dr_some hJ
  obtain ⟨⟨h32, r33⟩, e34, hJ⟩ := ob_some hJ
  exact (mo_X8_init N a31 h y2 y3 (y4 + (1 : Int32)) e34).tr (mb_X9_begin_48 N t0 _ _ _ hJ)
set_option maxRecDepth 100000 in
set_option maxHeartbeats 4000000 in
theorem sb_X9_begin_43 (C : Cx p s m args meth c cX9_begin 4 (some .int) RX9 D cs A h0.se) (hz2 : hz.nx ≤ h0.nx + mc ∧ hz.su ≤ h0.su + ms) (N : Nat) (t0 : Nat) (h : Hp) (x1 : Int32) (y0 : Option Nat) (y1 : Option Nat) (y2 : Option Nat) (y3 : Int32) (y4 : Int32) (hJ : B_X9_begin_43 N t0 h x1 y0 y1 y2 y3 y4 = some (hz, rz)) (hk0 : h.kd t0 = 12) {H : Heap} {locs : List Loc} {cells slots : Nat} (w : Wo D cs A s h0 h H locs cells slots) {ls : Array Slot} (hl : lv_has ls 4 [(0, .ref t0), (1, .int x1)]) : W p l e { frames := 7, cells := mc, slots := ms, locals := 230 } s m args below meth c H locs cells slots (MQ below (Zi D cs A hz rz) args s mc ms A) (F0 m 43 ls [.int y4, .int y3, va_rf y2, va_rf y1, va_rf y0]) := by
  obtain ⟨hx, hb, hml, hown, hts, -⟩ := id C
  unfold B_X9_begin_43 at hJ
  refine lv_iconst (v := (1 : Int32)) hx hb dX9_begin_43 (by decide) ?_
  refine lv_iadd hx hb dX9_begin_44 ?_
  obtain ⟨a31, ea31, hka31, hJ⟩ := dr_some hJ
  rw [ea31]
  obtain ⟨⟨h32, r33⟩, e34, hJ⟩ := ob_some hJ
  refine jc_I (As := [va_rf y2, .int y3, .int (y4 + (1 : Int32))]) C w (cc_X8_init N a31 h y2 y3 (y4 + (1 : Int32)) hka31 e34) (mo_X8_init N a31 h y2 y3 (y4 + (1 : Int32)) e34) (mb_X9_begin_48 N t0 _ _ _ hJ) hz2 tw_1_191 tw_1_189 tw_1_190 tw_1_8 rfl cd_X8_init ⟨by decide, by decide⟩ hl.1 (by first | exact Nat.le_of_ble_eq_true rfl | simp [rf_cat, cat_i, cat_l, cat_r]) rfl dX9_begin_45 (fun H locs w1 => ?_)
  have hk35 := kd_keep w (mo_X8_init N a31 h y2 y3 (y4 + (1 : Int32)) e34) hk0 (by decide)
  have w := w1
  exact sb_X9_begin_48 C hz2 N t0 _ _ _ hJ hk35 w hl
def B_X9_begin_36 (N : Nat) (t0 : Nat) (h : Hp) (x1 : Int32) (y0 : Option Nat) (y1 : Option Nat) (y2 : Option Nat) (y3 : Int32) : Option (Hp × Int32) := dr h 2 (h.fr 1201 t0) (fun a36 => (J_Jx4a65c_size_8abf5 N a36 h).bind (fun z => B_X9_begin_43 N t0 z.1 x1 y0 y1 y2 y3 z.2))
theorem mb_X9_begin_36 (N : Nat) (t0 : Nat) (h : Hp) (x1 : Int32) (y0 : Option Nat) (y1 : Option Nat) (y2 : Option Nat) (y3 : Int32) (hJ : B_X9_begin_36 N t0 h x1 y0 y1 y2 y3 = some (hz, rz)) : Mo h hz := by
  unfold B_X9_begin_36 at hJ
  obtain ⟨a36, ea36, -, hJ⟩ := dr_some hJ
  obtain ⟨⟨h37, r38⟩, e39, hJ⟩ := ob_some hJ
  exact (mo_Jx4a65c_size_8abf5 N a36 h e39).tr (mb_X9_begin_43 N t0 _ _ _ _ _ _ _ hJ)
set_option maxRecDepth 100000 in
set_option maxHeartbeats 4000000 in
theorem sb_X9_begin_36 (C : Cx p s m args meth c cX9_begin 4 (some .int) RX9 D cs A h0.se) (hz2 : hz.nx ≤ h0.nx + mc ∧ hz.su ≤ h0.su + ms) (N : Nat) (t0 : Nat) (h : Hp) (x1 : Int32) (y0 : Option Nat) (y1 : Option Nat) (y2 : Option Nat) (y3 : Int32) (hJ : B_X9_begin_36 N t0 h x1 y0 y1 y2 y3 = some (hz, rz)) (hk0 : h.kd t0 = 12) {H : Heap} {locs : List Loc} {cells slots : Nat} (w : Wo D cs A s h0 h H locs cells slots) {ls : Array Slot} (hl : lv_has ls 4 [(0, .ref t0), (1, .int x1)]) : W p l e { frames := 7, cells := mc, slots := ms, locals := 230 } s m args below meth c H locs cells slots (MQ below (Zi D cs A hz rz) args s mc ms A) (F0 m 36 ls [.int y3, va_rf y2, va_rf y1, va_rf y0]) := by
  obtain ⟨hx, hb, hml, hown, hts, -⟩ := id C
  unfold B_X9_begin_36 at hJ
  refine lv_aload_n hx hb dX9_begin_36 rfl (lv_at hl 0 rfl) ?_
  refine fg_1201 C w hk0 tw_1_133 dX9_begin_37 ?_
  obtain ⟨a36, ea36, hka36, hJ⟩ := dr_some hJ
  rw [ea36]
  obtain ⟨⟨h37, r38⟩, e39, hJ⟩ := ob_some hJ
  refine jc_Vi (As := []) C w (cc_Jx4a65c_size_8abf5 N a36 h hka36 e39) (mo_Jx4a65c_size_8abf5 N a36 h e39) (mb_X9_begin_43 N t0 _ _ _ _ _ _ _ hJ) hz2 hka36 (by decide) rfl (fs := fs2 h a36) rfl rfl ⟨tw_1_182, tw_1_179, tw_1_180, tw_1_181, tw_1_5⟩ cd_Jx4a65c_size_8abf5 ⟨by decide, by decide⟩ hl.1 (by first | exact Nat.le_of_ble_eq_true rfl | simp [rf_cat, cat_i, cat_l, cat_r]) rfl dX9_begin_40 (fun H locs w1 => ?_)
  have hk40 := kd_keep w (mo_Jx4a65c_size_8abf5 N a36 h e39) hk0 (by decide)
  have w := w1
  exact sb_X9_begin_43 C hz2 N t0 _ _ _ _ _ _ _ hJ hk40 w hl
def B_X9_begin_24 (N : Nat) (t0 : Nat) (h : Hp) (x1 : Int32) (y0 : Option Nat) : Option (Hp × Int32) := dr h 2 (h.fr 1203 t0) (fun a41 => (J_Jx4a65c_size_8abf5 N a41 h).bind (fun z => B_X9_begin_36 N t0 z.1 x1 y0 y0 (h.fr 1200 t0) z.2))
theorem mb_X9_begin_24 (N : Nat) (t0 : Nat) (h : Hp) (x1 : Int32) (y0 : Option Nat) (hJ : B_X9_begin_24 N t0 h x1 y0 = some (hz, rz)) : Mo h hz := by
  unfold B_X9_begin_24 at hJ
  obtain ⟨a41, ea41, -, hJ⟩ := dr_some hJ
  obtain ⟨⟨h42, r43⟩, e44, hJ⟩ := ob_some hJ
  exact (mo_Jx4a65c_size_8abf5 N a41 h e44).tr (mb_X9_begin_36 N t0 _ _ _ _ _ _ hJ)
set_option maxRecDepth 100000 in
set_option maxHeartbeats 4000000 in
theorem sb_X9_begin_24 (C : Cx p s m args meth c cX9_begin 4 (some .int) RX9 D cs A h0.se) (hz2 : hz.nx ≤ h0.nx + mc ∧ hz.su ≤ h0.su + ms) (N : Nat) (t0 : Nat) (h : Hp) (x1 : Int32) (y0 : Option Nat) (hJ : B_X9_begin_24 N t0 h x1 y0 = some (hz, rz)) (hk0 : h.kd t0 = 12) {H : Heap} {locs : List Loc} {cells slots : Nat} (w : Wo D cs A s h0 h H locs cells slots) {ls : Array Slot} (hl : lv_has ls 4 [(0, .ref t0), (1, .int x1)]) : W p l e { frames := 7, cells := mc, slots := ms, locals := 230 } s m args below meth c H locs cells slots (MQ below (Zi D cs A hz rz) args s mc ms A) (F0 m 24 ls [va_rf y0]) := by
  obtain ⟨hx, hb, hml, hown, hts, -⟩ := id C
  unfold B_X9_begin_24 at hJ
  refine lv_dup hx hb dX9_begin_24 (rf_cat _) ?_
  refine lv_aload_n hx hb dX9_begin_25 rfl (lv_at hl 0 rfl) ?_
  refine fg_1200 C w hk0 tw_1_132 dX9_begin_26 ?_
  refine lv_aload_n hx hb dX9_begin_29 rfl (lv_at hl 0 rfl) ?_
  refine fg_1203 C w hk0 tw_1_135 dX9_begin_30 ?_
  obtain ⟨a41, ea41, hka41, hJ⟩ := dr_some hJ
  rw [ea41]
  obtain ⟨⟨h42, r43⟩, e44, hJ⟩ := ob_some hJ
  refine jc_Vi (As := []) C w (cc_Jx4a65c_size_8abf5 N a41 h hka41 e44) (mo_Jx4a65c_size_8abf5 N a41 h e44) (mb_X9_begin_36 N t0 _ _ _ _ _ _ hJ) hz2 hka41 (by decide) rfl (fs := fs2 h a41) rfl rfl ⟨tw_1_182, tw_1_179, tw_1_180, tw_1_181, tw_1_5⟩ cd_Jx4a65c_size_8abf5 ⟨by decide, by decide⟩ hl.1 (by first | exact Nat.le_of_ble_eq_true rfl | simp [rf_cat, cat_i, cat_l, cat_r]) rfl dX9_begin_33 (fun H locs w1 => ?_)
  have hk45 := kd_keep w (mo_Jx4a65c_size_8abf5 N a41 h e44) hk0 (by decide)
  have w := w1
  exact sb_X9_begin_36 C hz2 N t0 _ _ _ _ _ _ hJ hk45 w hl
def B_X9_begin_16 (N : Nat) (t0 : Nat) (h : Hp) (x1 : Int32) (y0 : Int32) : Option (Hp × Int32) := if y0 = 0 then (B_X9_begin_19 N t0 h) else (B_X9_begin_24 N t0 (h.new 11 0 7) x1 (some h.nx))
theorem mb_X9_begin_16 (N : Nat) (t0 : Nat) (h : Hp) (x1 : Int32) (y0 : Int32) (hJ : B_X9_begin_16 N t0 h x1 y0 = some (hz, rz)) : Mo h hz := by
  unfold B_X9_begin_16 at hJ
  by_cases c46 : y0 = 0
  · have hJ := it_pos c46 hJ
    exact mb_X9_begin_19 N t0 _ hJ
  · have hJ := it_neg c46 hJ
    exact (Mo.new h _ _ _).tr (mb_X9_begin_24 N t0 _ _ _ hJ)
set_option maxRecDepth 100000 in
set_option maxHeartbeats 4000000 in
theorem sb_X9_begin_16 (C : Cx p s m args meth c cX9_begin 4 (some .int) RX9 D cs A h0.se) (hz2 : hz.nx ≤ h0.nx + mc ∧ hz.su ≤ h0.su + ms) (N : Nat) (t0 : Nat) (h : Hp) (x1 : Int32) (y0 : Int32) (hJ : B_X9_begin_16 N t0 h x1 y0 = some (hz, rz)) (hk0 : h.kd t0 = 12) {H : Heap} {locs : List Loc} {cells slots : Nat} (w : Wo D cs A s h0 h H locs cells slots) {ls : Array Slot} (hl : lv_has ls 4 [(0, .ref t0), (1, .int x1)]) : W p l e { frames := 7, cells := mc, slots := ms, locals := 230 } s m args below meth c H locs cells slots (MQ below (Zi D cs A hz rz) args s mc ms A) (F0 m 16 ls [.int y0]) := by
  obtain ⟨hx, hb, hml, hown, hts, -⟩ := id C
  unfold B_X9_begin_16 at hJ
  refine lv_if_ne (tgt := 21) hx hb dX9_begin_16 (by decide) (fun c46 => ?_) (fun c46 => ?_)
  · have hJ := it_neg c46 hJ
    have w0 := w
    refine fn_11 C w (mb_X9_begin_24 N t0 _ _ _ hJ) hz2 tw_1_187 dX9_begin_21 (fun H w => ?_)
    have hk47 := kd_new (k := 11) (n := 0) (sl := 7) w0 hk0 (by decide)
    exact sb_X9_begin_24 C hz2 N t0 _ _ _ hJ hk47 w hl
  · have hJ := it_pos c46 hJ
    exact sb_X9_begin_19 C hz2 N t0 _ hJ hk0 w (lv_sub (l' := [(0, .ref t0)]) hl [0] rfl)
def B_X9_begin_7 (N : Nat) (t0 : Nat) (h : Hp) (x1 : Int32) (y0 : Int32) : Option (Hp × Int32) := if (24 : Int32) ≤ y0 then (B_X9_begin_19 N t0 h) else ((J_X9_takeRecord N t0 h).bind (fun z => B_X9_begin_16 N t0 z.1 x1 z.2))
theorem mb_X9_begin_7 (N : Nat) (t0 : Nat) (h : Hp) (x1 : Int32) (y0 : Int32) (hJ : B_X9_begin_7 N t0 h x1 y0 = some (hz, rz)) : Mo h hz := by
  unfold B_X9_begin_7 at hJ
  by_cases c48 : (24 : Int32) ≤ y0
  · have hJ := it_pos c48 hJ
    exact mb_X9_begin_19 N t0 _ hJ
  · have hJ := it_neg c48 hJ
    obtain ⟨⟨h49, r50⟩, e51, hJ⟩ := ob_some hJ
    exact (mo_X9_takeRecord N t0 h e51).tr (mb_X9_begin_16 N t0 _ _ _ hJ)
set_option maxRecDepth 100000 in
set_option maxHeartbeats 4000000 in
theorem sb_X9_begin_7 (C : Cx p s m args meth c cX9_begin 4 (some .int) RX9 D cs A h0.se) (hz2 : hz.nx ≤ h0.nx + mc ∧ hz.su ≤ h0.su + ms) (N : Nat) (t0 : Nat) (h : Hp) (x1 : Int32) (y0 : Int32) (hJ : B_X9_begin_7 N t0 h x1 y0 = some (hz, rz)) (hk0 : h.kd t0 = 12) {H : Heap} {locs : List Loc} {cells slots : Nat} (w : Wo D cs A s h0 h H locs cells slots) {ls : Array Slot} (hl : lv_has ls 4 [(0, .ref t0), (1, .int x1)]) : W p l e { frames := 7, cells := mc, slots := ms, locals := 230 } s m args below meth c H locs cells slots (MQ below (Zi D cs A hz rz) args s mc ms A) (F0 m 7 ls [.int y0]) := by
  obtain ⟨hx, hb, hml, hown, hts, -⟩ := id C
  unfold B_X9_begin_7 at hJ
  refine lv_bipush (v := (24 : Int32)) hx hb dX9_begin_7 (by decide) ?_
  refine lv_icmp_ge (tgt := 19) hx hb dX9_begin_9 (by decide) (fun c48 => ?_) (fun c48 => ?_)
  · have hJ := it_pos c48 hJ
    exact sb_X9_begin_19 C hz2 N t0 _ hJ hk0 w (lv_sub (l' := [(0, .ref t0)]) hl [0] rfl)
  · have hJ := it_neg c48 hJ
    refine lv_aload_n hx hb dX9_begin_12 rfl (lv_at hl 0 rfl) ?_
    obtain ⟨⟨h49, r50⟩, e51, hJ⟩ := ob_some hJ
    refine jc_Vi (As := []) C w (cc_X9_takeRecord N t0 h hk0 e51) (mo_X9_takeRecord N t0 h e51) (mb_X9_begin_16 N t0 _ _ _ hJ) hz2 hk0 (by decide) rfl (fs := fs12 h t0) rfl rfl ⟨tw_1_186, tw_1_183, tw_1_185, ts_0, tw_1_1⟩ cd_X9_takeRecord ⟨by decide, by decide⟩ hl.1 (by first | exact Nat.le_of_ble_eq_true rfl | simp [rf_cat, cat_i, cat_l, cat_r]) rfl dX9_begin_13 (fun H locs w1 => ?_)
    have hk52 := kd_keep w (mo_X9_takeRecord N t0 h e51) hk0 (by decide)
    have w := w1
    exact sb_X9_begin_16 C hz2 N t0 _ _ _ hJ hk52 w hl
def B_X9_begin_0 (N : Nat) (t0 : Nat) (h : Hp) (x1 : Int32) : Option (Hp × Int32) := dr h 2 (h.fr 1202 t0) (fun a53 => (J_Jx4a65c_size_8abf5 N a53 h).bind (fun z => B_X9_begin_7 N t0 z.1 x1 z.2))
theorem mb_X9_begin_0 (N : Nat) (t0 : Nat) (h : Hp) (x1 : Int32) (hJ : B_X9_begin_0 N t0 h x1 = some (hz, rz)) : Mo h hz := by
  unfold B_X9_begin_0 at hJ
  obtain ⟨a53, ea53, -, hJ⟩ := dr_some hJ
  obtain ⟨⟨h54, r55⟩, e56, hJ⟩ := ob_some hJ
  exact (mo_Jx4a65c_size_8abf5 N a53 h e56).tr (mb_X9_begin_7 N t0 _ _ _ hJ)
set_option maxRecDepth 100000 in
set_option maxHeartbeats 4000000 in
theorem sb_X9_begin_0 (C : Cx p s m args meth c cX9_begin 4 (some .int) RX9 D cs A h0.se) (hz2 : hz.nx ≤ h0.nx + mc ∧ hz.su ≤ h0.su + ms) (N : Nat) (t0 : Nat) (h : Hp) (x1 : Int32) (hJ : B_X9_begin_0 N t0 h x1 = some (hz, rz)) (hk0 : h.kd t0 = 12) {H : Heap} {locs : List Loc} {cells slots : Nat} (w : Wo D cs A s h0 h H locs cells slots) {ls : Array Slot} (hl : lv_has ls 4 [(0, .ref t0), (1, .int x1)]) : W p l e { frames := 7, cells := mc, slots := ms, locals := 230 } s m args below meth c H locs cells slots (MQ below (Zi D cs A hz rz) args s mc ms A) (F0 m 0 ls []) := by
  obtain ⟨hx, hb, hml, hown, hts, -⟩ := id C
  unfold B_X9_begin_0 at hJ
  refine lv_aload_n hx hb dX9_begin_0 rfl (lv_at hl 0 rfl) ?_
  refine fg_1202 C w hk0 tw_1_134 dX9_begin_1 ?_
  obtain ⟨a53, ea53, hka53, hJ⟩ := dr_some hJ
  rw [ea53]
  obtain ⟨⟨h54, r55⟩, e56, hJ⟩ := ob_some hJ
  refine jc_Vi (As := []) C w (cc_Jx4a65c_size_8abf5 N a53 h hka53 e56) (mo_Jx4a65c_size_8abf5 N a53 h e56) (mb_X9_begin_7 N t0 _ _ _ hJ) hz2 hka53 (by decide) rfl (fs := fs2 h a53) rfl rfl ⟨tw_1_182, tw_1_179, tw_1_180, tw_1_181, tw_1_5⟩ cd_Jx4a65c_size_8abf5 ⟨by decide, by decide⟩ hl.1 (by first | exact Nat.le_of_ble_eq_true rfl | simp [rf_cat, cat_i, cat_l, cat_r]) rfl dX9_begin_4 (fun H locs w1 => ?_)
  have hk57 := kd_keep w (mo_Jx4a65c_size_8abf5 N a53 h e56) hk0 (by decide)
  have w := w1
  exact sb_X9_begin_7 C hz2 N t0 _ _ _ hJ hk57 w hl
def J_X9_begin (N : Nat) (t0 : Nat) (h : Hp) (x1 : Int32) : Option (Hp × Int32) := B_X9_begin_0 N t0 h x1
theorem mo_X9_begin (N : Nat) (t0 : Nat) (h : Hp) (x1 : Int32) (hJ : J_X9_begin N t0 h x1 = some (hz, rz)) : Mo h hz := mb_X9_begin_0 N t0 h x1 hJ
theorem cd_X9_begin : Cd yX9_begin 1 := ⟨by decide +kernel, by decide +kernel, by decide +kernel⟩
theorem cc_X9_begin (N : Nat) (t0 : Nat) (h : Hp) (x1 : Int32) (hk0 : h.kd t0 = 12) (hJ : J_X9_begin N t0 h x1 = some (hz, rz)) : Ci l yX9_begin cX9_begin 4 (some .int) 7 230 D cs h hz [.ref t0, .int x1] rz := by
  intro mc ms g1 g2
  refine je_any (by decide) (by simp [lg_sl, rf_cat, cat_i, cat_l, cat_r]) ?_
  intro p e s m args below meth c C hin2 w ls hl
  have hl : lv_has ls 4 [(0, .ref t0), (1, .int x1)] := hl
  exact sb_X9_begin_0 C ⟨g1, g2⟩ N t0 h x1 hJ hk0 w hl
end G_X9_begin
section G_X9_value
variable {p : Program} {l : Launch} {e : Env} {s : State} {m : MethodId} {args : Array Value} {below : List Frame} {meth : Method} {c : Code} {D : va_G} {cs : C4} {A : Nat → Prop} {h0 hz : Hp} {mc ms : Nat} {rz : Int64}
def B_X9_value_0 (N : Nat) (t0 : Nat) (h : Hp) : Option (Hp × Int64) := some (h, h.fl 1210 t0)
theorem mb_X9_value_0 (N : Nat) (t0 : Nat) (h : Hp) (hJ : B_X9_value_0 N t0 h = some (hz, rz)) : Mo h hz := by
  unfold B_X9_value_0 at hJ
  obtain ⟨rfl, -⟩ := rs2 hJ
  exact ⟨fun _ _ => rfl, Nat.le_refl _, Nat.le_refl _, rfl, fun _ _ => rfl⟩
set_option maxRecDepth 100000 in
set_option maxHeartbeats 4000000 in
theorem sb_X9_value_0 (C : Cx p s m args meth c cX9_value 1 (some .long) RX9 D cs A h0.se) (hz2 : hz.nx ≤ h0.nx + mc ∧ hz.su ≤ h0.su + ms) (N : Nat) (t0 : Nat) (h : Hp) (hJ : B_X9_value_0 N t0 h = some (hz, rz)) (hk0 : h.kd t0 = 12) {H : Heap} {locs : List Loc} {cells slots : Nat} (w : Wo D cs A s h0 h H locs cells slots) {ls : Array Slot} (hl : lv_has ls 1 [(0, .ref t0)]) : W p l e { frames := 0, cells := mc, slots := ms, locals := 0 } s m args below meth c H locs cells slots (MQ below (Zl D cs A hz rz) args s mc ms A) (F0 m 0 ls []) := by
  obtain ⟨hx, hb, hml, hown, hts, -⟩ := id C
  unfold B_X9_value_0 at hJ
  refine lv_aload_n hx hb dX9_value_0 rfl (lv_at hl 0 rfl) ?_
  refine fg_1210 C w hk0 tw_1_142 dX9_value_1 ?_
  obtain ⟨rfl, rfl⟩ := rs2 hJ
  exact jr_lret C w hz2 dX9_value_4
def J_X9_value (N : Nat) (t0 : Nat) (h : Hp) : Option (Hp × Int64) := B_X9_value_0 N t0 h
theorem mo_X9_value (N : Nat) (t0 : Nat) (h : Hp) (hJ : J_X9_value N t0 h = some (hz, rz)) : Mo h hz := mb_X9_value_0 N t0 h hJ
theorem cd_X9_value : Cd yX9_value 0 := ⟨by decide +kernel, by decide +kernel, by decide +kernel⟩
theorem cc_X9_value (N : Nat) (t0 : Nat) (h : Hp) (hk0 : h.kd t0 = 12) (hJ : J_X9_value N t0 h = some (hz, rz)) : Cl l yX9_value cX9_value 1 (some .long) 0 0 D cs h hz [.ref t0] rz := by
  intro mc ms g1 g2
  refine je_any (by decide) (by simp [lg_sl, rf_cat, cat_i, cat_l, cat_r]) ?_
  intro p e s m args below meth c C hin2 w ls hl
  have hl : lv_has ls 1 [(0, .ref t0)] := hl
  exact sb_X9_value_0 C ⟨g1, g2⟩ N t0 h hJ hk0 w hl
end G_X9_value
section G_X9_key
variable {p : Program} {l : Launch} {e : Env} {s : State} {m : MethodId} {args : Array Value} {below : List Frame} {meth : Method} {c : Code} {D : va_G} {cs : C4} {A : Nat → Prop} {h0 hz : Hp} {mc ms : Nat} {rz : Int32}
def B_X9_key_0 (N : Nat) (t0 : Nat) (h : Hp) : Option (Hp × Int32) := some (h, h.fi 1209 t0)
theorem mb_X9_key_0 (N : Nat) (t0 : Nat) (h : Hp) (hJ : B_X9_key_0 N t0 h = some (hz, rz)) : Mo h hz := by
  unfold B_X9_key_0 at hJ
  obtain ⟨rfl, -⟩ := rs2 hJ
  exact ⟨fun _ _ => rfl, Nat.le_refl _, Nat.le_refl _, rfl, fun _ _ => rfl⟩
set_option maxRecDepth 100000 in
set_option maxHeartbeats 4000000 in
theorem sb_X9_key_0 (C : Cx p s m args meth c cX9_key 1 (some .int) RX9 D cs A h0.se) (hz2 : hz.nx ≤ h0.nx + mc ∧ hz.su ≤ h0.su + ms) (N : Nat) (t0 : Nat) (h : Hp) (hJ : B_X9_key_0 N t0 h = some (hz, rz)) (hk0 : h.kd t0 = 12) {H : Heap} {locs : List Loc} {cells slots : Nat} (w : Wo D cs A s h0 h H locs cells slots) {ls : Array Slot} (hl : lv_has ls 1 [(0, .ref t0)]) : W p l e { frames := 0, cells := mc, slots := ms, locals := 0 } s m args below meth c H locs cells slots (MQ below (Zi D cs A hz rz) args s mc ms A) (F0 m 0 ls []) := by
  obtain ⟨hx, hb, hml, hown, hts, -⟩ := id C
  unfold B_X9_key_0 at hJ
  refine lv_aload_n hx hb dX9_key_0 rfl (lv_at hl 0 rfl) ?_
  refine fg_1209 C w hk0 tw_1_141 dX9_key_1 ?_
  obtain ⟨rfl, rfl⟩ := rs2 hJ
  exact jr_iret C w hz2 dX9_key_4
def J_X9_key (N : Nat) (t0 : Nat) (h : Hp) : Option (Hp × Int32) := B_X9_key_0 N t0 h
theorem mo_X9_key (N : Nat) (t0 : Nat) (h : Hp) (hJ : J_X9_key N t0 h = some (hz, rz)) : Mo h hz := mb_X9_key_0 N t0 h hJ
theorem cd_X9_key : Cd yX9_key 0 := ⟨by decide +kernel, by decide +kernel, by decide +kernel⟩
theorem cc_X9_key (N : Nat) (t0 : Nat) (h : Hp) (hk0 : h.kd t0 = 12) (hJ : J_X9_key N t0 h = some (hz, rz)) : Ci l yX9_key cX9_key 1 (some .int) 0 0 D cs h hz [.ref t0] rz := by
  intro mc ms g1 g2
  refine je_any (by decide) (by simp [lg_sl, rf_cat, cat_i, cat_l, cat_r]) ?_
  intro p e s m args below meth c C hin2 w ls hl
  have hl : lv_has ls 1 [(0, .ref t0)] := hl
  exact sb_X9_key_0 C ⟨g1, g2⟩ N t0 h hJ hk0 w hl
end G_X9_key
section G_X9_horizon
variable {p : Program} {l : Launch} {e : Env} {s : State} {m : MethodId} {args : Array Value} {below : List Frame} {meth : Method} {c : Code} {D : va_G} {cs : C4} {A : Nat → Prop} {h0 hz : Hp} {mc ms : Nat} {rz : Int32}
def B_X9_horizon_34 (N : Nat) (t0 : Nat) (h : Hp) (y0 : Int32) : Option (Hp × Int32) := some (h, y0)
theorem mb_X9_horizon_34 (N : Nat) (t0 : Nat) (h : Hp) (y0 : Int32) (hJ : B_X9_horizon_34 N t0 h y0 = some (hz, rz)) : Mo h hz := by
  unfold B_X9_horizon_34 at hJ
  obtain ⟨rfl, -⟩ := rs2 hJ
  exact ⟨fun _ _ => rfl, Nat.le_refl _, Nat.le_refl _, rfl, fun _ _ => rfl⟩
set_option maxRecDepth 100000 in
set_option maxHeartbeats 4000000 in
theorem sb_X9_horizon_34 (C : Cx p s m args meth c cX9_horizon 1 (some .int) RX9 D cs A h0.se) (hz2 : hz.nx ≤ h0.nx + mc ∧ hz.su ≤ h0.su + ms) (N : Nat) (t0 : Nat) (h : Hp) (y0 : Int32) (hJ : B_X9_horizon_34 N t0 h y0 = some (hz, rz)) (hk0 : h.kd t0 = 12) {H : Heap} {locs : List Loc} {cells slots : Nat} (w : Wo D cs A s h0 h H locs cells slots) {ls : Array Slot} (hl : lv_has ls 1 [(0, .ref t0)]) : W p l e { frames := 3, cells := mc, slots := ms, locals := 90 } s m args below meth c H locs cells slots (MQ below (Zi D cs A hz rz) args s mc ms A) (F0 m 34 ls [.int y0]) := by
  obtain ⟨hx, hb, hml, hown, hts, -⟩ := id C
  unfold B_X9_horizon_34 at hJ
  obtain ⟨rfl, rfl⟩ := rs2 hJ
  exact jr_iret C w hz2 dX9_horizon_34
def B_X9_horizon_17 (N : Nat) (t0 : Nat) (h : Hp) (y0 : Int32) : Option (Hp × Int32) := B_X9_horizon_34 N t0 h y0
theorem mb_X9_horizon_17 (N : Nat) (t0 : Nat) (h : Hp) (y0 : Int32) (hJ : B_X9_horizon_17 N t0 h y0 = some (hz, rz)) : Mo h hz := by
  unfold B_X9_horizon_17 at hJ
  exact mb_X9_horizon_34 N t0 _ _ hJ
set_option maxRecDepth 100000 in
set_option maxHeartbeats 4000000 in
theorem sb_X9_horizon_17 (C : Cx p s m args meth c cX9_horizon 1 (some .int) RX9 D cs A h0.se) (hz2 : hz.nx ≤ h0.nx + mc ∧ hz.su ≤ h0.su + ms) (N : Nat) (t0 : Nat) (h : Hp) (y0 : Int32) (hJ : B_X9_horizon_17 N t0 h y0 = some (hz, rz)) (hk0 : h.kd t0 = 12) {H : Heap} {locs : List Loc} {cells slots : Nat} (w : Wo D cs A s h0 h H locs cells slots) {ls : Array Slot} (hl : lv_has ls 1 [(0, .ref t0)]) : W p l e { frames := 3, cells := mc, slots := ms, locals := 90 } s m args below meth c H locs cells slots (MQ below (Zi D cs A hz rz) args s mc ms A) (F0 m 17 ls [.int y0]) := by
  obtain ⟨hx, hb, hml, hown, hts, -⟩ := id C
  unfold B_X9_horizon_17 at hJ
  refine lv_goto (tgt := 34) hx hb dX9_horizon_17 (by decide) ?_
  exact sb_X9_horizon_34 C hz2 N t0 _ _ hJ hk0 w hl
def B_X9_horizon_28 (N : Nat) (t0 : Nat) (h : Hp) (y0 : Option Nat) : Option (Hp × Int32) := dr h 10 y0 (fun a1 => B_X9_horizon_34 N t0 h (h.fi 1001 a1))
theorem mb_X9_horizon_28 (N : Nat) (t0 : Nat) (h : Hp) (y0 : Option Nat) (hJ : B_X9_horizon_28 N t0 h y0 = some (hz, rz)) : Mo h hz := by
  unfold B_X9_horizon_28 at hJ
  obtain ⟨a1, ea1, -, hJ⟩ := dr_some hJ
  exact mb_X9_horizon_34 N t0 _ _ hJ
set_option maxRecDepth 100000 in
set_option maxHeartbeats 4000000 in
theorem sb_X9_horizon_28 (C : Cx p s m args meth c cX9_horizon 1 (some .int) RX9 D cs A h0.se) (hz2 : hz.nx ≤ h0.nx + mc ∧ hz.su ≤ h0.su + ms) (N : Nat) (t0 : Nat) (h : Hp) (y0 : Option Nat) (hJ : B_X9_horizon_28 N t0 h y0 = some (hz, rz)) (hk0 : h.kd t0 = 12) {H : Heap} {locs : List Loc} {cells slots : Nat} (w : Wo D cs A s h0 h H locs cells slots) {ls : Array Slot} (hl : lv_has ls 1 [(0, .ref t0)]) : W p l e { frames := 3, cells := mc, slots := ms, locals := 90 } s m args below meth c H locs cells slots (MQ below (Zi D cs A hz rz) args s mc ms A) (F0 m 28 ls [va_rf y0]) := by
  obtain ⟨hx, hb, hml, hown, hts, -⟩ := id C
  unfold B_X9_horizon_28 at hJ
  obtain ⟨a1, ea1, hka1, hJ⟩ := dr_some hJ
  rw [ea1]
  refine va_castS hx hb hown (hts _ tw_1_221) (C.2.2.2.2.2.1.1 10 _ rfl).2 (recv_at C w hka1 (by decide) rfl (fs := fs10 h a1) rfl) dX9_horizon_28 ?_
  refine fg_1001 C w hka1 tw_2_14 dX9_horizon_31 ?_
  exact sb_X9_horizon_34 C hz2 N t0 _ _ hJ hk0 w hl
def B_X9_horizon_7 (N : Nat) (t0 : Nat) (h : Hp) (y0 : Int32) : Option (Hp × Int32) := if y0 = 0 then (dr h 2 (h.fr 1202 t0) (fun a3 => (J_Jx4a65c_get_915e3 N a3 h (0 : Int32)).bind (fun z => B_X9_horizon_28 N t0 z.1 z.2))) else (dr h 2 (h.fr 1203 t0) (fun a8 => (J_Jx4a65c_size_8abf5 N a8 h).bind (fun z => B_X9_horizon_17 N t0 z.1 z.2)))
theorem mb_X9_horizon_7 (N : Nat) (t0 : Nat) (h : Hp) (y0 : Int32) (hJ : B_X9_horizon_7 N t0 h y0 = some (hz, rz)) : Mo h hz := by
  unfold B_X9_horizon_7 at hJ
  by_cases c2 : y0 = 0
  · have hJ := it_pos c2 hJ
    obtain ⟨a3, ea3, -, hJ⟩ := dr_some hJ
    obtain ⟨⟨h4, r5⟩, e6, hJ⟩ := ob_some hJ
    exact (mo_Jx4a65c_get_915e3 N a3 h (0 : Int32) e6).tr (mb_X9_horizon_28 N t0 _ _ hJ)
  · have hJ := it_neg c2 hJ
    obtain ⟨a8, ea8, -, hJ⟩ := dr_some hJ
    obtain ⟨⟨h9, r10⟩, e11, hJ⟩ := ob_some hJ
    exact (mo_Jx4a65c_size_8abf5 N a8 h e11).tr (mb_X9_horizon_17 N t0 _ _ hJ)
set_option maxRecDepth 100000 in
set_option maxHeartbeats 4000000 in
theorem sb_X9_horizon_7 (C : Cx p s m args meth c cX9_horizon 1 (some .int) RX9 D cs A h0.se) (hz2 : hz.nx ≤ h0.nx + mc ∧ hz.su ≤ h0.su + ms) (N : Nat) (t0 : Nat) (h : Hp) (y0 : Int32) (hJ : B_X9_horizon_7 N t0 h y0 = some (hz, rz)) (hk0 : h.kd t0 = 12) {H : Heap} {locs : List Loc} {cells slots : Nat} (w : Wo D cs A s h0 h H locs cells slots) {ls : Array Slot} (hl : lv_has ls 1 [(0, .ref t0)]) : W p l e { frames := 3, cells := mc, slots := ms, locals := 90 } s m args below meth c H locs cells slots (MQ below (Zi D cs A hz rz) args s mc ms A) (F0 m 7 ls [.int y0]) := by
  obtain ⟨hx, hb, hml, hown, hts, -⟩ := id C
  unfold B_X9_horizon_7 at hJ
  refine lv_if_eq (tgt := 20) hx hb dX9_horizon_7 (by decide) (fun c2 => ?_) (fun c2 => ?_)
  · have hJ := it_pos c2 hJ
    refine lv_aload_n hx hb dX9_horizon_20 rfl (lv_at hl 0 rfl) ?_
    refine fg_1202 C w hk0 tw_1_134 dX9_horizon_21 ?_
    refine lv_iconst (v := (0 : Int32)) hx hb dX9_horizon_24 (by decide) ?_
    obtain ⟨a3, ea3, hka3, hJ⟩ := dr_some hJ
    rw [ea3]
    obtain ⟨⟨h4, r5⟩, e6, hJ⟩ := ob_some hJ
    refine jc_Vq (As := [.int (0 : Int32)]) C w (cc_Jx4a65c_get_915e3 N a3 h (0 : Int32) hka3 e6) (mo_Jx4a65c_get_915e3 N a3 h (0 : Int32) e6) (mb_X9_horizon_28 N t0 _ _ hJ) hz2 hka3 (by decide) rfl (fs := fs2 h a3) rfl rfl ⟨tw_2_65, tw_2_62, tw_2_63, tw_2_64, tw_1_5⟩ cd_Jx4a65c_get_915e3 ⟨by decide, by decide⟩ hl.1 (by first | exact Nat.le_of_ble_eq_true rfl | simp [rf_cat, cat_i, cat_l, cat_r]) rfl dX9_horizon_25 (fun H locs w1 => ?_)
    have hk7 := kd_keep w (mo_Jx4a65c_get_915e3 N a3 h (0 : Int32) e6) hk0 (by decide)
    have w := w1
    exact sb_X9_horizon_28 C hz2 N t0 _ _ hJ hk7 w hl
  · have hJ := it_neg c2 hJ
    refine lv_aload_n hx hb dX9_horizon_10 rfl (lv_at hl 0 rfl) ?_
    refine fg_1203 C w hk0 tw_1_135 dX9_horizon_11 ?_
    obtain ⟨a8, ea8, hka8, hJ⟩ := dr_some hJ
    rw [ea8]
    obtain ⟨⟨h9, r10⟩, e11, hJ⟩ := ob_some hJ
    refine jc_Vi (As := []) C w (cc_Jx4a65c_size_8abf5 N a8 h hka8 e11) (mo_Jx4a65c_size_8abf5 N a8 h e11) (mb_X9_horizon_17 N t0 _ _ hJ) hz2 hka8 (by decide) rfl (fs := fs2 h a8) rfl rfl ⟨tw_1_182, tw_1_179, tw_1_180, tw_1_181, tw_1_5⟩ cd_Jx4a65c_size_8abf5 ⟨by decide, by decide⟩ hl.1 (by first | exact Nat.le_of_ble_eq_true rfl | simp [rf_cat, cat_i, cat_l, cat_r]) rfl dX9_horizon_14 (fun H locs w1 => ?_)
    have hk12 := kd_keep w (mo_Jx4a65c_size_8abf5 N a8 h e11) hk0 (by decide)
    have w := w1
    exact sb_X9_horizon_17 C hz2 N t0 _ _ hJ hk12 w hl
def B_X9_horizon_0 (N : Nat) (t0 : Nat) (h : Hp) : Option (Hp × Int32) := dr h 2 (h.fr 1202 t0) (fun a13 => (J_Jx4a65c_isEmpty_aae02 N a13 h).bind (fun z => B_X9_horizon_7 N t0 z.1 z.2))
theorem mb_X9_horizon_0 (N : Nat) (t0 : Nat) (h : Hp) (hJ : B_X9_horizon_0 N t0 h = some (hz, rz)) : Mo h hz := by
  unfold B_X9_horizon_0 at hJ
  obtain ⟨a13, ea13, -, hJ⟩ := dr_some hJ
  obtain ⟨⟨h14, r15⟩, e16, hJ⟩ := ob_some hJ
  exact (mo_Jx4a65c_isEmpty_aae02 N a13 h e16).tr (mb_X9_horizon_7 N t0 _ _ hJ)
set_option maxRecDepth 100000 in
set_option maxHeartbeats 4000000 in
theorem sb_X9_horizon_0 (C : Cx p s m args meth c cX9_horizon 1 (some .int) RX9 D cs A h0.se) (hz2 : hz.nx ≤ h0.nx + mc ∧ hz.su ≤ h0.su + ms) (N : Nat) (t0 : Nat) (h : Hp) (hJ : B_X9_horizon_0 N t0 h = some (hz, rz)) (hk0 : h.kd t0 = 12) {H : Heap} {locs : List Loc} {cells slots : Nat} (w : Wo D cs A s h0 h H locs cells slots) {ls : Array Slot} (hl : lv_has ls 1 [(0, .ref t0)]) : W p l e { frames := 3, cells := mc, slots := ms, locals := 90 } s m args below meth c H locs cells slots (MQ below (Zi D cs A hz rz) args s mc ms A) (F0 m 0 ls []) := by
  obtain ⟨hx, hb, hml, hown, hts, -⟩ := id C
  unfold B_X9_horizon_0 at hJ
  refine lv_aload_n hx hb dX9_horizon_0 rfl (lv_at hl 0 rfl) ?_
  refine fg_1202 C w hk0 tw_1_134 dX9_horizon_1 ?_
  obtain ⟨a13, ea13, hka13, hJ⟩ := dr_some hJ
  rw [ea13]
  obtain ⟨⟨h14, r15⟩, e16, hJ⟩ := ob_some hJ
  refine jc_Vi (As := []) C w (cc_Jx4a65c_isEmpty_aae02 N a13 h hka13 e16) (mo_Jx4a65c_isEmpty_aae02 N a13 h e16) (mb_X9_horizon_7 N t0 _ _ hJ) hz2 hka13 (by decide) rfl (fs := fs2 h a13) rfl rfl ⟨tw_2_177, tw_2_174, tw_2_175, tw_2_176, tw_1_5⟩ cd_Jx4a65c_isEmpty_aae02 ⟨by decide, by decide⟩ hl.1 (by first | exact Nat.le_of_ble_eq_true rfl | simp [rf_cat, cat_i, cat_l, cat_r]) rfl dX9_horizon_4 (fun H locs w1 => ?_)
  have hk17 := kd_keep w (mo_Jx4a65c_isEmpty_aae02 N a13 h e16) hk0 (by decide)
  have w := w1
  exact sb_X9_horizon_7 C hz2 N t0 _ _ hJ hk17 w hl
def J_X9_horizon (N : Nat) (t0 : Nat) (h : Hp) : Option (Hp × Int32) := B_X9_horizon_0 N t0 h
theorem mo_X9_horizon (N : Nat) (t0 : Nat) (h : Hp) (hJ : J_X9_horizon N t0 h = some (hz, rz)) : Mo h hz := mb_X9_horizon_0 N t0 h hJ
theorem cd_X9_horizon : Cd yX9_horizon 0 := ⟨by decide +kernel, by decide +kernel, by decide +kernel⟩
theorem cc_X9_horizon (N : Nat) (t0 : Nat) (h : Hp) (hk0 : h.kd t0 = 12) (hJ : J_X9_horizon N t0 h = some (hz, rz)) : Ci l yX9_horizon cX9_horizon 1 (some .int) 3 90 D cs h hz [.ref t0] rz := by
  intro mc ms g1 g2
  refine je_any (by decide) (by simp [lg_sl, rf_cat, cat_i, cat_l, cat_r]) ?_
  intro p e s m args below meth c C hin2 w ls hl
  have hl : lv_has ls 1 [(0, .ref t0)] := hl
  exact sb_X9_horizon_0 C ⟨g1, g2⟩ N t0 h hJ hk0 w hl
end G_X9_horizon
section G_X9_isKept
variable {p : Program} {l : Launch} {e : Env} {s : State} {m : MethodId} {args : Array Value} {below : List Frame} {meth : Method} {c : Code} {D : va_G} {cs : C4} {A : Nat → Prop} {h0 hz : Hp} {mc ms : Nat} {rz : Int32}
def B_X9_isKept_24 (N : Nat) (t0 : Nat) (h : Hp) (y0 : Int32) : Option (Hp × Int32) := ck (y0 = 0 ∨ y0 = 1) (some (h, y0))
theorem mb_X9_isKept_24 (N : Nat) (t0 : Nat) (h : Hp) (y0 : Int32) (hJ : B_X9_isKept_24 N t0 h y0 = some (hz, rz)) : Mo h hz := by
  unfold B_X9_isKept_24 at hJ
  obtain ⟨-, hJ⟩ := ck_some hJ
  obtain ⟨rfl, -⟩ := rs2 hJ
  exact ⟨fun _ _ => rfl, Nat.le_refl _, Nat.le_refl _, rfl, fun _ _ => rfl⟩
set_option maxRecDepth 100000 in
set_option maxHeartbeats 4000000 in
theorem sb_X9_isKept_24 (C : Cx p s m args meth c cX9_isKept 2 (some .boolean) RX9 D cs A h0.se) (hz2 : hz.nx ≤ h0.nx + mc ∧ hz.su ≤ h0.su + ms) (N : Nat) (t0 : Nat) (h : Hp) (y0 : Int32) (hJ : B_X9_isKept_24 N t0 h y0 = some (hz, rz)) (hk0 : h.kd t0 = 12) {H : Heap} {locs : List Loc} {cells slots : Nat} (w : Wo D cs A s h0 h H locs cells slots) {ls : Array Slot} (hl : lv_has ls 2 [(0, .ref t0)]) : W p l e { frames := 4, cells := mc, slots := ms, locals := 110 } s m args below meth c H locs cells slots (MQ below (Zi D cs A hz rz) args s mc ms A) (F0 m 24 ls [.int y0]) := by
  obtain ⟨hx, hb, hml, hown, hts, -⟩ := id C
  unfold B_X9_isKept_24 at hJ
  obtain ⟨hzo1, hJ⟩ := ck_some hJ
  obtain ⟨rfl, rfl⟩ := rs2 hJ
  exact jr_zret C w hzo1 hz2 dX9_isKept_24
def B_X9_isKept_23 (N : Nat) (t0 : Nat) (h : Hp) : Option (Hp × Int32) := B_X9_isKept_24 N t0 h (0 : Int32)
theorem mb_X9_isKept_23 (N : Nat) (t0 : Nat) (h : Hp) (hJ : B_X9_isKept_23 N t0 h = some (hz, rz)) : Mo h hz := by
  unfold B_X9_isKept_23 at hJ
  exact mb_X9_isKept_24 N t0 _ _ hJ
set_option maxRecDepth 100000 in
set_option maxHeartbeats 4000000 in
theorem sb_X9_isKept_23 (C : Cx p s m args meth c cX9_isKept 2 (some .boolean) RX9 D cs A h0.se) (hz2 : hz.nx ≤ h0.nx + mc ∧ hz.su ≤ h0.su + ms) (N : Nat) (t0 : Nat) (h : Hp) (hJ : B_X9_isKept_23 N t0 h = some (hz, rz)) (hk0 : h.kd t0 = 12) {H : Heap} {locs : List Loc} {cells slots : Nat} (w : Wo D cs A s h0 h H locs cells slots) {ls : Array Slot} (hl : lv_has ls 2 [(0, .ref t0)]) : W p l e { frames := 4, cells := mc, slots := ms, locals := 110 } s m args below meth c H locs cells slots (MQ below (Zi D cs A hz rz) args s mc ms A) (F0 m 23 ls []) := by
  obtain ⟨hx, hb, hml, hown, hts, -⟩ := id C
  unfold B_X9_isKept_23 at hJ
  refine lv_iconst (v := (0 : Int32)) hx hb dX9_isKept_23 (by decide) ?_
  exact sb_X9_isKept_24 C hz2 N t0 _ _ hJ hk0 w hl
def B_X9_isKept_16 (N : Nat) (t0 : Nat) (h : Hp) (y0 : Int32) (y1 : Int32) : Option (Hp × Int32) := if y0 ≤ y1 then (B_X9_isKept_23 N t0 h) else (B_X9_isKept_24 N t0 h (1 : Int32))
theorem mb_X9_isKept_16 (N : Nat) (t0 : Nat) (h : Hp) (y0 : Int32) (y1 : Int32) (hJ : B_X9_isKept_16 N t0 h y0 y1 = some (hz, rz)) : Mo h hz := by
  unfold B_X9_isKept_16 at hJ
  by_cases c2 : y0 ≤ y1
  · have hJ := it_pos c2 hJ
    exact mb_X9_isKept_23 N t0 _ hJ
  · have hJ := it_neg c2 hJ
    exact mb_X9_isKept_24 N t0 _ _ hJ
set_option maxRecDepth 100000 in
set_option maxHeartbeats 4000000 in
theorem sb_X9_isKept_16 (C : Cx p s m args meth c cX9_isKept 2 (some .boolean) RX9 D cs A h0.se) (hz2 : hz.nx ≤ h0.nx + mc ∧ hz.su ≤ h0.su + ms) (N : Nat) (t0 : Nat) (h : Hp) (y0 : Int32) (y1 : Int32) (hJ : B_X9_isKept_16 N t0 h y0 y1 = some (hz, rz)) (hk0 : h.kd t0 = 12) {H : Heap} {locs : List Loc} {cells slots : Nat} (w : Wo D cs A s h0 h H locs cells slots) {ls : Array Slot} (hl : lv_has ls 2 [(0, .ref t0)]) : W p l e { frames := 4, cells := mc, slots := ms, locals := 110 } s m args below meth c H locs cells slots (MQ below (Zi D cs A hz rz) args s mc ms A) (F0 m 16 ls [.int y1, .int y0]) := by
  obtain ⟨hx, hb, hml, hown, hts, -⟩ := id C
  unfold B_X9_isKept_16 at hJ
  refine lv_icmp_le (tgt := 23) hx hb dX9_isKept_16 (by decide) (fun c2 => ?_) (fun c2 => ?_)
  · have hJ := it_pos c2 hJ
    exact sb_X9_isKept_23 C hz2 N t0 _ hJ hk0 w hl
  · have hJ := it_neg c2 hJ
    refine lv_iconst (v := (1 : Int32)) hx hb dX9_isKept_19 (by decide) ?_
    refine lv_goto (tgt := 24) hx hb dX9_isKept_20 (by decide) ?_
    exact sb_X9_isKept_24 C hz2 N t0 _ _ hJ hk0 w hl
def B_X9_isKept_0 (N : Nat) (t0 : Nat) (h : Hp) (x1 : Option Nat) : Option (Hp × Int32) := dr h 10 x1 (fun a3 => if (h.fi 1006 a3) = (2 : Int32) then ((J_X9_horizon N t0 h).bind (fun z => B_X9_isKept_16 N t0 z.1 (h.fi 1007 a3) z.2)) else (B_X9_isKept_23 N t0 h))
theorem mb_X9_isKept_0 (N : Nat) (t0 : Nat) (h : Hp) (x1 : Option Nat) (hJ : B_X9_isKept_0 N t0 h x1 = some (hz, rz)) : Mo h hz := by
  unfold B_X9_isKept_0 at hJ
  obtain ⟨a3, ea3, -, hJ⟩ := dr_some hJ
  by_cases c4 : (h.fi 1006 a3) = (2 : Int32)
  · have hJ := it_pos c4 hJ
    obtain ⟨⟨h5, r6⟩, e7, hJ⟩ := ob_some hJ
    exact (mo_X9_horizon N t0 h e7).tr (mb_X9_isKept_16 N t0 _ _ _ hJ)
  · have hJ := it_neg c4 hJ
    exact mb_X9_isKept_23 N t0 _ hJ
set_option maxRecDepth 100000 in
set_option maxHeartbeats 4000000 in
theorem sb_X9_isKept_0 (C : Cx p s m args meth c cX9_isKept 2 (some .boolean) RX9 D cs A h0.se) (hz2 : hz.nx ≤ h0.nx + mc ∧ hz.su ≤ h0.su + ms) (N : Nat) (t0 : Nat) (h : Hp) (x1 : Option Nat) (hJ : B_X9_isKept_0 N t0 h x1 = some (hz, rz)) (hk0 : h.kd t0 = 12) {H : Heap} {locs : List Loc} {cells slots : Nat} (w : Wo D cs A s h0 h H locs cells slots) {ls : Array Slot} (hl : lv_has ls 2 [(0, .ref t0), (1, va_rf x1)]) : W p l e { frames := 4, cells := mc, slots := ms, locals := 110 } s m args below meth c H locs cells slots (MQ below (Zi D cs A hz rz) args s mc ms A) (F0 m 0 ls []) := by
  obtain ⟨hx, hb, hml, hown, hts, -⟩ := id C
  unfold B_X9_isKept_0 at hJ
  refine jv_aload_n hx hb dX9_isKept_0 rfl (lv_at hl 1 rfl) ?_
  obtain ⟨a3, ea3, hka3, hJ⟩ := dr_some hJ
  rw [ea3] at hl
  rw [ea3]
  refine fg_1006 C w hka3 tw_2_26 dX9_isKept_1 ?_
  refine lv_iconst (v := (2 : Int32)) hx hb dX9_isKept_4 (by decide) ?_
  refine lv_icmp_ne (tgt := 23) hx hb dX9_isKept_5 (by decide) (fun c4 => ?_) (fun c4 => ?_)
  · have hJ := it_neg c4 hJ
    exact sb_X9_isKept_23 C hz2 N t0 _ hJ hk0 w (lv_sub (l' := [(0, .ref t0)]) hl [0] rfl)
  · have hJ := it_pos c4 hJ
    refine lv_aload_n hx hb dX9_isKept_8 rfl (lv_at hl 1 rfl) ?_
    refine fg_1007 C w hka3 tw_2_29 dX9_isKept_9 ?_
    refine lv_aload_n hx hb dX9_isKept_12 rfl (lv_at hl 0 rfl) ?_
    obtain ⟨⟨h5, r6⟩, e7, hJ⟩ := ob_some hJ
    refine jc_Vi (As := []) C w (cc_X9_horizon N t0 h hk0 e7) (mo_X9_horizon N t0 h e7) (mb_X9_isKept_16 N t0 _ _ _ hJ) hz2 hk0 (by decide) rfl (fs := fs12 h t0) rfl rfl ⟨tw_2_173, tw_2_170, tw_2_172, ts_7, tw_1_1⟩ cd_X9_horizon ⟨by decide, by decide⟩ hl.1 (by first | exact Nat.le_of_ble_eq_true rfl | simp [rf_cat, cat_i, cat_l, cat_r]) rfl dX9_isKept_13 (fun H locs w1 => ?_)
    have hk8 := kd_keep w (mo_X9_horizon N t0 h e7) hk0 (by decide)
    have w := w1
    exact sb_X9_isKept_16 C hz2 N t0 _ _ _ hJ hk8 w (lv_sub (l' := [(0, .ref t0)]) hl [0] rfl)
def J_X9_isKept (N : Nat) (t0 : Nat) (h : Hp) (x1 : Option Nat) : Option (Hp × Int32) := B_X9_isKept_0 N t0 h x1
theorem mo_X9_isKept (N : Nat) (t0 : Nat) (h : Hp) (x1 : Option Nat) (hJ : J_X9_isKept N t0 h x1 = some (hz, rz)) : Mo h hz := mb_X9_isKept_0 N t0 h x1 hJ
theorem cd_X9_isKept : Cd yX9_isKept 1 := ⟨by decide +kernel, by decide +kernel, by decide +kernel⟩
theorem cc_X9_isKept (N : Nat) (t0 : Nat) (h : Hp) (x1 : Option Nat) (hk0 : h.kd t0 = 12) (hJ : J_X9_isKept N t0 h x1 = some (hz, rz)) : Ci l yX9_isKept cX9_isKept 2 (some .boolean) 4 110 D cs h hz [.ref t0, va_rf x1] rz := by
  intro mc ms g1 g2
  refine je_any (by decide) (by simp [lg_sl, rf_cat, cat_i, cat_l, cat_r]) ?_
  intro p e s m args below meth c C hin2 w ls hl
  have hl : lv_has ls 2 [(0, .ref t0), (1, va_rf x1)] := by simpa [lv_args, rf_cat, cat_i, cat_l, cat_r] using hl
  exact sb_X9_isKept_0 C ⟨g1, g2⟩ N t0 h x1 hJ hk0 w hl
end G_X9_isKept
section G_X9_numbered
variable {p : Program} {l : Launch} {e : Env} {s : State} {m : MethodId} {args : Array Value} {below : List Frame} {meth : Method} {c : Code} {D : va_G} {cs : C4} {A : Nat → Prop} {h0 hz : Hp} {mc ms : Nat} {rz : Option Nat}
def B_X9_numbered_33 (N : Nat) (t0 : Nat) (h : Hp) (y0 : Option Nat) : Option (Hp × Option Nat) := some (h, y0)
theorem mb_X9_numbered_33 (N : Nat) (t0 : Nat) (h : Hp) (y0 : Option Nat) (hJ : B_X9_numbered_33 N t0 h y0 = some (hz, rz)) : Mo h hz := by
  unfold B_X9_numbered_33 at hJ
  obtain ⟨rfl, -⟩ := rs2 hJ
  exact ⟨fun _ _ => rfl, Nat.le_refl _, Nat.le_refl _, rfl, fun _ _ => rfl⟩
set_option maxRecDepth 100000 in
set_option maxHeartbeats 4000000 in
theorem sb_X9_numbered_33 (C : Cx p s m args meth c cX9_numbered 2 (some (.object "RingKeeper$Transaction")) RX9 D cs A h0.se) (hz2 : hz.nx ≤ h0.nx + mc ∧ hz.su ≤ h0.su + ms) (N : Nat) (t0 : Nat) (h : Hp) (y0 : Option Nat) (hJ : B_X9_numbered_33 N t0 h y0 = some (hz, rz)) (hk0 : h.kd t0 = 12) {H : Heap} {locs : List Loc} {cells slots : Nat} (w : Wo D cs A s h0 h H locs cells slots) {ls : Array Slot} (hl : lv_has ls 2 [(0, .ref t0)]) : W p l e { frames := 3, cells := mc, slots := ms, locals := 90 } s m args below meth c H locs cells slots (MQ below (Zq D cs A hz rz) args s mc ms A) (F0 m 33 ls [va_rf y0]) := by
  obtain ⟨hx, hb, hml, hown, hts, -⟩ := id C
  unfold B_X9_numbered_33 at hJ
  obtain ⟨rfl, rfl⟩ := rs2 hJ
  exact jr_aret (r := y0) C w (Or.inl ⟨_, rfl⟩) hz2 dX9_numbered_33
def B_X9_numbered_26 (N : Nat) (t0 : Nat) (h : Hp) (y0 : Option Nat) : Option (Hp × Option Nat) := dr h 10 y0 (fun a1 => B_X9_numbered_33 N t0 h (some a1))
theorem mb_X9_numbered_26 (N : Nat) (t0 : Nat) (h : Hp) (y0 : Option Nat) (hJ : B_X9_numbered_26 N t0 h y0 = some (hz, rz)) : Mo h hz := by
  unfold B_X9_numbered_26 at hJ
  obtain ⟨a1, ea1, -, hJ⟩ := dr_some hJ
  exact mb_X9_numbered_33 N t0 _ _ hJ
set_option maxRecDepth 100000 in
set_option maxHeartbeats 4000000 in
theorem sb_X9_numbered_26 (C : Cx p s m args meth c cX9_numbered 2 (some (.object "RingKeeper$Transaction")) RX9 D cs A h0.se) (hz2 : hz.nx ≤ h0.nx + mc ∧ hz.su ≤ h0.su + ms) (N : Nat) (t0 : Nat) (h : Hp) (y0 : Option Nat) (hJ : B_X9_numbered_26 N t0 h y0 = some (hz, rz)) (hk0 : h.kd t0 = 12) {H : Heap} {locs : List Loc} {cells slots : Nat} (w : Wo D cs A s h0 h H locs cells slots) {ls : Array Slot} (hl : lv_has ls 2 [(0, .ref t0)]) : W p l e { frames := 3, cells := mc, slots := ms, locals := 90 } s m args below meth c H locs cells slots (MQ below (Zq D cs A hz rz) args s mc ms A) (F0 m 26 ls [va_rf y0]) := by
  obtain ⟨hx, hb, hml, hown, hts, -⟩ := id C
  unfold B_X9_numbered_26 at hJ
  obtain ⟨a1, ea1, hka1, hJ⟩ := dr_some hJ
  rw [ea1]
  refine va_castS hx hb hown (hts _ tw_1_221) (C.2.2.2.2.2.1.1 10 _ rfl).2 (recv_at C w hka1 (by decide) rfl (fs := fs10 h a1) rfl) dX9_numbered_26 ?_
  refine lv_goto (tgt := 33) hx hb dX9_numbered_29 (by decide) ?_
  exact sb_X9_numbered_33 C hz2 N t0 _ _ hJ hk0 w hl
def B_X9_numbered_32 (N : Nat) (t0 : Nat) (h : Hp) : Option (Hp × Option Nat) := B_X9_numbered_33 N t0 h none
theorem mb_X9_numbered_32 (N : Nat) (t0 : Nat) (h : Hp) (hJ : B_X9_numbered_32 N t0 h = some (hz, rz)) : Mo h hz := by
  unfold B_X9_numbered_32 at hJ
  exact mb_X9_numbered_33 N t0 _ _ hJ
set_option maxRecDepth 100000 in
set_option maxHeartbeats 4000000 in
theorem sb_X9_numbered_32 (C : Cx p s m args meth c cX9_numbered 2 (some (.object "RingKeeper$Transaction")) RX9 D cs A h0.se) (hz2 : hz.nx ≤ h0.nx + mc ∧ hz.su ≤ h0.su + ms) (N : Nat) (t0 : Nat) (h : Hp) (hJ : B_X9_numbered_32 N t0 h = some (hz, rz)) (hk0 : h.kd t0 = 12) {H : Heap} {locs : List Loc} {cells slots : Nat} (w : Wo D cs A s h0 h H locs cells slots) {ls : Array Slot} (hl : lv_has ls 2 [(0, .ref t0)]) : W p l e { frames := 3, cells := mc, slots := ms, locals := 90 } s m args below meth c H locs cells slots (MQ below (Zq D cs A hz rz) args s mc ms A) (F0 m 32 ls []) := by
  obtain ⟨hx, hb, hml, hown, hts, -⟩ := id C
  unfold B_X9_numbered_32 at hJ
  refine lv_null hx hb dX9_numbered_32 ?_
  change W _ _ _ _ _ _ _ _ _ _ _ _ _ _ _ (F0 m 33 ls [va_rf none])
  exact sb_X9_numbered_33 C hz2 N t0 _ _ hJ hk0 w hl
def B_X9_numbered_13 (N : Nat) (t0 : Nat) (h : Hp) (x1 : Int32) (y0 : Int32) (y1 : Int32) : Option (Hp × Option Nat) := if y1 < y0 then (B_X9_numbered_32 N t0 h) else (dr h 2 (h.fr 1201 t0) (fun a3 => (J_Jx4a65c_get_915e3 N a3 h (x1 - (1 : Int32))).bind (fun z => B_X9_numbered_26 N t0 z.1 z.2)))
theorem mb_X9_numbered_13 (N : Nat) (t0 : Nat) (h : Hp) (x1 : Int32) (y0 : Int32) (y1 : Int32) (hJ : B_X9_numbered_13 N t0 h x1 y0 y1 = some (hz, rz)) : Mo h hz := by
  unfold B_X9_numbered_13 at hJ
  by_cases c2 : y1 < y0
  · have hJ := it_pos c2 hJ
    exact mb_X9_numbered_32 N t0 _ hJ
  · have hJ := it_neg c2 hJ
    obtain ⟨a3, ea3, -, hJ⟩ := dr_some hJ
    obtain ⟨⟨h4, r5⟩, e6, hJ⟩ := ob_some hJ
    exact (mo_Jx4a65c_get_915e3 N a3 h (x1 - (1 : Int32)) e6).tr (mb_X9_numbered_26 N t0 _ _ hJ)
set_option maxRecDepth 100000 in
set_option maxHeartbeats 4000000 in
theorem sb_X9_numbered_13 (C : Cx p s m args meth c cX9_numbered 2 (some (.object "RingKeeper$Transaction")) RX9 D cs A h0.se) (hz2 : hz.nx ≤ h0.nx + mc ∧ hz.su ≤ h0.su + ms) (N : Nat) (t0 : Nat) (h : Hp) (x1 : Int32) (y0 : Int32) (y1 : Int32) (hJ : B_X9_numbered_13 N t0 h x1 y0 y1 = some (hz, rz)) (hk0 : h.kd t0 = 12) {H : Heap} {locs : List Loc} {cells slots : Nat} (w : Wo D cs A s h0 h H locs cells slots) {ls : Array Slot} (hl : lv_has ls 2 [(0, .ref t0), (1, .int x1)]) : W p l e { frames := 3, cells := mc, slots := ms, locals := 90 } s m args below meth c H locs cells slots (MQ below (Zq D cs A hz rz) args s mc ms A) (F0 m 13 ls [.int y1, .int y0]) := by
  obtain ⟨hx, hb, hml, hown, hts, -⟩ := id C
  unfold B_X9_numbered_13 at hJ
  refine lv_icmp_gt (tgt := 32) hx hb dX9_numbered_13 (by decide) (fun c2 => ?_) (fun c2 => ?_)
  · have hJ := it_pos c2 hJ
    exact sb_X9_numbered_32 C hz2 N t0 _ hJ hk0 w (lv_sub (l' := [(0, .ref t0)]) hl [0] rfl)
  · have hJ := it_neg c2 hJ
    refine lv_aload_n hx hb dX9_numbered_16 rfl (lv_at hl 0 rfl) ?_
    refine fg_1201 C w hk0 tw_1_133 dX9_numbered_17 ?_
    refine lv_iload_n hx hb dX9_numbered_20 rfl (lv_at hl 1 rfl) ?_
    refine lv_iconst (v := (1 : Int32)) hx hb dX9_numbered_21 (by decide) ?_
    refine lv_isub hx hb dX9_numbered_22 ?_
    obtain ⟨a3, ea3, hka3, hJ⟩ := dr_some hJ
    rw [ea3]
    obtain ⟨⟨h4, r5⟩, e6, hJ⟩ := ob_some hJ
    refine jc_Vq (As := [.int (x1 - (1 : Int32))]) C w (cc_Jx4a65c_get_915e3 N a3 h (x1 - (1 : Int32)) hka3 e6) (mo_Jx4a65c_get_915e3 N a3 h (x1 - (1 : Int32)) e6) (mb_X9_numbered_26 N t0 _ _ hJ) hz2 hka3 (by decide) rfl (fs := fs2 h a3) rfl rfl ⟨tw_2_65, tw_2_62, tw_2_63, tw_2_64, tw_1_5⟩ cd_Jx4a65c_get_915e3 ⟨by decide, by decide⟩ hl.1 (by first | exact Nat.le_of_ble_eq_true rfl | simp [rf_cat, cat_i, cat_l, cat_r]) rfl dX9_numbered_23 (fun H locs w1 => ?_)
    have hk7 := kd_keep w (mo_Jx4a65c_get_915e3 N a3 h (x1 - (1 : Int32)) e6) hk0 (by decide)
    have w := w1
    exact sb_X9_numbered_26 C hz2 N t0 _ _ hJ hk7 w (lv_sub (l' := [(0, .ref t0)]) hl [0] rfl)
def B_X9_numbered_0 (N : Nat) (t0 : Nat) (h : Hp) (x1 : Int32) : Option (Hp × Option Nat) := if x1 < (1 : Int32) then (B_X9_numbered_32 N t0 h) else (dr h 2 (h.fr 1201 t0) (fun a9 => (J_Jx4a65c_size_8abf5 N a9 h).bind (fun z => B_X9_numbered_13 N t0 z.1 x1 x1 z.2)))
theorem mb_X9_numbered_0 (N : Nat) (t0 : Nat) (h : Hp) (x1 : Int32) (hJ : B_X9_numbered_0 N t0 h x1 = some (hz, rz)) : Mo h hz := by
  unfold B_X9_numbered_0 at hJ
  by_cases c8 : x1 < (1 : Int32)
  · have hJ := it_pos c8 hJ
    exact mb_X9_numbered_32 N t0 _ hJ
  · have hJ := it_neg c8 hJ
    obtain ⟨a9, ea9, -, hJ⟩ := dr_some hJ
    obtain ⟨⟨h10, r11⟩, e12, hJ⟩ := ob_some hJ
    exact (mo_Jx4a65c_size_8abf5 N a9 h e12).tr (mb_X9_numbered_13 N t0 _ _ _ _ hJ)
set_option maxRecDepth 100000 in
set_option maxHeartbeats 4000000 in
theorem sb_X9_numbered_0 (C : Cx p s m args meth c cX9_numbered 2 (some (.object "RingKeeper$Transaction")) RX9 D cs A h0.se) (hz2 : hz.nx ≤ h0.nx + mc ∧ hz.su ≤ h0.su + ms) (N : Nat) (t0 : Nat) (h : Hp) (x1 : Int32) (hJ : B_X9_numbered_0 N t0 h x1 = some (hz, rz)) (hk0 : h.kd t0 = 12) {H : Heap} {locs : List Loc} {cells slots : Nat} (w : Wo D cs A s h0 h H locs cells slots) {ls : Array Slot} (hl : lv_has ls 2 [(0, .ref t0), (1, .int x1)]) : W p l e { frames := 3, cells := mc, slots := ms, locals := 90 } s m args below meth c H locs cells slots (MQ below (Zq D cs A hz rz) args s mc ms A) (F0 m 0 ls []) := by
  obtain ⟨hx, hb, hml, hown, hts, -⟩ := id C
  unfold B_X9_numbered_0 at hJ
  refine lv_iload_n hx hb dX9_numbered_0 rfl (lv_at hl 1 rfl) ?_
  refine lv_iconst (v := (1 : Int32)) hx hb dX9_numbered_1 (by decide) ?_
  refine lv_icmp_lt (tgt := 32) hx hb dX9_numbered_2 (by decide) (fun c8 => ?_) (fun c8 => ?_)
  · have hJ := it_pos c8 hJ
    exact sb_X9_numbered_32 C hz2 N t0 _ hJ hk0 w (lv_sub (l' := [(0, .ref t0)]) hl [0] rfl)
  · have hJ := it_neg c8 hJ
    refine lv_iload_n hx hb dX9_numbered_5 rfl (lv_at hl 1 rfl) ?_
    refine lv_aload_n hx hb dX9_numbered_6 rfl (lv_at hl 0 rfl) ?_
    refine fg_1201 C w hk0 tw_1_133 dX9_numbered_7 ?_
    obtain ⟨a9, ea9, hka9, hJ⟩ := dr_some hJ
    rw [ea9]
    obtain ⟨⟨h10, r11⟩, e12, hJ⟩ := ob_some hJ
    refine jc_Vi (As := []) C w (cc_Jx4a65c_size_8abf5 N a9 h hka9 e12) (mo_Jx4a65c_size_8abf5 N a9 h e12) (mb_X9_numbered_13 N t0 _ _ _ _ hJ) hz2 hka9 (by decide) rfl (fs := fs2 h a9) rfl rfl ⟨tw_1_182, tw_1_179, tw_1_180, tw_1_181, tw_1_5⟩ cd_Jx4a65c_size_8abf5 ⟨by decide, by decide⟩ hl.1 (by first | exact Nat.le_of_ble_eq_true rfl | simp [rf_cat, cat_i, cat_l, cat_r]) rfl dX9_numbered_10 (fun H locs w1 => ?_)
    have hk13 := kd_keep w (mo_Jx4a65c_size_8abf5 N a9 h e12) hk0 (by decide)
    have w := w1
    exact sb_X9_numbered_13 C hz2 N t0 _ _ _ _ hJ hk13 w hl
def J_X9_numbered (N : Nat) (t0 : Nat) (h : Hp) (x1 : Int32) : Option (Hp × Option Nat) := B_X9_numbered_0 N t0 h x1
theorem mo_X9_numbered (N : Nat) (t0 : Nat) (h : Hp) (x1 : Int32) (hJ : J_X9_numbered N t0 h x1 = some (hz, rz)) : Mo h hz := mb_X9_numbered_0 N t0 h x1 hJ
theorem cd_X9_numbered : Cd yX9_numbered 1 := ⟨by decide +kernel, by decide +kernel, by decide +kernel⟩
theorem cc_X9_numbered (N : Nat) (t0 : Nat) (h : Hp) (x1 : Int32) (hk0 : h.kd t0 = 12) (hJ : J_X9_numbered N t0 h x1 = some (hz, rz)) : Cq l yX9_numbered cX9_numbered 2 (some (.object "RingKeeper$Transaction")) 3 90 D cs h hz [.ref t0, .int x1] rz := by
  intro mc ms g1 g2
  refine je_any (by decide) (by simp [lg_sl, rf_cat, cat_i, cat_l, cat_r]) ?_
  intro p e s m args below meth c C hin2 w ls hl
  have hl : lv_has ls 2 [(0, .ref t0), (1, .int x1)] := hl
  exact sb_X9_numbered_0 C ⟨g1, g2⟩ N t0 h x1 hJ hk0 w hl
end G_X9_numbered
section G_X9_told
variable {p : Program} {l : Launch} {e : Env} {s : State} {m : MethodId} {args : Array Value} {below : List Frame} {meth : Method} {c : Code} {D : va_G} {cs : C4} {A : Nat → Prop} {h0 hz : Hp} {mc ms : Nat} {rz : Int32}
def B_X9_told_131 (N : Nat) (t0 : Nat) (h : Hp) (y0 : Int32) : Option (Hp × Int32) := some (h, y0)
theorem mb_X9_told_131 (N : Nat) (t0 : Nat) (h : Hp) (y0 : Int32) (hJ : B_X9_told_131 N t0 h y0 = some (hz, rz)) : Mo h hz := by
  unfold B_X9_told_131 at hJ
  obtain ⟨rfl, -⟩ := rs2 hJ
  exact ⟨fun _ _ => rfl, Nat.le_refl _, Nat.le_refl _, rfl, fun _ _ => rfl⟩
set_option maxRecDepth 100000 in
set_option maxHeartbeats 4000000 in
theorem sb_X9_told_131 (C : Cx p s m args meth c cX9_told 4 (some .int) RX9 D cs A h0.se) (hz2 : hz.nx ≤ h0.nx + mc ∧ hz.su ≤ h0.su + ms) (N : Nat) (t0 : Nat) (h : Hp) (y0 : Int32) (hJ : B_X9_told_131 N t0 h y0 = some (hz, rz)) (hk0 : h.kd t0 = 12) {H : Heap} {locs : List Loc} {cells slots : Nat} (w : Wo D cs A s h0 h H locs cells slots) {ls : Array Slot} (hl : lv_has ls 4 [(0, .ref t0)]) : W p l e { frames := 5, cells := mc, slots := ms, locals := 140 } s m args below meth c H locs cells slots (MQ below (Zi D cs A hz rz) args s mc ms A) (F0 m 131 ls [.int y0]) := by
  obtain ⟨hx, hb, hml, hown, hts, -⟩ := id C
  unfold B_X9_told_131 at hJ
  obtain ⟨rfl, rfl⟩ := rs2 hJ
  exact jr_iret C w hz2 dX9_told_131
def B_X9_told_126 (N : Nat) (t0 : Nat) (h : Hp) (y0 : Int32) : Option (Hp × Int32) := some (h, y0)
theorem mb_X9_told_126 (N : Nat) (t0 : Nat) (h : Hp) (y0 : Int32) (hJ : B_X9_told_126 N t0 h y0 = some (hz, rz)) : Mo h hz := by
  unfold B_X9_told_126 at hJ
  obtain ⟨rfl, -⟩ := rs2 hJ
  exact ⟨fun _ _ => rfl, Nat.le_refl _, Nat.le_refl _, rfl, fun _ _ => rfl⟩
set_option maxRecDepth 100000 in
set_option maxHeartbeats 4000000 in
theorem sb_X9_told_126 (C : Cx p s m args meth c cX9_told 4 (some .int) RX9 D cs A h0.se) (hz2 : hz.nx ≤ h0.nx + mc ∧ hz.su ≤ h0.su + ms) (N : Nat) (t0 : Nat) (h : Hp) (y0 : Int32) (hJ : B_X9_told_126 N t0 h y0 = some (hz, rz)) (hk0 : h.kd t0 = 12) {H : Heap} {locs : List Loc} {cells slots : Nat} (w : Wo D cs A s h0 h H locs cells slots) {ls : Array Slot} (hl : lv_has ls 4 [(0, .ref t0)]) : W p l e { frames := 5, cells := mc, slots := ms, locals := 140 } s m args below meth c H locs cells slots (MQ below (Zi D cs A hz rz) args s mc ms A) (F0 m 126 ls [.int y0]) := by
  obtain ⟨hx, hb, hml, hown, hts, -⟩ := id C
  unfold B_X9_told_126 at hJ
  obtain ⟨rfl, rfl⟩ := rs2 hJ
  exact jr_iret C w hz2 dX9_told_126
def B_X9_told_115 (N : Nat) (t0 : Nat) (h : Hp) (y0 : Int32) : Option (Hp × Int32) := some (h, y0)
theorem mb_X9_told_115 (N : Nat) (t0 : Nat) (h : Hp) (y0 : Int32) (hJ : B_X9_told_115 N t0 h y0 = some (hz, rz)) : Mo h hz := by
  unfold B_X9_told_115 at hJ
  obtain ⟨rfl, -⟩ := rs2 hJ
  exact ⟨fun _ _ => rfl, Nat.le_refl _, Nat.le_refl _, rfl, fun _ _ => rfl⟩
set_option maxRecDepth 100000 in
set_option maxHeartbeats 4000000 in
theorem sb_X9_told_115 (C : Cx p s m args meth c cX9_told 4 (some .int) RX9 D cs A h0.se) (hz2 : hz.nx ≤ h0.nx + mc ∧ hz.su ≤ h0.su + ms) (N : Nat) (t0 : Nat) (h : Hp) (y0 : Int32) (hJ : B_X9_told_115 N t0 h y0 = some (hz, rz)) (hk0 : h.kd t0 = 12) {H : Heap} {locs : List Loc} {cells slots : Nat} (w : Wo D cs A s h0 h H locs cells slots) {ls : Array Slot} (hl : lv_has ls 4 [(0, .ref t0)]) : W p l e { frames := 5, cells := mc, slots := ms, locals := 140 } s m args below meth c H locs cells slots (MQ below (Zi D cs A hz rz) args s mc ms A) (F0 m 115 ls [.int y0]) := by
  obtain ⟨hx, hb, hml, hown, hts, -⟩ := id C
  unfold B_X9_told_115 at hJ
  obtain ⟨rfl, rfl⟩ := rs2 hJ
  exact jr_iret C w hz2 dX9_told_115
def B_X9_told_39 (N : Nat) (t0 : Nat) (h : Hp) (x2 : Int32) (x3 : Option Nat) : Option (Hp × Int32) := if x2 = (1 : Int32) then (dr h 10 x3 (fun a2 => some (h, h.fi 1001 a2))) else (if x2 = (2 : Int32) then (dr h 10 x3 (fun a4 => some (h, h.fi 1007 a4))) else (if x2 = (3 : Int32) then (dr h 10 x3 (fun a6 => some (h, h.fi 1008 a6))) else (if x2 = (4 : Int32) then (dr h 10 x3 (fun a8 => if (h.fi 1009 a8) = 0 then (B_X9_told_115 N t0 h (0 : Int32)) else (B_X9_told_115 N t0 h (1 : Int32)))) else (if x2 = (5 : Int32) then (dr h 10 x3 (fun a11 => dr h 11 (h.fr 1002 a11) (fun a12 => dr h 8 (h.fr 1103 a12) (fun a13 => (J_X5_size N a13 h).bind (fun z => B_X9_told_126 N t0 z.1 z.2))))) else (if x2 = (6 : Int32) then (dr h 10 x3 (fun a19 => (J_X7_runs N a19 h).bind (fun z => B_X9_told_131 N t0 z.1 z.2))) else (if x2 = (7 : Int32) then (dr h 10 x3 (fun a25 => some (h, h.fi 1005 a25))) else (if x2 = (8 : Int32) then (dr h 10 x3 (fun a27 => dr h 11 (h.fr 1002 a27) (fun a28 => some (h, h.fi 1105 a28)))) else (some (h, (-1 : Int32))))))))))
theorem mb_X9_told_39 (N : Nat) (t0 : Nat) (h : Hp) (x2 : Int32) (x3 : Option Nat) (hJ : B_X9_told_39 N t0 h x2 x3 = some (hz, rz)) : Mo h hz := by
  unfold B_X9_told_39 at hJ
  by_cases c1 : x2 = (1 : Int32)
  · have hJ := it_pos c1 hJ
    obtain ⟨a2, ea2, -, hJ⟩ := dr_some hJ
    obtain ⟨rfl, -⟩ := rs2 hJ
    exact ⟨fun _ _ => rfl, Nat.le_refl _, Nat.le_refl _, rfl, fun _ _ => rfl⟩
  · have hJ := it_neg c1 hJ
    by_cases c3 : x2 = (2 : Int32)
    · have hJ := it_pos c3 hJ
      obtain ⟨a4, ea4, -, hJ⟩ := dr_some hJ
      obtain ⟨rfl, -⟩ := rs2 hJ
      exact ⟨fun _ _ => rfl, Nat.le_refl _, Nat.le_refl _, rfl, fun _ _ => rfl⟩
    · have hJ := it_neg c3 hJ
      by_cases c5 : x2 = (3 : Int32)
      · have hJ := it_pos c5 hJ
        obtain ⟨a6, ea6, -, hJ⟩ := dr_some hJ
        obtain ⟨rfl, -⟩ := rs2 hJ
        exact ⟨fun _ _ => rfl, Nat.le_refl _, Nat.le_refl _, rfl, fun _ _ => rfl⟩
      · have hJ := it_neg c5 hJ
        by_cases c7 : x2 = (4 : Int32)
        · have hJ := it_pos c7 hJ
          obtain ⟨a8, ea8, -, hJ⟩ := dr_some hJ
          by_cases c9 : (h.fi 1009 a8) = 0
          · have hJ := it_pos c9 hJ
            exact mb_X9_told_115 N t0 _ _ hJ
          · have hJ := it_neg c9 hJ
            exact mb_X9_told_115 N t0 _ _ hJ
        · have hJ := it_neg c7 hJ
          by_cases c10 : x2 = (5 : Int32)
          · have hJ := it_pos c10 hJ
            obtain ⟨a11, ea11, -, hJ⟩ := dr_some hJ
            obtain ⟨a12, ea12, -, hJ⟩ := dr_some hJ
            obtain ⟨a13, ea13, -, hJ⟩ := dr_some hJ
            obtain ⟨⟨h14, r15⟩, e16, hJ⟩ := ob_some hJ
            exact (mo_X5_size N a13 h e16).tr (mb_X9_told_126 N t0 _ _ hJ)
          · have hJ := it_neg c10 hJ
            by_cases c18 : x2 = (6 : Int32)
            · have hJ := it_pos c18 hJ
              obtain ⟨a19, ea19, -, hJ⟩ := dr_some hJ
              obtain ⟨⟨h20, r21⟩, e22, hJ⟩ := ob_some hJ
              exact (mo_X7_runs N a19 h e22).tr (mb_X9_told_131 N t0 _ _ hJ)
            · have hJ := it_neg c18 hJ
              by_cases c24 : x2 = (7 : Int32)
              · have hJ := it_pos c24 hJ
                obtain ⟨a25, ea25, -, hJ⟩ := dr_some hJ
                obtain ⟨rfl, -⟩ := rs2 hJ
                exact ⟨fun _ _ => rfl, Nat.le_refl _, Nat.le_refl _, rfl, fun _ _ => rfl⟩
              · have hJ := it_neg c24 hJ
                by_cases c26 : x2 = (8 : Int32)
                · have hJ := it_pos c26 hJ
                  obtain ⟨a27, ea27, -, hJ⟩ := dr_some hJ
                  obtain ⟨a28, ea28, -, hJ⟩ := dr_some hJ
                  obtain ⟨rfl, -⟩ := rs2 hJ
                  exact ⟨fun _ _ => rfl, Nat.le_refl _, Nat.le_refl _, rfl, fun _ _ => rfl⟩
                · have hJ := it_neg c26 hJ
                  obtain ⟨rfl, -⟩ := rs2 hJ
                  exact ⟨fun _ _ => rfl, Nat.le_refl _, Nat.le_refl _, rfl, fun _ _ => rfl⟩
set_option maxRecDepth 100000 in
set_option maxHeartbeats 4000000 in
theorem sb_X9_told_39 (C : Cx p s m args meth c cX9_told 4 (some .int) RX9 D cs A h0.se) (hz2 : hz.nx ≤ h0.nx + mc ∧ hz.su ≤ h0.su + ms) (N : Nat) (t0 : Nat) (h : Hp) (x2 : Int32) (x3 : Option Nat) (hJ : B_X9_told_39 N t0 h x2 x3 = some (hz, rz)) (hk0 : h.kd t0 = 12) {H : Heap} {locs : List Loc} {cells slots : Nat} (w : Wo D cs A s h0 h H locs cells slots) {ls : Array Slot} (hl : lv_has ls 4 [(0, .ref t0), (2, .int x2), (3, va_rf x3)]) : W p l e { frames := 5, cells := mc, slots := ms, locals := 140 } s m args below meth c H locs cells slots (MQ below (Zi D cs A hz rz) args s mc ms A) (F0 m 39 ls []) := by
  obtain ⟨hx, hb, hml, hown, hts, -⟩ := id C
  unfold B_X9_told_39 at hJ
  refine lv_iload_n hx hb dX9_told_39 rfl (lv_at hl 1 rfl) ?_
  by_cases c1 : x2 = (1 : Int32)
  · have hJ := it_pos c1 hJ
    refine lv_tableIn (tgt := 88) hx hb dX9_told_40 (by rw [c1]; decide) (by rw [c1]; decide) (off := 48) (by rw [c1]; rfl) (by decide) ?_
    refine jv_aload_n hx hb dX9_told_88 rfl (lv_at hl 2 rfl) ?_
    obtain ⟨a2, ea2, hka2, hJ⟩ := dr_some hJ
    rw [ea2] at hl
    rw [ea2]
    refine fg_1001 C w hka2 tw_2_14 dX9_told_89 ?_
    obtain ⟨rfl, rfl⟩ := rs2 hJ
    exact jr_iret C w hz2 dX9_told_92
  · have hJ := it_neg c1 hJ
    by_cases c3 : x2 = (2 : Int32)
    · have hJ := it_pos c3 hJ
      refine lv_tableIn (tgt := 93) hx hb dX9_told_40 (by rw [c3]; decide) (by rw [c3]; decide) (off := 53) (by rw [c3]; rfl) (by decide) ?_
      refine jv_aload_n hx hb dX9_told_93 rfl (lv_at hl 2 rfl) ?_
      obtain ⟨a4, ea4, hka4, hJ⟩ := dr_some hJ
      rw [ea4] at hl
      rw [ea4]
      refine fg_1007 C w hka4 tw_2_29 dX9_told_94 ?_
      obtain ⟨rfl, rfl⟩ := rs2 hJ
      exact jr_iret C w hz2 dX9_told_97
    · have hJ := it_neg c3 hJ
      by_cases c5 : x2 = (3 : Int32)
      · have hJ := it_pos c5 hJ
        refine lv_tableIn (tgt := 98) hx hb dX9_told_40 (by rw [c5]; decide) (by rw [c5]; decide) (off := 58) (by rw [c5]; rfl) (by decide) ?_
        refine jv_aload_n hx hb dX9_told_98 rfl (lv_at hl 2 rfl) ?_
        obtain ⟨a6, ea6, hka6, hJ⟩ := dr_some hJ
        rw [ea6] at hl
        rw [ea6]
        refine fg_1008 C w hka6 tw_2_31 dX9_told_99 ?_
        obtain ⟨rfl, rfl⟩ := rs2 hJ
        exact jr_iret C w hz2 dX9_told_102
      · have hJ := it_neg c5 hJ
        by_cases c7 : x2 = (4 : Int32)
        · have hJ := it_pos c7 hJ
          refine lv_tableIn (tgt := 103) hx hb dX9_told_40 (by rw [c7]; decide) (by rw [c7]; decide) (off := 63) (by rw [c7]; rfl) (by decide) ?_
          refine jv_aload_n hx hb dX9_told_103 rfl (lv_at hl 2 rfl) ?_
          obtain ⟨a8, ea8, hka8, hJ⟩ := dr_some hJ
          rw [ea8] at hl
          rw [ea8]
          refine fg_1009 C w hka8 tw_2_33 dX9_told_104 ?_
          refine lv_if_eq (tgt := 114) hx hb dX9_told_107 (by decide) (fun c9 => ?_) (fun c9 => ?_)
          · have hJ := it_pos c9 hJ
            refine lv_iconst (v := (0 : Int32)) hx hb dX9_told_114 (by decide) ?_
            exact sb_X9_told_115 C hz2 N t0 _ _ hJ hk0 w (lv_sub (l' := [(0, .ref t0)]) hl [0] rfl)
          · have hJ := it_neg c9 hJ
            refine lv_iconst (v := (1 : Int32)) hx hb dX9_told_110 (by decide) ?_
            refine lv_goto (tgt := 115) hx hb dX9_told_111 (by decide) ?_
            exact sb_X9_told_115 C hz2 N t0 _ _ hJ hk0 w (lv_sub (l' := [(0, .ref t0)]) hl [0] rfl)
        · have hJ := it_neg c7 hJ
          by_cases c10 : x2 = (5 : Int32)
          · have hJ := it_pos c10 hJ
            refine lv_tableIn (tgt := 116) hx hb dX9_told_40 (by rw [c10]; decide) (by rw [c10]; decide) (off := 76) (by rw [c10]; rfl) (by decide) ?_
            refine jv_aload_n hx hb dX9_told_116 rfl (lv_at hl 2 rfl) ?_
            obtain ⟨a11, ea11, hka11, hJ⟩ := dr_some hJ
            rw [ea11] at hl
            rw [ea11]
            refine fg_1002 C w hka11 tw_2_16 dX9_told_117 ?_
            obtain ⟨a12, ea12, hka12, hJ⟩ := dr_some hJ
            rw [ea12]
            refine fg_1103 C w hka12 tw_1_201 dX9_told_120 ?_
            obtain ⟨a13, ea13, hka13, hJ⟩ := dr_some hJ
            rw [ea13]
            obtain ⟨⟨h14, r15⟩, e16, hJ⟩ := ob_some hJ
            refine jc_Vi (As := []) C w (cc_X5_size N a13 h hka13 e16) (mo_X5_size N a13 h e16) (mb_X9_told_126 N t0 _ _ hJ) hz2 hka13 (by decide) rfl (fs := fs8 h a13) rfl rfl ⟨tw_2_181, tw_2_178, tw_2_179, tw_2_180, tw_1_2⟩ cd_X5_size ⟨by decide, by decide⟩ hl.1 (by first | exact Nat.le_of_ble_eq_true rfl | simp [rf_cat, cat_i, cat_l, cat_r]) rfl dX9_told_123 (fun H locs w1 => ?_)
            have hk17 := kd_keep w (mo_X5_size N a13 h e16) hk0 (by decide)
            have w := w1
            exact sb_X9_told_126 C hz2 N t0 _ _ hJ hk17 w (lv_sub (l' := [(0, .ref t0)]) hl [0] rfl)
          · have hJ := it_neg c10 hJ
            by_cases c18 : x2 = (6 : Int32)
            · have hJ := it_pos c18 hJ
              refine lv_tableIn (tgt := 127) hx hb dX9_told_40 (by rw [c18]; decide) (by rw [c18]; decide) (off := 87) (by rw [c18]; rfl) (by decide) ?_
              refine jv_aload_n hx hb dX9_told_127 rfl (lv_at hl 2 rfl) ?_
              obtain ⟨a19, ea19, hka19, hJ⟩ := dr_some hJ
              rw [ea19] at hl
              rw [ea19]
              obtain ⟨⟨h20, r21⟩, e22, hJ⟩ := ob_some hJ
              refine jc_Vi (As := []) C w (cc_X7_runs N a19 h hka19 e22) (mo_X7_runs N a19 h e22) (mb_X9_told_131 N t0 _ _ hJ) hz2 hka19 (by decide) rfl (fs := fs10 h a19) rfl rfl ⟨tw_2_186, tw_2_183, tw_2_184, tw_2_185, tw_1_9⟩ cd_X7_runs ⟨by decide, by decide⟩ hl.1 (by first | exact Nat.le_of_ble_eq_true rfl | simp [rf_cat, cat_i, cat_l, cat_r]) rfl dX9_told_128 (fun H locs w1 => ?_)
              have hk23 := kd_keep w (mo_X7_runs N a19 h e22) hk0 (by decide)
              have w := w1
              exact sb_X9_told_131 C hz2 N t0 _ _ hJ hk23 w (lv_sub (l' := [(0, .ref t0)]) hl [0] rfl)
            · have hJ := it_neg c18 hJ
              by_cases c24 : x2 = (7 : Int32)
              · have hJ := it_pos c24 hJ
                refine lv_tableIn (tgt := 132) hx hb dX9_told_40 (by rw [c24]; decide) (by rw [c24]; decide) (off := 92) (by rw [c24]; rfl) (by decide) ?_
                refine jv_aload_n hx hb dX9_told_132 rfl (lv_at hl 2 rfl) ?_
                obtain ⟨a25, ea25, hka25, hJ⟩ := dr_some hJ
                rw [ea25] at hl
                rw [ea25]
                refine fg_1005 C w hka25 tw_2_24 dX9_told_133 ?_
                obtain ⟨rfl, rfl⟩ := rs2 hJ
                exact jr_iret C w hz2 dX9_told_136
              · have hJ := it_neg c24 hJ
                by_cases c26 : x2 = (8 : Int32)
                · have hJ := it_pos c26 hJ
                  refine lv_tableIn (tgt := 137) hx hb dX9_told_40 (by rw [c26]; decide) (by rw [c26]; decide) (off := 97) (by rw [c26]; rfl) (by decide) ?_
                  refine jv_aload_n hx hb dX9_told_137 rfl (lv_at hl 2 rfl) ?_
                  obtain ⟨a27, ea27, hka27, hJ⟩ := dr_some hJ
                  rw [ea27] at hl
                  rw [ea27]
                  refine fg_1002 C w hka27 tw_2_16 dX9_told_138 ?_
                  obtain ⟨a28, ea28, hka28, hJ⟩ := dr_some hJ
                  rw [ea28]
                  refine fg_1105 C w hka28 tw_1_204 dX9_told_141 ?_
                  obtain ⟨rfl, rfl⟩ := rs2 hJ
                  exact jr_iret C w hz2 dX9_told_144
                · have hJ := it_neg c26 hJ
                  refine lv_tableOut (tgt := 145) hx hb dX9_told_40 (by have := ne_ti (n := 1) rfl c1; have := ne_ti (n := 2) rfl c3; have := ne_ti (n := 3) rfl c5; have := ne_ti (n := 4) rfl c7; have := ne_ti (n := 5) rfl c10; have := ne_ti (n := 6) rfl c18; have := ne_ti (n := 7) rfl c24; have := ne_ti (n := 8) rfl c26;  omega) (by decide) ?_
                  refine lv_iconst (v := (-1 : Int32)) hx hb dX9_told_145 (by decide) ?_
                  obtain ⟨rfl, rfl⟩ := rs2 hJ
                  exact jr_iret C w hz2 dX9_told_146
def B_X9_told_34 (N : Nat) (t0 : Nat) (h : Hp) (x2 : Int32) (x3 : Option Nat) (y0 : Int32) : Option (Hp × Int32) := if y0 = 0 then (some (h, (-1 : Int32))) else (B_X9_told_39 N t0 h x2 x3)
theorem mb_X9_told_34 (N : Nat) (t0 : Nat) (h : Hp) (x2 : Int32) (x3 : Option Nat) (y0 : Int32) (hJ : B_X9_told_34 N t0 h x2 x3 y0 = some (hz, rz)) : Mo h hz := by
  unfold B_X9_told_34 at hJ
  by_cases c29 : y0 = 0
  · have hJ := it_pos c29 hJ
    obtain ⟨rfl, -⟩ := rs2 hJ
    exact ⟨fun _ _ => rfl, Nat.le_refl _, Nat.le_refl _, rfl, fun _ _ => rfl⟩
  · have hJ := it_neg c29 hJ
    exact mb_X9_told_39 N t0 _ _ _ hJ
set_option maxRecDepth 100000 in
set_option maxHeartbeats 4000000 in
theorem sb_X9_told_34 (C : Cx p s m args meth c cX9_told 4 (some .int) RX9 D cs A h0.se) (hz2 : hz.nx ≤ h0.nx + mc ∧ hz.su ≤ h0.su + ms) (N : Nat) (t0 : Nat) (h : Hp) (x2 : Int32) (x3 : Option Nat) (y0 : Int32) (hJ : B_X9_told_34 N t0 h x2 x3 y0 = some (hz, rz)) (hk0 : h.kd t0 = 12) {H : Heap} {locs : List Loc} {cells slots : Nat} (w : Wo D cs A s h0 h H locs cells slots) {ls : Array Slot} (hl : lv_has ls 4 [(0, .ref t0), (2, .int x2), (3, va_rf x3)]) : W p l e { frames := 5, cells := mc, slots := ms, locals := 140 } s m args below meth c H locs cells slots (MQ below (Zi D cs A hz rz) args s mc ms A) (F0 m 34 ls [.int y0]) := by
  obtain ⟨hx, hb, hml, hown, hts, -⟩ := id C
  unfold B_X9_told_34 at hJ
  refine lv_if_ne (tgt := 39) hx hb dX9_told_34 (by decide) (fun c29 => ?_) (fun c29 => ?_)
  · have hJ := it_neg c29 hJ
    exact sb_X9_told_39 C hz2 N t0 _ _ _ hJ hk0 w hl
  · have hJ := it_pos c29 hJ
    refine lv_iconst (v := (-1 : Int32)) hx hb dX9_told_37 (by decide) ?_
    obtain ⟨rfl, rfl⟩ := rs2 hJ
    exact jr_iret C w hz2 dX9_told_38
def B_X9_told_5 (N : Nat) (t0 : Nat) (h : Hp) (x2 : Int32) (y0 : Option Nat) : Option (Hp × Int32) := nl y0 (some (h, (-1 : Int32))) (fun a30 => if x2 = 0 then (ck (h.kd a30 = 10) (some (h, h.fi 1006 a30))) else (ck (h.kd a30 = 10) (if (h.fi 1006 a30) = (1 : Int32) then (B_X9_told_39 N t0 h x2 (some a30)) else ((J_X9_isKept N t0 h (some a30)).bind (fun z => B_X9_told_34 N t0 z.1 x2 (some a30) z.2)))))
theorem mb_X9_told_5 (N : Nat) (t0 : Nat) (h : Hp) (x2 : Int32) (y0 : Option Nat) (hJ : B_X9_told_5 N t0 h x2 y0 = some (hz, rz)) : Mo h hz := by
  unfold B_X9_told_5 at hJ
  cases ea30 : y0 with
  | none =>
    have hJ := nl_none ea30 hJ
    obtain ⟨rfl, -⟩ := rs2 hJ
    exact ⟨fun _ _ => rfl, Nat.le_refl _, Nat.le_refl _, rfl, fun _ _ => rfl⟩
  | some a30 =>
    have hJ := nl_some ea30 hJ
    by_cases c31 : x2 = 0
    · have hJ := it_pos c31 hJ
      obtain ⟨-, hJ⟩ := ck_some hJ
      obtain ⟨rfl, -⟩ := rs2 hJ
      exact ⟨fun _ _ => rfl, Nat.le_refl _, Nat.le_refl _, rfl, fun _ _ => rfl⟩
    · have hJ := it_neg c31 hJ
      obtain ⟨-, hJ⟩ := ck_some hJ
      by_cases c33 : (h.fi 1006 a30) = (1 : Int32)
      · have hJ := it_pos c33 hJ
        exact mb_X9_told_39 N t0 _ _ _ hJ
      · have hJ := it_neg c33 hJ
        obtain ⟨⟨h34, r35⟩, e36, hJ⟩ := ob_some hJ
        exact (mo_X9_isKept N t0 h (some a30) e36).tr (mb_X9_told_34 N t0 _ _ _ _ hJ)
set_option maxRecDepth 100000 in
set_option maxHeartbeats 4000000 in
theorem sb_X9_told_5 (C : Cx p s m args meth c cX9_told 4 (some .int) RX9 D cs A h0.se) (hz2 : hz.nx ≤ h0.nx + mc ∧ hz.su ≤ h0.su + ms) (N : Nat) (t0 : Nat) (h : Hp) (x2 : Int32) (y0 : Option Nat) (hJ : B_X9_told_5 N t0 h x2 y0 = some (hz, rz)) (hk0 : h.kd t0 = 12) {H : Heap} {locs : List Loc} {cells slots : Nat} (w : Wo D cs A s h0 h H locs cells slots) {ls : Array Slot} (hl : lv_has ls 4 [(0, .ref t0), (2, .int x2)]) : W p l e { frames := 5, cells := mc, slots := ms, locals := 140 } s m args below meth c H locs cells slots (MQ below (Zi D cs A hz rz) args s mc ms A) (F0 m 5 ls [va_rf y0]) := by
  obtain ⟨hx, hb, hml, hown, hts, -⟩ := id C
  unfold B_X9_told_5 at hJ
  refine jv_astore_n (i := 3) (lv' := [(3, va_rf y0), (0, .ref t0), (2, .int x2)]) hx hb dX9_told_5 rfl hl (by decide) rfl (fun ls hl => ?_)
  refine jv_aload_n hx hb dX9_told_6 rfl (lv_at hl 0 rfl) ?_
  refine jv_ifnonnull (tgt := 12) hx hb dX9_told_7 (by decide) (fun a30 ea30 => ?_) (fun ea30 => ?_)
  · have hJ := nl_some ea30 hJ
    rw [ea30] at hl
    refine lv_iload_n hx hb dX9_told_12 rfl (lv_at hl 2 rfl) ?_
    refine lv_if_ne (tgt := 21) hx hb dX9_told_13 (by decide) (fun c31 => ?_) (fun c31 => ?_)
    · have hJ := it_neg c31 hJ
      refine lv_aload_n hx hb dX9_told_21 rfl (lv_at hl 0 rfl) ?_
      obtain ⟨hk32, hJ⟩ := ck_some hJ
      refine fg_1006 C w hk32 tw_2_26 dX9_told_22 ?_
      refine lv_iconst (v := (1 : Int32)) hx hb dX9_told_25 (by decide) ?_
      refine lv_icmp_eq (tgt := 39) hx hb dX9_told_26 (by decide) (fun c33 => ?_) (fun c33 => ?_)
      · have hJ := it_pos c33 hJ
        exact sb_X9_told_39 C hz2 N t0 _ _ _ hJ hk0 w (lv_sub (l' := [(0, .ref t0), (2, .int x2), (3, .ref a30)]) hl [1, 2, 0] rfl)
      · have hJ := it_neg c33 hJ
        refine lv_aload_n hx hb dX9_told_29 rfl (lv_at hl 1 rfl) ?_
        refine lv_aload_n hx hb dX9_told_30 rfl (lv_at hl 0 rfl) ?_
        obtain ⟨⟨h34, r35⟩, e36, hJ⟩ := ob_some hJ
        refine jc_Vi (As := [.ref a30]) C w (cc_X9_isKept N t0 h (some a30) hk0 e36) (mo_X9_isKept N t0 h (some a30) e36) (mb_X9_told_34 N t0 _ _ _ _ hJ) hz2 hk0 (by decide) rfl (fs := fs12 h t0) rfl rfl ⟨tw_2_169, tw_2_166, tw_2_168, ts_6, tw_1_1⟩ cd_X9_isKept ⟨by decide, by decide⟩ hl.1 (by first | exact Nat.le_of_ble_eq_true rfl | simp [rf_cat, cat_i, cat_l, cat_r]) rfl dX9_told_31 (fun H locs w1 => ?_)
        have hk37 := kd_keep w (mo_X9_isKept N t0 h (some a30) e36) hk0 (by decide)
        have w := w1
        exact sb_X9_told_34 C hz2 N t0 _ _ _ _ hJ hk37 w (lv_sub (l' := [(0, .ref t0), (2, .int x2), (3, .ref a30)]) hl [1, 2, 0] rfl)
    · have hJ := it_pos c31 hJ
      refine lv_aload_n hx hb dX9_told_16 rfl (lv_at hl 0 rfl) ?_
      obtain ⟨hk38, hJ⟩ := ck_some hJ
      refine fg_1006 C w hk38 tw_2_26 dX9_told_17 ?_
      obtain ⟨rfl, rfl⟩ := rs2 hJ
      exact jr_iret C w hz2 dX9_told_20
  · have hJ := nl_none ea30 hJ
    refine lv_iconst (v := (-1 : Int32)) hx hb dX9_told_10 (by decide) ?_
    obtain ⟨rfl, rfl⟩ := rs2 hJ
    exact jr_iret C w hz2 dX9_told_11
def B_X9_told_0 (N : Nat) (t0 : Nat) (h : Hp) (x1 : Int32) (x2 : Int32) : Option (Hp × Int32) := (J_X9_numbered N t0 h x1).bind (fun z => B_X9_told_5 N t0 z.1 x2 z.2)
theorem mb_X9_told_0 (N : Nat) (t0 : Nat) (h : Hp) (x1 : Int32) (x2 : Int32) (hJ : B_X9_told_0 N t0 h x1 x2 = some (hz, rz)) : Mo h hz := by
  unfold B_X9_told_0 at hJ
  obtain ⟨⟨h39, r40⟩, e41, hJ⟩ := ob_some hJ
  exact (mo_X9_numbered N t0 h x1 e41).tr (mb_X9_told_5 N t0 _ _ _ hJ)
set_option maxRecDepth 100000 in
set_option maxHeartbeats 4000000 in
theorem sb_X9_told_0 (C : Cx p s m args meth c cX9_told 4 (some .int) RX9 D cs A h0.se) (hz2 : hz.nx ≤ h0.nx + mc ∧ hz.su ≤ h0.su + ms) (N : Nat) (t0 : Nat) (h : Hp) (x1 : Int32) (x2 : Int32) (hJ : B_X9_told_0 N t0 h x1 x2 = some (hz, rz)) (hk0 : h.kd t0 = 12) {H : Heap} {locs : List Loc} {cells slots : Nat} (w : Wo D cs A s h0 h H locs cells slots) {ls : Array Slot} (hl : lv_has ls 4 [(0, .ref t0), (1, .int x1), (2, .int x2)]) : W p l e { frames := 5, cells := mc, slots := ms, locals := 140 } s m args below meth c H locs cells slots (MQ below (Zi D cs A hz rz) args s mc ms A) (F0 m 0 ls []) := by
  obtain ⟨hx, hb, hml, hown, hts, -⟩ := id C
  unfold B_X9_told_0 at hJ
  refine lv_aload_n hx hb dX9_told_0 rfl (lv_at hl 0 rfl) ?_
  refine lv_iload_n hx hb dX9_told_1 rfl (lv_at hl 1 rfl) ?_
  obtain ⟨⟨h39, r40⟩, e41, hJ⟩ := ob_some hJ
  refine jc_Vq (As := [.int x1]) C w (cc_X9_numbered N t0 h x1 hk0 e41) (mo_X9_numbered N t0 h x1 e41) (mb_X9_told_5 N t0 _ _ _ hJ) hz2 hk0 (by decide) rfl (fs := fs12 h t0) rfl rfl ⟨tw_2_165, tw_2_162, tw_2_164, ts_5, tw_1_1⟩ cd_X9_numbered ⟨by decide, by decide⟩ hl.1 (by first | exact Nat.le_of_ble_eq_true rfl | simp [rf_cat, cat_i, cat_l, cat_r]) rfl dX9_told_2 (fun H locs w1 => ?_)
  have hk42 := kd_keep w (mo_X9_numbered N t0 h x1 e41) hk0 (by decide)
  have w := w1
  exact sb_X9_told_5 C hz2 N t0 _ _ _ hJ hk42 w (lv_sub (l' := [(0, .ref t0), (2, .int x2)]) hl [0, 2] rfl)
def J_X9_told (N : Nat) (t0 : Nat) (h : Hp) (x1 : Int32) (x2 : Int32) : Option (Hp × Int32) := B_X9_told_0 N t0 h x1 x2
theorem mo_X9_told (N : Nat) (t0 : Nat) (h : Hp) (x1 : Int32) (x2 : Int32) (hJ : J_X9_told N t0 h x1 x2 = some (hz, rz)) : Mo h hz := mb_X9_told_0 N t0 h x1 x2 hJ
theorem cd_X9_told : Cd yX9_told 2 := ⟨by decide +kernel, by decide +kernel, by decide +kernel⟩
theorem cc_X9_told (N : Nat) (t0 : Nat) (h : Hp) (x1 : Int32) (x2 : Int32) (hk0 : h.kd t0 = 12) (hJ : J_X9_told N t0 h x1 x2 = some (hz, rz)) : Ci l yX9_told cX9_told 4 (some .int) 5 140 D cs h hz [.ref t0, .int x1, .int x2] rz := by
  intro mc ms g1 g2
  refine je_any (by decide) (by simp [lg_sl, rf_cat, cat_i, cat_l, cat_r]) ?_
  intro p e s m args below meth c C hin2 w ls hl
  have hl : lv_has ls 4 [(0, .ref t0), (1, .int x1), (2, .int x2)] := hl
  exact sb_X9_told_0 C ⟨g1, g2⟩ N t0 h x1 x2 hJ hk0 w hl
end G_X9_told
section G_X9_why
variable {p : Program} {l : Launch} {e : Env} {s : State} {m : MethodId} {args : Array Value} {below : List Frame} {meth : Method} {c : Code} {D : va_G} {cs : C4} {A : Nat → Prop} {h0 hz : Hp} {mc ms : Nat} {rz : Int32}
def B_X9_why_23 (N : Nat) (t0 : Nat) (h : Hp) (y0 : Int32) : Option (Hp × Int32) := some (h, y0)
theorem mb_X9_why_23 (N : Nat) (t0 : Nat) (h : Hp) (y0 : Int32) (hJ : B_X9_why_23 N t0 h y0 = some (hz, rz)) : Mo h hz := by
  unfold B_X9_why_23 at hJ
  obtain ⟨rfl, -⟩ := rs2 hJ
  exact ⟨fun _ _ => rfl, Nat.le_refl _, Nat.le_refl _, rfl, fun _ _ => rfl⟩
set_option maxRecDepth 100000 in
set_option maxHeartbeats 4000000 in
theorem sb_X9_why_23 (C : Cx p s m args meth c cX9_why 2 (some .int) RX9 D cs A h0.se) (hz2 : hz.nx ≤ h0.nx + mc ∧ hz.su ≤ h0.su + ms) (N : Nat) (t0 : Nat) (h : Hp) (y0 : Int32) (hJ : B_X9_why_23 N t0 h y0 = some (hz, rz)) (hk0 : h.kd t0 = 12) {H : Heap} {locs : List Loc} {cells slots : Nat} (w : Wo D cs A s h0 h H locs cells slots) {ls : Array Slot} (hl : lv_has ls 2 [(0, .ref t0)]) : W p l e { frames := 0, cells := mc, slots := ms, locals := 0 } s m args below meth c H locs cells slots (MQ below (Zi D cs A hz rz) args s mc ms A) (F0 m 23 ls [.int y0]) := by
  obtain ⟨hx, hb, hml, hown, hts, -⟩ := id C
  unfold B_X9_why_23 at hJ
  obtain ⟨rfl, rfl⟩ := rs2 hJ
  exact jr_iret C w hz2 dX9_why_23
def B_X9_why_22 (N : Nat) (t0 : Nat) (h : Hp) : Option (Hp × Int32) := B_X9_why_23 N t0 h (0 : Int32)
theorem mb_X9_why_22 (N : Nat) (t0 : Nat) (h : Hp) (hJ : B_X9_why_22 N t0 h = some (hz, rz)) : Mo h hz := by
  unfold B_X9_why_22 at hJ
  exact mb_X9_why_23 N t0 _ _ hJ
set_option maxRecDepth 100000 in
set_option maxHeartbeats 4000000 in
theorem sb_X9_why_22 (C : Cx p s m args meth c cX9_why 2 (some .int) RX9 D cs A h0.se) (hz2 : hz.nx ≤ h0.nx + mc ∧ hz.su ≤ h0.su + ms) (N : Nat) (t0 : Nat) (h : Hp) (hJ : B_X9_why_22 N t0 h = some (hz, rz)) (hk0 : h.kd t0 = 12) {H : Heap} {locs : List Loc} {cells slots : Nat} (w : Wo D cs A s h0 h H locs cells slots) {ls : Array Slot} (hl : lv_has ls 2 [(0, .ref t0)]) : W p l e { frames := 0, cells := mc, slots := ms, locals := 0 } s m args below meth c H locs cells slots (MQ below (Zi D cs A hz rz) args s mc ms A) (F0 m 22 ls []) := by
  obtain ⟨hx, hb, hml, hown, hts, -⟩ := id C
  unfold B_X9_why_22 at hJ
  refine lv_iconst (v := (0 : Int32)) hx hb dX9_why_22 (by decide) ?_
  exact sb_X9_why_23 C hz2 N t0 _ _ hJ hk0 w hl
def B_X9_why_0 (N : Nat) (t0 : Nat) (h : Hp) (x1 : Int32) : Option (Hp × Int32) := if x1 < 0 then (B_X9_why_22 N t0 h) else (dr h 20 (h.fr 1205 t0) (fun a2 => if (nI (h.al a2)) ≤ x1 then (B_X9_why_22 N t0 h) else (dr h 20 (h.fr 1205 t0) (fun a4 => ck (¬ (x1 < 0 ∨ h.al a4 ≤ x1.toNatClampNeg)) (B_X9_why_23 N t0 h (h.ai a4 x1.toNatClampNeg))))))
theorem mb_X9_why_0 (N : Nat) (t0 : Nat) (h : Hp) (x1 : Int32) (hJ : B_X9_why_0 N t0 h x1 = some (hz, rz)) : Mo h hz := by
  unfold B_X9_why_0 at hJ
  by_cases c1 : x1 < 0
  · have hJ := it_pos c1 hJ
    exact mb_X9_why_22 N t0 _ hJ
  · have hJ := it_neg c1 hJ
    obtain ⟨a2, ea2, -, hJ⟩ := dr_some hJ
    by_cases c3 : (nI (h.al a2)) ≤ x1
    · have hJ := it_pos c3 hJ
      exact mb_X9_why_22 N t0 _ hJ
    · have hJ := it_neg c3 hJ
      obtain ⟨a4, ea4, -, hJ⟩ := dr_some hJ
      obtain ⟨-, hJ⟩ := ck_some hJ
      exact mb_X9_why_23 N t0 _ _ hJ
set_option maxRecDepth 100000 in
set_option maxHeartbeats 4000000 in
theorem sb_X9_why_0 (C : Cx p s m args meth c cX9_why 2 (some .int) RX9 D cs A h0.se) (hz2 : hz.nx ≤ h0.nx + mc ∧ hz.su ≤ h0.su + ms) (N : Nat) (t0 : Nat) (h : Hp) (x1 : Int32) (hJ : B_X9_why_0 N t0 h x1 = some (hz, rz)) (hk0 : h.kd t0 = 12) {H : Heap} {locs : List Loc} {cells slots : Nat} (w : Wo D cs A s h0 h H locs cells slots) {ls : Array Slot} (hl : lv_has ls 2 [(0, .ref t0), (1, .int x1)]) : W p l e { frames := 0, cells := mc, slots := ms, locals := 0 } s m args below meth c H locs cells slots (MQ below (Zi D cs A hz rz) args s mc ms A) (F0 m 0 ls []) := by
  obtain ⟨hx, hb, hml, hown, hts, -⟩ := id C
  unfold B_X9_why_0 at hJ
  refine lv_iload_n hx hb dX9_why_0 rfl (lv_at hl 1 rfl) ?_
  refine lv_if_lt (tgt := 22) hx hb dX9_why_1 (by decide) (fun c1 => ?_) (fun c1 => ?_)
  · have hJ := it_pos c1 hJ
    exact sb_X9_why_22 C hz2 N t0 _ hJ hk0 w (lv_sub (l' := [(0, .ref t0)]) hl [0] rfl)
  · have hJ := it_neg c1 hJ
    refine lv_iload_n hx hb dX9_why_4 rfl (lv_at hl 1 rfl) ?_
    refine lv_aload_n hx hb dX9_why_5 rfl (lv_at hl 0 rfl) ?_
    refine fg_1205 C w hk0 tw_1_137 dX9_why_6 ?_
    obtain ⟨a2, ea2, hka2, hJ⟩ := dr_some hJ
    rw [ea2]
    refine jr_alen C w hka2 (by decide) dX9_why_9 ?_
    refine lv_icmp_ge (tgt := 22) hx hb dX9_why_10 (by decide) (fun c3 => ?_) (fun c3 => ?_)
    · have hJ := it_pos c3 hJ
      exact sb_X9_why_22 C hz2 N t0 _ hJ hk0 w (lv_sub (l' := [(0, .ref t0)]) hl [0] rfl)
    · have hJ := it_neg c3 hJ
      refine lv_aload_n hx hb dX9_why_13 rfl (lv_at hl 0 rfl) ?_
      refine fg_1205 C w hk0 tw_1_137 dX9_why_14 ?_
      refine lv_iload_n hx hb dX9_why_17 rfl (lv_at hl 1 rfl) ?_
      obtain ⟨a4, ea4, hka4, hJ⟩ := dr_some hJ
      rw [ea4]
      obtain ⟨hi5, hJ⟩ := ck_some hJ
      refine jr_iald C w hka4 hi5 dX9_why_18 ?_
      refine lv_goto (tgt := 23) hx hb dX9_why_19 (by decide) ?_
      exact sb_X9_why_23 C hz2 N t0 _ _ hJ hk0 w (lv_sub (l' := [(0, .ref t0)]) hl [0] rfl)
def J_X9_why (N : Nat) (t0 : Nat) (h : Hp) (x1 : Int32) : Option (Hp × Int32) := B_X9_why_0 N t0 h x1
theorem mo_X9_why (N : Nat) (t0 : Nat) (h : Hp) (x1 : Int32) (hJ : J_X9_why N t0 h x1 = some (hz, rz)) : Mo h hz := mb_X9_why_0 N t0 h x1 hJ
theorem cd_X9_why : Cd yX9_why 1 := ⟨by decide +kernel, by decide +kernel, by decide +kernel⟩
theorem cc_X9_why (N : Nat) (t0 : Nat) (h : Hp) (x1 : Int32) (hk0 : h.kd t0 = 12) (hJ : J_X9_why N t0 h x1 = some (hz, rz)) : Ci l yX9_why cX9_why 2 (some .int) 0 0 D cs h hz [.ref t0, .int x1] rz := by
  intro mc ms g1 g2
  refine je_any (by decide) (by simp [lg_sl, rf_cat, cat_i, cat_l, cat_r]) ?_
  intro p e s m args below meth c C hin2 w ls hl
  have hl : lv_has ls 2 [(0, .ref t0), (1, .int x1)] := hl
  exact sb_X9_why_0 C ⟨g1, g2⟩ N t0 h x1 hJ hk0 w hl
end G_X9_why
section G_X9_keptVersion
variable {p : Program} {l : Launch} {e : Env} {s : State} {m : MethodId} {args : Array Value} {below : List Frame} {meth : Method} {c : Code} {D : va_G} {cs : C4} {A : Nat → Prop} {h0 hz : Hp} {mc ms : Nat} {rz : Option Nat}
def B_X9_keptVersion_29 (N : Nat) (t0 : Nat) (h : Hp) : Option (Hp × Option Nat) := some (h, none)
theorem mb_X9_keptVersion_29 (N : Nat) (t0 : Nat) (h : Hp) (hJ : B_X9_keptVersion_29 N t0 h = some (hz, rz)) : Mo h hz := by
  unfold B_X9_keptVersion_29 at hJ
  obtain ⟨rfl, -⟩ := rs2 hJ
  exact ⟨fun _ _ => rfl, Nat.le_refl _, Nat.le_refl _, rfl, fun _ _ => rfl⟩
set_option maxRecDepth 100000 in
set_option maxHeartbeats 4000000 in
theorem sb_X9_keptVersion_29 (C : Cx p s m args meth c cX9_keptVersion 6 (some (.object "RingKeeper$Entry")) RX9 D cs A h0.se) (hz2 : hz.nx ≤ h0.nx + mc ∧ hz.su ≤ h0.su + ms) (N : Nat) (t0 : Nat) (h : Hp) (hJ : B_X9_keptVersion_29 N t0 h = some (hz, rz)) (hk0 : h.kd t0 = 12) {H : Heap} {locs : List Loc} {cells slots : Nat} (w : Wo D cs A s h0 h H locs cells slots) {ls : Array Slot} (hl : lv_has ls 6 [(0, .ref t0)]) : W p l e { frames := 5, cells := mc, slots := ms, locals := 150 } s m args below meth c H locs cells slots (MQ below (Zq D cs A hz rz) args s mc ms A) (F0 m 29 ls []) := by
  obtain ⟨hx, hb, hml, hown, hts, -⟩ := id C
  unfold B_X9_keptVersion_29 at hJ
  refine lv_null hx hb dX9_keptVersion_29 ?_
  change W _ _ _ _ _ _ _ _ _ _ _ _ _ _ _ (F0 m 30 ls [va_rf none])
  obtain ⟨rfl, rfl⟩ := rs2 hJ
  exact jr_aret (r := none) C w (Or.inl ⟨_, rfl⟩) hz2 dX9_keptVersion_30
def B_X9_keptVersion_64 (N : Nat) (t0 : Nat) (h : Hp) (x4 : Option Nat) : Option (Hp × Option Nat) := some (h, x4)
theorem mb_X9_keptVersion_64 (N : Nat) (t0 : Nat) (h : Hp) (x4 : Option Nat) (hJ : B_X9_keptVersion_64 N t0 h x4 = some (hz, rz)) : Mo h hz := by
  unfold B_X9_keptVersion_64 at hJ
  obtain ⟨rfl, -⟩ := rs2 hJ
  exact ⟨fun _ _ => rfl, Nat.le_refl _, Nat.le_refl _, rfl, fun _ _ => rfl⟩
set_option maxRecDepth 100000 in
set_option maxHeartbeats 4000000 in
theorem sb_X9_keptVersion_64 (C : Cx p s m args meth c cX9_keptVersion 6 (some (.object "RingKeeper$Entry")) RX9 D cs A h0.se) (hz2 : hz.nx ≤ h0.nx + mc ∧ hz.su ≤ h0.su + ms) (N : Nat) (t0 : Nat) (h : Hp) (x4 : Option Nat) (hJ : B_X9_keptVersion_64 N t0 h x4 = some (hz, rz)) (hk0 : h.kd t0 = 12) {H : Heap} {locs : List Loc} {cells slots : Nat} (w : Wo D cs A s h0 h H locs cells slots) {ls : Array Slot} (hl : lv_has ls 6 [(0, .ref t0), (4, va_rf x4)]) : W p l e { frames := 5, cells := mc, slots := ms, locals := 150 } s m args below meth c H locs cells slots (MQ below (Zq D cs A hz rz) args s mc ms A) (F0 m 64 ls []) := by
  obtain ⟨hx, hb, hml, hown, hts, -⟩ := id C
  unfold B_X9_keptVersion_64 at hJ
  refine jv_aload hx hb dX9_keptVersion_64 (lv_at hl 1 rfl) ?_
  obtain ⟨rfl, rfl⟩ := rs2 hJ
  exact jr_aret (r := x4) C w (Or.inl ⟨_, rfl⟩) hz2 dX9_keptVersion_66
def B_X9_keptVersion_40 (N : Nat) (k40 : Hp → Int32 → (Option Nat) → Int32 → Option (Hp × Option Nat)) (t0 : Nat) (h : Hp) (x2 : Int32) (x4 : Option Nat) (x5 : Int32) : Option (Hp × Option Nat) := if x2 ≤ x5 then (B_X9_keptVersion_64 N t0 h x4) else (nl x4 (B_X9_keptVersion_64 N t0 h x4) (fun a2 => ck (h.kd a2 = 7) (k40 h x2 (h.fr 704 a2) (x5 + (1 : Int32)))))
theorem mb_X9_keptVersion_40 (N : Nat) (k40 : Hp → Int32 → (Option Nat) → Int32 → Option (Hp × Option Nat)) (t0 : Nat) (h : Hp) (x2 : Int32) (x4 : Option Nat) (x5 : Int32) (m40 : ∀ (h : Hp) (x2 : Int32) (x4 : Option Nat) (x5 : Int32), k40 h x2 x4 x5 = some (hz, rz) → Mo h hz) (hJ : B_X9_keptVersion_40 N k40 t0 h x2 x4 x5 = some (hz, rz)) : Mo h hz := by
  unfold B_X9_keptVersion_40 at hJ
  by_cases c1 : x2 ≤ x5
  · have hJ := it_pos c1 hJ
    exact mb_X9_keptVersion_64 N t0 _ _ hJ
  · have hJ := it_neg c1 hJ
    cases ea2 : x4 with
    | none =>
      have hJ := nl_none ea2 hJ
      exact mb_X9_keptVersion_64 N t0 _ _ hJ
    | some a2 =>
      have hJ := nl_some ea2 hJ
      obtain ⟨-, hJ⟩ := ck_some hJ
      exact m40 _ _ _ _ hJ
set_option maxRecDepth 100000 in
set_option maxHeartbeats 4000000 in
theorem sb_X9_keptVersion_40 (C : Cx p s m args meth c cX9_keptVersion 6 (some (.object "RingKeeper$Entry")) RX9 D cs A h0.se) (hz2 : hz.nx ≤ h0.nx + mc ∧ hz.su ≤ h0.su + ms) (N : Nat) (k40 : Hp → Int32 → (Option Nat) → Int32 → Option (Hp × Option Nat)) (t0 : Nat) (m40 : ∀ (h : Hp) (x2 : Int32) (x4 : Option Nat) (x5 : Int32), k40 h x2 x4 x5 = some (hz, rz) → Mo h hz) (i40 : ∀ (h : Hp) (x2 : Int32) (x4 : Option Nat) (x5 : Int32) (H : Heap) (locs : List Loc) (cells slots : Nat) (ls : Array Slot), k40 h x2 x4 x5 = some (hz, rz) → h.kd t0 = 12 → Wo D cs A s h0 h H locs cells slots → lv_has ls 6 [(0, .ref t0), (2, .int x2), (4, va_rf x4), (5, .int x5)] → W p l e { frames := 5, cells := mc, slots := ms, locals := 150 } s m args below meth c H locs cells slots (MQ below (Zq D cs A hz rz) args s mc ms A) (F0 m 40 ls [])) (h : Hp) (x2 : Int32) (x4 : Option Nat) (x5 : Int32) (hJ : B_X9_keptVersion_40 N k40 t0 h x2 x4 x5 = some (hz, rz)) (hk0 : h.kd t0 = 12) {H : Heap} {locs : List Loc} {cells slots : Nat} (w : Wo D cs A s h0 h H locs cells slots) {ls : Array Slot} (hl : lv_has ls 6 [(0, .ref t0), (2, .int x2), (4, va_rf x4), (5, .int x5)]) : W p l e { frames := 5, cells := mc, slots := ms, locals := 150 } s m args below meth c H locs cells slots (MQ below (Zq D cs A hz rz) args s mc ms A) (F0 m 40 ls []) := by
  obtain ⟨hx, hb, hml, hown, hts, -⟩ := id C
  unfold B_X9_keptVersion_40 at hJ
  refine lv_iload hx hb dX9_keptVersion_40 (lv_at hl 3 rfl) ?_
  refine lv_iload_n hx hb dX9_keptVersion_42 rfl (lv_at hl 1 rfl) ?_
  refine lv_icmp_ge (tgt := 64) hx hb dX9_keptVersion_43 (by decide) (fun c1 => ?_) (fun c1 => ?_)
  · have hJ := it_pos c1 hJ
    exact sb_X9_keptVersion_64 C hz2 N t0 _ _ hJ hk0 w (lv_sub (l' := [(0, .ref t0), (4, va_rf x4)]) hl [0, 2] rfl)
  · have hJ := it_neg c1 hJ
    refine jv_aload hx hb dX9_keptVersion_46 (lv_at hl 2 rfl) ?_
    refine jv_ifnull (tgt := 64) hx hb dX9_keptVersion_48 (by decide) (fun ea2 => ?_) (fun a2 ea2 => ?_)
    · have hJ := nl_none ea2 hJ
      exact sb_X9_keptVersion_64 C hz2 N t0 _ _ hJ hk0 w (lv_sub (l' := [(0, .ref t0), (4, va_rf x4)]) hl [0, 2] rfl)
    · have hJ := nl_some ea2 hJ
      rw [ea2] at hl
      refine lv_aload hx hb dX9_keptVersion_51 (lv_at hl 2 rfl) ?_
      obtain ⟨hk3, hJ⟩ := ck_some hJ
      refine fg_704 C w hk3 tw_5_32 dX9_keptVersion_53 ?_
      refine jv_astore (i := 4) (lv' := [(4, va_rf (h.fr 704 a2)), (0, .ref t0), (2, .int x2), (5, .int x5)]) hx hb dX9_keptVersion_56 hl (by decide) rfl (fun ls hl => ?_)
      refine lv_iinc (v := x5 + (1 : Int32)) (lv' := [(5, .int (x5 + (1 : Int32))), (4, va_rf (h.fr 704 a2)), (0, .ref t0), (2, .int x2)]) hx hb dX9_keptVersion_58 hl (k := 3) rfl rfl (by decide) (by simp [List.filter, rf_cat, cat_i, cat_l, cat_r]) (fun ls hl => ?_)
      refine lv_goto (tgt := 40) hx hb dX9_keptVersion_61 (by decide) ?_
      exact i40 _ _ _ _ _ _ _ _ _ hJ hk0 w (lv_sub (l' := [(0, .ref t0), (2, .int x2), (4, va_rf (h.fr 704 a2)), (5, .int (x5 + (1 : Int32)))]) hl [2, 3, 1, 0] rfl)
def L_X9_keptVersion_40 (N : Nat) (t0 : Nat) : Nat → Hp → Int32 → (Option Nat) → Int32 → Option (Hp × Option Nat)
  | 0 => fun _ _ _ _ => none
  | n + 1 => fun h x2 x4 x5 => B_X9_keptVersion_40 N (L_X9_keptVersion_40 N t0 n) t0 h x2 x4 x5
theorem ml_X9_keptVersion_40 (N : Nat) (t0 : Nat) : ∀ (n : Nat) (h : Hp) (x2 : Int32) (x4 : Option Nat) (x5 : Int32), L_X9_keptVersion_40 N t0 n h x2 x4 x5 = some (hz, rz) → Mo h hz := by
  intro n
  induction n with
  | zero => intro h x2 x4 x5 hJ; cases hJ
  | succ n ih => intro h x2 x4 x5 hJ; exact mb_X9_keptVersion_40 N (L_X9_keptVersion_40 N t0 n) t0 h x2 x4 x5 ih hJ
theorem sl_X9_keptVersion_40 (C : Cx p s m args meth c cX9_keptVersion 6 (some (.object "RingKeeper$Entry")) RX9 D cs A h0.se) (hz2 : hz.nx ≤ h0.nx + mc ∧ hz.su ≤ h0.su + ms) (N : Nat) (t0 : Nat) : ∀ n : Nat, ∀ (h : Hp) (x2 : Int32) (x4 : Option Nat) (x5 : Int32) (H : Heap) (locs : List Loc) (cells slots : Nat) (ls : Array Slot), L_X9_keptVersion_40 N t0 n h x2 x4 x5 = some (hz, rz) → h.kd t0 = 12 → Wo D cs A s h0 h H locs cells slots → lv_has ls 6 [(0, .ref t0), (2, .int x2), (4, va_rf x4), (5, .int x5)] → W p l e { frames := 5, cells := mc, slots := ms, locals := 150 } s m args below meth c H locs cells slots (MQ below (Zq D cs A hz rz) args s mc ms A) (F0 m 40 ls []) := by
  intro n
  induction n with
  | zero => intro h x2 x4 x5 H locs cells slots ls hJ; cases hJ
  | succ n ih =>
    intro h x2 x4 x5 H locs cells slots ls hJ hk0 w hl
    exact sb_X9_keptVersion_40 C hz2 N (L_X9_keptVersion_40 N t0 n) t0 (ml_X9_keptVersion_40 N t0 n) ih h x2 x4 x5 hJ hk0 w hl
def B_X9_keptVersion_26 (N : Nat) (t0 : Nat) (h : Hp) (x2 : Int32) (x3 : Option Nat) (y0 : Int32) (y1 : Int32) : Option (Hp × Option Nat) := if y0 < y1 then (dr h 6 x3 (fun a5 => L_X9_keptVersion_40 N t0 N h x2 (h.fr 601 a5) (0 : Int32))) else (B_X9_keptVersion_29 N t0 h)
theorem mb_X9_keptVersion_26 (N : Nat) (t0 : Nat) (h : Hp) (x2 : Int32) (x3 : Option Nat) (y0 : Int32) (y1 : Int32) (hJ : B_X9_keptVersion_26 N t0 h x2 x3 y0 y1 = some (hz, rz)) : Mo h hz := by
  unfold B_X9_keptVersion_26 at hJ
  by_cases c4 : y0 < y1
  · have hJ := it_pos c4 hJ
    obtain ⟨a5, ea5, -, hJ⟩ := dr_some hJ
    exact ml_X9_keptVersion_40 N t0 N _ _ _ _ hJ
  · have hJ := it_neg c4 hJ
    exact mb_X9_keptVersion_29 N t0 _ hJ
set_option maxRecDepth 100000 in
set_option maxHeartbeats 4000000 in
theorem sb_X9_keptVersion_26 (C : Cx p s m args meth c cX9_keptVersion 6 (some (.object "RingKeeper$Entry")) RX9 D cs A h0.se) (hz2 : hz.nx ≤ h0.nx + mc ∧ hz.su ≤ h0.su + ms) (N : Nat) (t0 : Nat) (h : Hp) (x2 : Int32) (x3 : Option Nat) (y0 : Int32) (y1 : Int32) (hJ : B_X9_keptVersion_26 N t0 h x2 x3 y0 y1 = some (hz, rz)) (hk0 : h.kd t0 = 12) {H : Heap} {locs : List Loc} {cells slots : Nat} (w : Wo D cs A s h0 h H locs cells slots) {ls : Array Slot} (hl : lv_has ls 6 [(0, .ref t0), (2, .int x2), (3, va_rf x3)]) : W p l e { frames := 5, cells := mc, slots := ms, locals := 150 } s m args below meth c H locs cells slots (MQ below (Zq D cs A hz rz) args s mc ms A) (F0 m 26 ls [.int y1, .int y0]) := by
  obtain ⟨hx, hb, hml, hown, hts, -⟩ := id C
  unfold B_X9_keptVersion_26 at hJ
  refine lv_icmp_lt (tgt := 31) hx hb dX9_keptVersion_26 (by decide) (fun c4 => ?_) (fun c4 => ?_)
  · have hJ := it_pos c4 hJ
    refine jv_aload_n hx hb dX9_keptVersion_31 rfl (lv_at hl 2 rfl) ?_
    obtain ⟨a5, ea5, hka5, hJ⟩ := dr_some hJ
    rw [ea5] at hl
    rw [ea5]
    refine fg_601 C w hka5 tw_3_156 dX9_keptVersion_32 ?_
    refine jv_astore (i := 4) (lv' := [(4, va_rf (h.fr 601 a5)), (0, .ref t0), (2, .int x2), (3, .ref a5)]) hx hb dX9_keptVersion_35 hl (by decide) rfl (fun ls hl => ?_)
    refine lv_iconst (v := (0 : Int32)) hx hb dX9_keptVersion_37 (by decide) ?_
    refine lv_istore (i := 5) (lv' := [(5, .int (0 : Int32)), (4, va_rf (h.fr 601 a5)), (0, .ref t0), (2, .int x2), (3, .ref a5)]) hx hb dX9_keptVersion_38 hl (by decide) (by simp [List.filter, rf_cat, cat_i, cat_l, cat_r]) (fun ls hl => ?_)
    exact sl_X9_keptVersion_40 C hz2 N t0 N _ _ _ _ _ _ _ _ _ hJ hk0 w (lv_sub (l' := [(0, .ref t0), (2, .int x2), (4, va_rf (h.fr 601 a5)), (5, .int (0 : Int32))]) hl [2, 3, 1, 0] rfl)
  · have hJ := it_neg c4 hJ
    exact sb_X9_keptVersion_29 C hz2 N t0 _ hJ hk0 w (lv_sub (l' := [(0, .ref t0)]) hl [0] rfl)
def B_X9_keptVersion_23 (N : Nat) (t0 : Nat) (h : Hp) (x2 : Int32) (x3 : Option Nat) (y0 : Int32) (y1 : Option Nat) (y2 : Int32) : Option (Hp × Option Nat) := dr h 6 y1 (fun a6 => (J_X3_keptAbove N a6 h y2).bind (fun z => B_X9_keptVersion_26 N t0 z.1 x2 x3 y0 z.2))
theorem mb_X9_keptVersion_23 (N : Nat) (t0 : Nat) (h : Hp) (x2 : Int32) (x3 : Option Nat) (y0 : Int32) (y1 : Option Nat) (y2 : Int32) (hJ : B_X9_keptVersion_23 N t0 h x2 x3 y0 y1 y2 = some (hz, rz)) : Mo h hz := by
  unfold B_X9_keptVersion_23 at hJ
  obtain ⟨a6, ea6, -, hJ⟩ := dr_some hJ
  obtain ⟨⟨h7, r8⟩, e9, hJ⟩ := ob_some hJ
  exact (mo_X3_keptAbove N a6 h y2 e9).tr (mb_X9_keptVersion_26 N t0 _ _ _ _ _ hJ)
set_option maxRecDepth 100000 in
set_option maxHeartbeats 4000000 in
theorem sb_X9_keptVersion_23 (C : Cx p s m args meth c cX9_keptVersion 6 (some (.object "RingKeeper$Entry")) RX9 D cs A h0.se) (hz2 : hz.nx ≤ h0.nx + mc ∧ hz.su ≤ h0.su + ms) (N : Nat) (t0 : Nat) (h : Hp) (x2 : Int32) (x3 : Option Nat) (y0 : Int32) (y1 : Option Nat) (y2 : Int32) (hJ : B_X9_keptVersion_23 N t0 h x2 x3 y0 y1 y2 = some (hz, rz)) (hk0 : h.kd t0 = 12) {H : Heap} {locs : List Loc} {cells slots : Nat} (w : Wo D cs A s h0 h H locs cells slots) {ls : Array Slot} (hl : lv_has ls 6 [(0, .ref t0), (2, .int x2), (3, va_rf x3)]) : W p l e { frames := 5, cells := mc, slots := ms, locals := 150 } s m args below meth c H locs cells slots (MQ below (Zq D cs A hz rz) args s mc ms A) (F0 m 23 ls [.int y2, va_rf y1, .int y0]) := by
  obtain ⟨hx, hb, hml, hown, hts, -⟩ := id C
  unfold B_X9_keptVersion_23 at hJ
  obtain ⟨a6, ea6, hka6, hJ⟩ := dr_some hJ
  rw [ea6]
  obtain ⟨⟨h7, r8⟩, e9, hJ⟩ := ob_some hJ
  refine jc_Vi (As := [.int y2]) C w (cc_X3_keptAbove N a6 h y2 hka6 e9) (mo_X3_keptAbove N a6 h y2 e9) (mb_X9_keptVersion_26 N t0 _ _ _ _ _ hJ) hz2 hka6 (by decide) rfl (fs := fs6 h a6) rfl rfl ⟨tw_2_216, tw_2_213, tw_2_214, tw_2_215, tw_1_22⟩ cd_X3_keptAbove ⟨by decide, by decide⟩ hl.1 (by first | exact Nat.le_of_ble_eq_true rfl | simp [rf_cat, cat_i, cat_l, cat_r]) rfl dX9_keptVersion_23 (fun H locs w1 => ?_)
  have hk10 := kd_keep w (mo_X3_keptAbove N a6 h y2 e9) hk0 (by decide)
  have w := w1
  exact sb_X9_keptVersion_26 C hz2 N t0 _ _ _ _ _ hJ hk10 w hl
def B_X9_keptVersion_8 (N : Nat) (t0 : Nat) (h : Hp) (x2 : Int32) (y0 : Option Nat) : Option (Hp × Option Nat) := nl y0 (B_X9_keptVersion_29 N t0 h) (fun a11 => if x2 < 0 then (B_X9_keptVersion_29 N t0 h) else ((J_X9_horizon N t0 h).bind (fun z => B_X9_keptVersion_23 N t0 z.1 x2 (some a11) x2 (some a11) z.2)))
theorem mb_X9_keptVersion_8 (N : Nat) (t0 : Nat) (h : Hp) (x2 : Int32) (y0 : Option Nat) (hJ : B_X9_keptVersion_8 N t0 h x2 y0 = some (hz, rz)) : Mo h hz := by
  unfold B_X9_keptVersion_8 at hJ
  cases ea11 : y0 with
  | none =>
    have hJ := nl_none ea11 hJ
    exact mb_X9_keptVersion_29 N t0 _ hJ
  | some a11 =>
    have hJ := nl_some ea11 hJ
    by_cases c12 : x2 < 0
    · have hJ := it_pos c12 hJ
      exact mb_X9_keptVersion_29 N t0 _ hJ
    · have hJ := it_neg c12 hJ
      obtain ⟨⟨h13, r14⟩, e15, hJ⟩ := ob_some hJ
      exact (mo_X9_horizon N t0 h e15).tr (mb_X9_keptVersion_23 N t0 _ _ _ _ _ _ hJ)
set_option maxRecDepth 100000 in
set_option maxHeartbeats 4000000 in
theorem sb_X9_keptVersion_8 (C : Cx p s m args meth c cX9_keptVersion 6 (some (.object "RingKeeper$Entry")) RX9 D cs A h0.se) (hz2 : hz.nx ≤ h0.nx + mc ∧ hz.su ≤ h0.su + ms) (N : Nat) (t0 : Nat) (h : Hp) (x2 : Int32) (y0 : Option Nat) (hJ : B_X9_keptVersion_8 N t0 h x2 y0 = some (hz, rz)) (hk0 : h.kd t0 = 12) {H : Heap} {locs : List Loc} {cells slots : Nat} (w : Wo D cs A s h0 h H locs cells slots) {ls : Array Slot} (hl : lv_has ls 6 [(0, .ref t0), (2, .int x2)]) : W p l e { frames := 5, cells := mc, slots := ms, locals := 150 } s m args below meth c H locs cells slots (MQ below (Zq D cs A hz rz) args s mc ms A) (F0 m 8 ls [va_rf y0]) := by
  obtain ⟨hx, hb, hml, hown, hts, -⟩ := id C
  unfold B_X9_keptVersion_8 at hJ
  refine jv_astore_n (i := 3) (lv' := [(3, va_rf y0), (0, .ref t0), (2, .int x2)]) hx hb dX9_keptVersion_8 rfl hl (by decide) rfl (fun ls hl => ?_)
  refine jv_aload_n hx hb dX9_keptVersion_9 rfl (lv_at hl 0 rfl) ?_
  refine jv_ifnull (tgt := 29) hx hb dX9_keptVersion_10 (by decide) (fun ea11 => ?_) (fun a11 ea11 => ?_)
  · have hJ := nl_none ea11 hJ
    exact sb_X9_keptVersion_29 C hz2 N t0 _ hJ hk0 w (lv_sub (l' := [(0, .ref t0)]) hl [1] rfl)
  · have hJ := nl_some ea11 hJ
    rw [ea11] at hl
    refine lv_iload_n hx hb dX9_keptVersion_13 rfl (lv_at hl 2 rfl) ?_
    refine lv_if_lt (tgt := 29) hx hb dX9_keptVersion_14 (by decide) (fun c12 => ?_) (fun c12 => ?_)
    · have hJ := it_pos c12 hJ
      exact sb_X9_keptVersion_29 C hz2 N t0 _ hJ hk0 w (lv_sub (l' := [(0, .ref t0)]) hl [1] rfl)
    · have hJ := it_neg c12 hJ
      refine lv_iload_n hx hb dX9_keptVersion_17 rfl (lv_at hl 2 rfl) ?_
      refine lv_aload_n hx hb dX9_keptVersion_18 rfl (lv_at hl 0 rfl) ?_
      refine lv_aload_n hx hb dX9_keptVersion_19 rfl (lv_at hl 1 rfl) ?_
      obtain ⟨⟨h13, r14⟩, e15, hJ⟩ := ob_some hJ
      refine jc_Vi (As := []) C w (cc_X9_horizon N t0 h hk0 e15) (mo_X9_horizon N t0 h e15) (mb_X9_keptVersion_23 N t0 _ _ _ _ _ _ hJ) hz2 hk0 (by decide) rfl (fs := fs12 h t0) rfl rfl ⟨tw_2_173, tw_2_170, tw_2_172, ts_7, tw_1_1⟩ cd_X9_horizon ⟨by decide, by decide⟩ hl.1 (by first | exact Nat.le_of_ble_eq_true rfl | simp [rf_cat, cat_i, cat_l, cat_r]) rfl dX9_keptVersion_20 (fun H locs w1 => ?_)
      have hk16 := kd_keep w (mo_X9_horizon N t0 h e15) hk0 (by decide)
      have w := w1
      exact sb_X9_keptVersion_23 C hz2 N t0 _ _ _ _ _ _ hJ hk16 w (lv_sub (l' := [(0, .ref t0), (2, .int x2), (3, .ref a11)]) hl [1, 2, 0] rfl)
def B_X9_keptVersion_0 (N : Nat) (t0 : Nat) (h : Hp) (x1 : Int32) (x2 : Int32) : Option (Hp × Option Nat) := dr h 8 (h.fr 1200 t0) (fun a17 => (J_X5_find N a17 h x1).bind (fun z => B_X9_keptVersion_8 N t0 z.1 x2 z.2))
theorem mb_X9_keptVersion_0 (N : Nat) (t0 : Nat) (h : Hp) (x1 : Int32) (x2 : Int32) (hJ : B_X9_keptVersion_0 N t0 h x1 x2 = some (hz, rz)) : Mo h hz := by
  unfold B_X9_keptVersion_0 at hJ
  obtain ⟨a17, ea17, -, hJ⟩ := dr_some hJ
  obtain ⟨⟨h18, r19⟩, e20, hJ⟩ := ob_some hJ
  exact (mo_X5_find N a17 h x1 e20).tr (mb_X9_keptVersion_8 N t0 _ _ _ hJ)
set_option maxRecDepth 100000 in
set_option maxHeartbeats 4000000 in
theorem sb_X9_keptVersion_0 (C : Cx p s m args meth c cX9_keptVersion 6 (some (.object "RingKeeper$Entry")) RX9 D cs A h0.se) (hz2 : hz.nx ≤ h0.nx + mc ∧ hz.su ≤ h0.su + ms) (N : Nat) (t0 : Nat) (h : Hp) (x1 : Int32) (x2 : Int32) (hJ : B_X9_keptVersion_0 N t0 h x1 x2 = some (hz, rz)) (hk0 : h.kd t0 = 12) {H : Heap} {locs : List Loc} {cells slots : Nat} (w : Wo D cs A s h0 h H locs cells slots) {ls : Array Slot} (hl : lv_has ls 6 [(0, .ref t0), (1, .int x1), (2, .int x2)]) : W p l e { frames := 5, cells := mc, slots := ms, locals := 150 } s m args below meth c H locs cells slots (MQ below (Zq D cs A hz rz) args s mc ms A) (F0 m 0 ls []) := by
  obtain ⟨hx, hb, hml, hown, hts, -⟩ := id C
  unfold B_X9_keptVersion_0 at hJ
  refine lv_aload_n hx hb dX9_keptVersion_0 rfl (lv_at hl 0 rfl) ?_
  refine fg_1200 C w hk0 tw_1_132 dX9_keptVersion_1 ?_
  refine lv_iload_n hx hb dX9_keptVersion_4 rfl (lv_at hl 1 rfl) ?_
  obtain ⟨a17, ea17, hka17, hJ⟩ := dr_some hJ
  rw [ea17]
  obtain ⟨⟨h18, r19⟩, e20, hJ⟩ := ob_some hJ
  refine jc_Vq (As := [.int x1]) C w (cc_X5_find N a17 h x1 hka17 e20) (mo_X5_find N a17 h x1 e20) (mb_X9_keptVersion_8 N t0 _ _ _ hJ) hz2 hka17 (by decide) rfl (fs := fs8 h a17) rfl rfl ⟨tw_2_202, tw_2_199, tw_2_200, tw_2_201, tw_1_2⟩ cd_X5_find ⟨by decide, by decide⟩ hl.1 (by first | exact Nat.le_of_ble_eq_true rfl | simp [rf_cat, cat_i, cat_l, cat_r]) rfl dX9_keptVersion_5 (fun H locs w1 => ?_)
  have hk21 := kd_keep w (mo_X5_find N a17 h x1 e20) hk0 (by decide)
  have w := w1
  exact sb_X9_keptVersion_8 C hz2 N t0 _ _ _ hJ hk21 w (lv_sub (l' := [(0, .ref t0), (2, .int x2)]) hl [0, 2] rfl)
def J_X9_keptVersion (N : Nat) (t0 : Nat) (h : Hp) (x1 : Int32) (x2 : Int32) : Option (Hp × Option Nat) := B_X9_keptVersion_0 N t0 h x1 x2
theorem mo_X9_keptVersion (N : Nat) (t0 : Nat) (h : Hp) (x1 : Int32) (x2 : Int32) (hJ : J_X9_keptVersion N t0 h x1 x2 = some (hz, rz)) : Mo h hz := mb_X9_keptVersion_0 N t0 h x1 x2 hJ
theorem cd_X9_keptVersion : Cd yX9_keptVersion 2 := ⟨by decide +kernel, by decide +kernel, by decide +kernel⟩
theorem cc_X9_keptVersion (N : Nat) (t0 : Nat) (h : Hp) (x1 : Int32) (x2 : Int32) (hk0 : h.kd t0 = 12) (hJ : J_X9_keptVersion N t0 h x1 x2 = some (hz, rz)) : Cq l yX9_keptVersion cX9_keptVersion 6 (some (.object "RingKeeper$Entry")) 5 150 D cs h hz [.ref t0, .int x1, .int x2] rz := by
  intro mc ms g1 g2
  refine je_any (by decide) (by simp [lg_sl, rf_cat, cat_i, cat_l, cat_r]) ?_
  intro p e s m args below meth c C hin2 w ls hl
  have hl : lv_has ls 6 [(0, .ref t0), (1, .int x1), (2, .int x2)] := hl
  exact sb_X9_keptVersion_0 C ⟨g1, g2⟩ N t0 h x1 x2 hJ hk0 w hl
end G_X9_keptVersion
section G_X9_version
variable {p : Program} {l : Launch} {e : Env} {s : State} {m : MethodId} {args : Array Value} {below : List Frame} {meth : Method} {c : Code} {D : va_G} {cs : C4} {A : Nat → Prop} {h0 hz : Hp} {mc ms : Nat} {rz : Int32}
def B_X9_version_63 (N : Nat) (t0 : Nat) (h : Hp) (y0 : Int32) : Option (Hp × Int32) := some (h, y0)
theorem mb_X9_version_63 (N : Nat) (t0 : Nat) (h : Hp) (y0 : Int32) (hJ : B_X9_version_63 N t0 h y0 = some (hz, rz)) : Mo h hz := by
  unfold B_X9_version_63 at hJ
  obtain ⟨rfl, -⟩ := rs2 hJ
  exact ⟨fun _ _ => rfl, Nat.le_refl _, Nat.le_refl _, rfl, fun _ _ => rfl⟩
set_option maxRecDepth 100000 in
set_option maxHeartbeats 4000000 in
theorem sb_X9_version_63 (C : Cx p s m args meth c cX9_version 5 (some .int) RX9 D cs A h0.se) (hz2 : hz.nx ≤ h0.nx + mc ∧ hz.su ≤ h0.su + ms) (N : Nat) (t0 : Nat) (h : Hp) (y0 : Int32) (hJ : B_X9_version_63 N t0 h y0 = some (hz, rz)) (hk0 : h.kd t0 = 12) {H : Heap} {locs : List Loc} {cells slots : Nat} (w : Wo D cs A s h0 h H locs cells slots) {ls : Array Slot} (hl : lv_has ls 5 [(0, .ref t0)]) : W p l e { frames := 6, cells := mc, slots := ms, locals := 180 } s m args below meth c H locs cells slots (MQ below (Zi D cs A hz rz) args s mc ms A) (F0 m 63 ls [.int y0]) := by
  obtain ⟨hx, hb, hml, hown, hts, -⟩ := id C
  unfold B_X9_version_63 at hJ
  obtain ⟨rfl, rfl⟩ := rs2 hJ
  exact jr_iret C w hz2 dX9_version_63
def B_X9_version_6 (N : Nat) (t0 : Nat) (h : Hp) (x3 : Int32) (y0 : Option Nat) : Option (Hp × Int32) := nl y0 (some (h, (-1 : Int32))) (fun a1 => if x3 = (0 : Int32) then (ck (h.kd a1 = 7) (some (h, h.fi 700 a1))) else (if x3 = (1 : Int32) then (ck (h.kd a1 = 7) (if (h.fi 702 a1) = 0 then (B_X9_version_63 N t0 h (0 : Int32)) else (B_X9_version_63 N t0 h (1 : Int32)))) else (if x3 = (2 : Int32) then (ck (h.kd a1 = 7) (some (h, h.fi 701 a1))) else (some (h, (-1 : Int32))))))
theorem mb_X9_version_6 (N : Nat) (t0 : Nat) (h : Hp) (x3 : Int32) (y0 : Option Nat) (hJ : B_X9_version_6 N t0 h x3 y0 = some (hz, rz)) : Mo h hz := by
  unfold B_X9_version_6 at hJ
  cases ea1 : y0 with
  | none =>
    have hJ := nl_none ea1 hJ
    obtain ⟨rfl, -⟩ := rs2 hJ
    exact ⟨fun _ _ => rfl, Nat.le_refl _, Nat.le_refl _, rfl, fun _ _ => rfl⟩
  | some a1 =>
    have hJ := nl_some ea1 hJ
    by_cases c2 : x3 = (0 : Int32)
    · have hJ := it_pos c2 hJ
      obtain ⟨-, hJ⟩ := ck_some hJ
      obtain ⟨rfl, -⟩ := rs2 hJ
      exact ⟨fun _ _ => rfl, Nat.le_refl _, Nat.le_refl _, rfl, fun _ _ => rfl⟩
    · have hJ := it_neg c2 hJ
      by_cases c4 : x3 = (1 : Int32)
      · have hJ := it_pos c4 hJ
        obtain ⟨-, hJ⟩ := ck_some hJ
        by_cases c6 : (h.fi 702 a1) = 0
        · have hJ := it_pos c6 hJ
          exact mb_X9_version_63 N t0 _ _ hJ
        · have hJ := it_neg c6 hJ
          exact mb_X9_version_63 N t0 _ _ hJ
      · have hJ := it_neg c4 hJ
        by_cases c7 : x3 = (2 : Int32)
        · have hJ := it_pos c7 hJ
          obtain ⟨-, hJ⟩ := ck_some hJ
          obtain ⟨rfl, -⟩ := rs2 hJ
          exact ⟨fun _ _ => rfl, Nat.le_refl _, Nat.le_refl _, rfl, fun _ _ => rfl⟩
        · have hJ := it_neg c7 hJ
          obtain ⟨rfl, -⟩ := rs2 hJ
          exact ⟨fun _ _ => rfl, Nat.le_refl _, Nat.le_refl _, rfl, fun _ _ => rfl⟩
set_option maxRecDepth 100000 in
set_option maxHeartbeats 4000000 in
theorem sb_X9_version_6 (C : Cx p s m args meth c cX9_version 5 (some .int) RX9 D cs A h0.se) (hz2 : hz.nx ≤ h0.nx + mc ∧ hz.su ≤ h0.su + ms) (N : Nat) (t0 : Nat) (h : Hp) (x3 : Int32) (y0 : Option Nat) (hJ : B_X9_version_6 N t0 h x3 y0 = some (hz, rz)) (hk0 : h.kd t0 = 12) {H : Heap} {locs : List Loc} {cells slots : Nat} (w : Wo D cs A s h0 h H locs cells slots) {ls : Array Slot} (hl : lv_has ls 5 [(0, .ref t0), (3, .int x3)]) : W p l e { frames := 6, cells := mc, slots := ms, locals := 180 } s m args below meth c H locs cells slots (MQ below (Zi D cs A hz rz) args s mc ms A) (F0 m 6 ls [va_rf y0]) := by
  obtain ⟨hx, hb, hml, hown, hts, -⟩ := id C
  unfold B_X9_version_6 at hJ
  refine jv_astore (i := 4) (lv' := [(4, va_rf y0), (0, .ref t0), (3, .int x3)]) hx hb dX9_version_6 hl (by decide) rfl (fun ls hl => ?_)
  refine jv_aload hx hb dX9_version_8 (lv_at hl 0 rfl) ?_
  refine jv_ifnonnull (tgt := 15) hx hb dX9_version_10 (by decide) (fun a1 ea1 => ?_) (fun ea1 => ?_)
  · have hJ := nl_some ea1 hJ
    rw [ea1] at hl
    refine lv_iload_n hx hb dX9_version_15 rfl (lv_at hl 2 rfl) ?_
    by_cases c2 : x3 = (0 : Int32)
    · have hJ := it_pos c2 hJ
      refine lv_tableIn (tgt := 44) hx hb dX9_version_16 (by rw [c2]; decide) (by rw [c2]; decide) (off := 28) (by rw [c2]; rfl) (by decide) ?_
      refine lv_aload hx hb dX9_version_44 (lv_at hl 0 rfl) ?_
      obtain ⟨hk3, hJ⟩ := ck_some hJ
      refine fg_700 C w hk3 tw_5_17 dX9_version_46 ?_
      obtain ⟨rfl, rfl⟩ := rs2 hJ
      exact jr_iret C w hz2 dX9_version_49
    · have hJ := it_neg c2 hJ
      by_cases c4 : x3 = (1 : Int32)
      · have hJ := it_pos c4 hJ
        refine lv_tableIn (tgt := 50) hx hb dX9_version_16 (by rw [c4]; decide) (by rw [c4]; decide) (off := 34) (by rw [c4]; rfl) (by decide) ?_
        refine lv_aload hx hb dX9_version_50 (lv_at hl 0 rfl) ?_
        obtain ⟨hk5, hJ⟩ := ck_some hJ
        refine fg_702 C w hk5 tw_5_24 dX9_version_52 ?_
        refine lv_if_eq (tgt := 62) hx hb dX9_version_55 (by decide) (fun c6 => ?_) (fun c6 => ?_)
        · have hJ := it_pos c6 hJ
          refine lv_iconst (v := (0 : Int32)) hx hb dX9_version_62 (by decide) ?_
          exact sb_X9_version_63 C hz2 N t0 _ _ hJ hk0 w (lv_sub (l' := [(0, .ref t0)]) hl [1] rfl)
        · have hJ := it_neg c6 hJ
          refine lv_iconst (v := (1 : Int32)) hx hb dX9_version_58 (by decide) ?_
          refine lv_goto (tgt := 63) hx hb dX9_version_59 (by decide) ?_
          exact sb_X9_version_63 C hz2 N t0 _ _ hJ hk0 w (lv_sub (l' := [(0, .ref t0)]) hl [1] rfl)
      · have hJ := it_neg c4 hJ
        by_cases c7 : x3 = (2 : Int32)
        · have hJ := it_pos c7 hJ
          refine lv_tableIn (tgt := 64) hx hb dX9_version_16 (by rw [c7]; decide) (by rw [c7]; decide) (off := 48) (by rw [c7]; rfl) (by decide) ?_
          refine lv_aload hx hb dX9_version_64 (lv_at hl 0 rfl) ?_
          obtain ⟨hk8, hJ⟩ := ck_some hJ
          refine fg_701 C w hk8 tw_5_19 dX9_version_66 ?_
          obtain ⟨rfl, rfl⟩ := rs2 hJ
          exact jr_iret C w hz2 dX9_version_69
        · have hJ := it_neg c7 hJ
          refine lv_tableOut (tgt := 70) hx hb dX9_version_16 (by have := ne_ti (n := 0) rfl c2; have := ne_ti (n := 1) rfl c4; have := ne_ti (n := 2) rfl c7;  omega) (by decide) ?_
          refine lv_iconst (v := (-1 : Int32)) hx hb dX9_version_70 (by decide) ?_
          obtain ⟨rfl, rfl⟩ := rs2 hJ
          exact jr_iret C w hz2 dX9_version_71
  · have hJ := nl_none ea1 hJ
    refine lv_iconst (v := (-1 : Int32)) hx hb dX9_version_13 (by decide) ?_
    obtain ⟨rfl, rfl⟩ := rs2 hJ
    exact jr_iret C w hz2 dX9_version_14
def B_X9_version_0 (N : Nat) (t0 : Nat) (h : Hp) (x1 : Int32) (x2 : Int32) (x3 : Int32) : Option (Hp × Int32) := (J_X9_keptVersion N t0 h x1 x2).bind (fun z => B_X9_version_6 N t0 z.1 x3 z.2)
theorem mb_X9_version_0 (N : Nat) (t0 : Nat) (h : Hp) (x1 : Int32) (x2 : Int32) (x3 : Int32) (hJ : B_X9_version_0 N t0 h x1 x2 x3 = some (hz, rz)) : Mo h hz := by
  unfold B_X9_version_0 at hJ
  obtain ⟨⟨h9, r10⟩, e11, hJ⟩ := ob_some hJ
  exact (mo_X9_keptVersion N t0 h x1 x2 e11).tr (mb_X9_version_6 N t0 _ _ _ hJ)
set_option maxRecDepth 100000 in
set_option maxHeartbeats 4000000 in
theorem sb_X9_version_0 (C : Cx p s m args meth c cX9_version 5 (some .int) RX9 D cs A h0.se) (hz2 : hz.nx ≤ h0.nx + mc ∧ hz.su ≤ h0.su + ms) (N : Nat) (t0 : Nat) (h : Hp) (x1 : Int32) (x2 : Int32) (x3 : Int32) (hJ : B_X9_version_0 N t0 h x1 x2 x3 = some (hz, rz)) (hk0 : h.kd t0 = 12) {H : Heap} {locs : List Loc} {cells slots : Nat} (w : Wo D cs A s h0 h H locs cells slots) {ls : Array Slot} (hl : lv_has ls 5 [(0, .ref t0), (1, .int x1), (2, .int x2), (3, .int x3)]) : W p l e { frames := 6, cells := mc, slots := ms, locals := 180 } s m args below meth c H locs cells slots (MQ below (Zi D cs A hz rz) args s mc ms A) (F0 m 0 ls []) := by
  obtain ⟨hx, hb, hml, hown, hts, -⟩ := id C
  unfold B_X9_version_0 at hJ
  refine lv_aload_n hx hb dX9_version_0 rfl (lv_at hl 0 rfl) ?_
  refine lv_iload_n hx hb dX9_version_1 rfl (lv_at hl 1 rfl) ?_
  refine lv_iload_n hx hb dX9_version_2 rfl (lv_at hl 2 rfl) ?_
  obtain ⟨⟨h9, r10⟩, e11, hJ⟩ := ob_some hJ
  refine jc_Vq (As := [.int x1, .int x2]) C w (cc_X9_keptVersion N t0 h x1 x2 hk0 e11) (mo_X9_keptVersion N t0 h x1 x2 e11) (mb_X9_version_6 N t0 _ _ _ hJ) hz2 hk0 (by decide) rfl (fs := fs12 h t0) rfl rfl ⟨tw_2_198, tw_2_195, tw_2_197, ts_8, tw_1_1⟩ cd_X9_keptVersion ⟨by decide, by decide⟩ hl.1 (by first | exact Nat.le_of_ble_eq_true rfl | simp [rf_cat, cat_i, cat_l, cat_r]) rfl dX9_version_3 (fun H locs w1 => ?_)
  have hk12 := kd_keep w (mo_X9_keptVersion N t0 h x1 x2 e11) hk0 (by decide)
  have w := w1
  exact sb_X9_version_6 C hz2 N t0 _ _ _ hJ hk12 w (lv_sub (l' := [(0, .ref t0), (3, .int x3)]) hl [0, 3] rfl)
def J_X9_version (N : Nat) (t0 : Nat) (h : Hp) (x1 : Int32) (x2 : Int32) (x3 : Int32) : Option (Hp × Int32) := B_X9_version_0 N t0 h x1 x2 x3
theorem mo_X9_version (N : Nat) (t0 : Nat) (h : Hp) (x1 : Int32) (x2 : Int32) (x3 : Int32) (hJ : J_X9_version N t0 h x1 x2 x3 = some (hz, rz)) : Mo h hz := mb_X9_version_0 N t0 h x1 x2 x3 hJ
theorem cd_X9_version : Cd yX9_version 3 := ⟨by decide +kernel, by decide +kernel, by decide +kernel⟩
theorem cc_X9_version (N : Nat) (t0 : Nat) (h : Hp) (x1 : Int32) (x2 : Int32) (x3 : Int32) (hk0 : h.kd t0 = 12) (hJ : J_X9_version N t0 h x1 x2 x3 = some (hz, rz)) : Ci l yX9_version cX9_version 5 (some .int) 6 180 D cs h hz [.ref t0, .int x1, .int x2, .int x3] rz := by
  intro mc ms g1 g2
  refine je_any (by decide) (by simp [lg_sl, rf_cat, cat_i, cat_l, cat_r]) ?_
  intro p e s m args below meth c C hin2 w ls hl
  have hl : lv_has ls 5 [(0, .ref t0), (1, .int x1), (2, .int x2), (3, .int x3)] := hl
  exact sb_X9_version_0 C ⟨g1, g2⟩ N t0 h x1 x2 x3 hJ hk0 w hl
end G_X9_version
section G_X9_versionValue
variable {p : Program} {l : Launch} {e : Env} {s : State} {m : MethodId} {args : Array Value} {below : List Frame} {meth : Method} {c : Code} {D : va_G} {cs : C4} {A : Nat → Prop} {h0 hz : Hp} {mc ms : Nat} {rz : Int64}
def B_X9_versionValue_26 (N : Nat) (t0 : Nat) (h : Hp) (y0 : Int64) : Option (Hp × Int64) := some (h, y0)
theorem mb_X9_versionValue_26 (N : Nat) (t0 : Nat) (h : Hp) (y0 : Int64) (hJ : B_X9_versionValue_26 N t0 h y0 = some (hz, rz)) : Mo h hz := by
  unfold B_X9_versionValue_26 at hJ
  obtain ⟨rfl, -⟩ := rs2 hJ
  exact ⟨fun _ _ => rfl, Nat.le_refl _, Nat.le_refl _, rfl, fun _ _ => rfl⟩
set_option maxRecDepth 100000 in
set_option maxHeartbeats 4000000 in
theorem sb_X9_versionValue_26 (C : Cx p s m args meth c cX9_versionValue 4 (some .long) RX9 D cs A h0.se) (hz2 : hz.nx ≤ h0.nx + mc ∧ hz.su ≤ h0.su + ms) (N : Nat) (t0 : Nat) (h : Hp) (y0 : Int64) (hJ : B_X9_versionValue_26 N t0 h y0 = some (hz, rz)) (hk0 : h.kd t0 = 12) {H : Heap} {locs : List Loc} {cells slots : Nat} (w : Wo D cs A s h0 h H locs cells slots) {ls : Array Slot} (hl : lv_has ls 4 [(0, .ref t0)]) : W p l e { frames := 6, cells := mc, slots := ms, locals := 180 } s m args below meth c H locs cells slots (MQ below (Zl D cs A hz rz) args s mc ms A) (F0 m 26 ls [.long y0]) := by
  obtain ⟨hx, hb, hml, hown, hts, -⟩ := id C
  unfold B_X9_versionValue_26 at hJ
  obtain ⟨rfl, rfl⟩ := rs2 hJ
  exact jr_lret C w hz2 dX9_versionValue_26
def B_X9_versionValue_18 (N : Nat) (t0 : Nat) (h : Hp) : Option (Hp × Int64) := B_X9_versionValue_26 N t0 h (0 : Int64)
theorem mb_X9_versionValue_18 (N : Nat) (t0 : Nat) (h : Hp) (hJ : B_X9_versionValue_18 N t0 h = some (hz, rz)) : Mo h hz := by
  unfold B_X9_versionValue_18 at hJ
  exact mb_X9_versionValue_26 N t0 _ _ hJ
set_option maxRecDepth 100000 in
set_option maxHeartbeats 4000000 in
theorem sb_X9_versionValue_18 (C : Cx p s m args meth c cX9_versionValue 4 (some .long) RX9 D cs A h0.se) (hz2 : hz.nx ≤ h0.nx + mc ∧ hz.su ≤ h0.su + ms) (N : Nat) (t0 : Nat) (h : Hp) (hJ : B_X9_versionValue_18 N t0 h = some (hz, rz)) (hk0 : h.kd t0 = 12) {H : Heap} {locs : List Loc} {cells slots : Nat} (w : Wo D cs A s h0 h H locs cells slots) {ls : Array Slot} (hl : lv_has ls 4 [(0, .ref t0)]) : W p l e { frames := 6, cells := mc, slots := ms, locals := 180 } s m args below meth c H locs cells slots (MQ below (Zl D cs A hz rz) args s mc ms A) (F0 m 18 ls []) := by
  obtain ⟨hx, hb, hml, hown, hts, -⟩ := id C
  unfold B_X9_versionValue_18 at hJ
  refine lv_lconst (v := (0 : Int64)) hx hb dX9_versionValue_18 (by decide) ?_
  refine lv_goto (tgt := 26) hx hb dX9_versionValue_19 (by decide) ?_
  exact sb_X9_versionValue_26 C hz2 N t0 _ _ hJ hk0 w hl
def B_X9_versionValue_6 (N : Nat) (t0 : Nat) (h : Hp) (y0 : Option Nat) : Option (Hp × Int64) := nl y0 (B_X9_versionValue_18 N t0 h) (fun a1 => ck (h.kd a1 = 7) (if (h.fi 702 a1) = 0 then (B_X9_versionValue_18 N t0 h) else (B_X9_versionValue_26 N t0 h (h.fl 703 a1))))
theorem mb_X9_versionValue_6 (N : Nat) (t0 : Nat) (h : Hp) (y0 : Option Nat) (hJ : B_X9_versionValue_6 N t0 h y0 = some (hz, rz)) : Mo h hz := by
  unfold B_X9_versionValue_6 at hJ
  cases ea1 : y0 with
  | none =>
    have hJ := nl_none ea1 hJ
    exact mb_X9_versionValue_18 N t0 _ hJ
  | some a1 =>
    have hJ := nl_some ea1 hJ
    obtain ⟨-, hJ⟩ := ck_some hJ
    by_cases c3 : (h.fi 702 a1) = 0
    · have hJ := it_pos c3 hJ
      exact mb_X9_versionValue_18 N t0 _ hJ
    · have hJ := it_neg c3 hJ
      exact mb_X9_versionValue_26 N t0 _ _ hJ
set_option maxRecDepth 100000 in
set_option maxHeartbeats 4000000 in
theorem sb_X9_versionValue_6 (C : Cx p s m args meth c cX9_versionValue 4 (some .long) RX9 D cs A h0.se) (hz2 : hz.nx ≤ h0.nx + mc ∧ hz.su ≤ h0.su + ms) (N : Nat) (t0 : Nat) (h : Hp) (y0 : Option Nat) (hJ : B_X9_versionValue_6 N t0 h y0 = some (hz, rz)) (hk0 : h.kd t0 = 12) {H : Heap} {locs : List Loc} {cells slots : Nat} (w : Wo D cs A s h0 h H locs cells slots) {ls : Array Slot} (hl : lv_has ls 4 [(0, .ref t0)]) : W p l e { frames := 6, cells := mc, slots := ms, locals := 180 } s m args below meth c H locs cells slots (MQ below (Zl D cs A hz rz) args s mc ms A) (F0 m 6 ls [va_rf y0]) := by
  obtain ⟨hx, hb, hml, hown, hts, -⟩ := id C
  unfold B_X9_versionValue_6 at hJ
  refine jv_astore_n (i := 3) (lv' := [(3, va_rf y0), (0, .ref t0)]) hx hb dX9_versionValue_6 rfl hl (by decide) rfl (fun ls hl => ?_)
  refine jv_aload_n hx hb dX9_versionValue_7 rfl (lv_at hl 0 rfl) ?_
  refine jv_ifnull (tgt := 18) hx hb dX9_versionValue_8 (by decide) (fun ea1 => ?_) (fun a1 ea1 => ?_)
  · have hJ := nl_none ea1 hJ
    exact sb_X9_versionValue_18 C hz2 N t0 _ hJ hk0 w (lv_sub (l' := [(0, .ref t0)]) hl [1] rfl)
  · have hJ := nl_some ea1 hJ
    rw [ea1] at hl
    refine lv_aload_n hx hb dX9_versionValue_11 rfl (lv_at hl 0 rfl) ?_
    obtain ⟨hk2, hJ⟩ := ck_some hJ
    refine fg_702 C w hk2 tw_5_24 dX9_versionValue_12 ?_
    refine lv_if_ne (tgt := 22) hx hb dX9_versionValue_15 (by decide) (fun c3 => ?_) (fun c3 => ?_)
    · have hJ := it_neg c3 hJ
      refine lv_aload_n hx hb dX9_versionValue_22 rfl (lv_at hl 0 rfl) ?_
      refine fg_703 C w hk2 tw_5_28 dX9_versionValue_23 ?_
      exact sb_X9_versionValue_26 C hz2 N t0 _ _ hJ hk0 w (lv_sub (l' := [(0, .ref t0)]) hl [1] rfl)
    · have hJ := it_pos c3 hJ
      exact sb_X9_versionValue_18 C hz2 N t0 _ hJ hk0 w (lv_sub (l' := [(0, .ref t0)]) hl [1] rfl)
def B_X9_versionValue_0 (N : Nat) (t0 : Nat) (h : Hp) (x1 : Int32) (x2 : Int32) : Option (Hp × Int64) := (J_X9_keptVersion N t0 h x1 x2).bind (fun z => B_X9_versionValue_6 N t0 z.1 z.2)
theorem mb_X9_versionValue_0 (N : Nat) (t0 : Nat) (h : Hp) (x1 : Int32) (x2 : Int32) (hJ : B_X9_versionValue_0 N t0 h x1 x2 = some (hz, rz)) : Mo h hz := by
  unfold B_X9_versionValue_0 at hJ
  obtain ⟨⟨h4, r5⟩, e6, hJ⟩ := ob_some hJ
  exact (mo_X9_keptVersion N t0 h x1 x2 e6).tr (mb_X9_versionValue_6 N t0 _ _ hJ)
set_option maxRecDepth 100000 in
set_option maxHeartbeats 4000000 in
theorem sb_X9_versionValue_0 (C : Cx p s m args meth c cX9_versionValue 4 (some .long) RX9 D cs A h0.se) (hz2 : hz.nx ≤ h0.nx + mc ∧ hz.su ≤ h0.su + ms) (N : Nat) (t0 : Nat) (h : Hp) (x1 : Int32) (x2 : Int32) (hJ : B_X9_versionValue_0 N t0 h x1 x2 = some (hz, rz)) (hk0 : h.kd t0 = 12) {H : Heap} {locs : List Loc} {cells slots : Nat} (w : Wo D cs A s h0 h H locs cells slots) {ls : Array Slot} (hl : lv_has ls 4 [(0, .ref t0), (1, .int x1), (2, .int x2)]) : W p l e { frames := 6, cells := mc, slots := ms, locals := 180 } s m args below meth c H locs cells slots (MQ below (Zl D cs A hz rz) args s mc ms A) (F0 m 0 ls []) := by
  obtain ⟨hx, hb, hml, hown, hts, -⟩ := id C
  unfold B_X9_versionValue_0 at hJ
  refine lv_aload_n hx hb dX9_versionValue_0 rfl (lv_at hl 0 rfl) ?_
  refine lv_iload_n hx hb dX9_versionValue_1 rfl (lv_at hl 1 rfl) ?_
  refine lv_iload_n hx hb dX9_versionValue_2 rfl (lv_at hl 2 rfl) ?_
  obtain ⟨⟨h4, r5⟩, e6, hJ⟩ := ob_some hJ
  refine jc_Vq (As := [.int x1, .int x2]) C w (cc_X9_keptVersion N t0 h x1 x2 hk0 e6) (mo_X9_keptVersion N t0 h x1 x2 e6) (mb_X9_versionValue_6 N t0 _ _ hJ) hz2 hk0 (by decide) rfl (fs := fs12 h t0) rfl rfl ⟨tw_2_198, tw_2_195, tw_2_197, ts_8, tw_1_1⟩ cd_X9_keptVersion ⟨by decide, by decide⟩ hl.1 (by first | exact Nat.le_of_ble_eq_true rfl | simp [rf_cat, cat_i, cat_l, cat_r]) rfl dX9_versionValue_3 (fun H locs w1 => ?_)
  have hk7 := kd_keep w (mo_X9_keptVersion N t0 h x1 x2 e6) hk0 (by decide)
  have w := w1
  exact sb_X9_versionValue_6 C hz2 N t0 _ _ hJ hk7 w (lv_sub (l' := [(0, .ref t0)]) hl [0] rfl)
def J_X9_versionValue (N : Nat) (t0 : Nat) (h : Hp) (x1 : Int32) (x2 : Int32) : Option (Hp × Int64) := B_X9_versionValue_0 N t0 h x1 x2
theorem mo_X9_versionValue (N : Nat) (t0 : Nat) (h : Hp) (x1 : Int32) (x2 : Int32) (hJ : J_X9_versionValue N t0 h x1 x2 = some (hz, rz)) : Mo h hz := mb_X9_versionValue_0 N t0 h x1 x2 hJ
theorem cd_X9_versionValue : Cd yX9_versionValue 2 := ⟨by decide +kernel, by decide +kernel, by decide +kernel⟩
theorem cc_X9_versionValue (N : Nat) (t0 : Nat) (h : Hp) (x1 : Int32) (x2 : Int32) (hk0 : h.kd t0 = 12) (hJ : J_X9_versionValue N t0 h x1 x2 = some (hz, rz)) : Cl l yX9_versionValue cX9_versionValue 4 (some .long) 6 180 D cs h hz [.ref t0, .int x1, .int x2] rz := by
  intro mc ms g1 g2
  refine je_any (by decide) (by simp [lg_sl, rf_cat, cat_i, cat_l, cat_r]) ?_
  intro p e s m args below meth c C hin2 w ls hl
  have hl : lv_has ls 4 [(0, .ref t0), (1, .int x1), (2, .int x2)] := hl
  exact sb_X9_versionValue_0 C ⟨g1, g2⟩ N t0 h x1 x2 hJ hk0 w hl
end G_X9_versionValue
section G_X9_withMoment
variable {p : Program} {l : Launch} {e : Env} {s : State} {m : MethodId} {args : Array Value} {below : List Frame} {meth : Method} {c : Code} {D : va_G} {cs : C4} {A : Nat → Prop} {h0 hz : Hp} {mc ms : Nat} {rz : Option Nat}
def B_X9_withMoment_33 (N : Nat) (t0 : Nat) (h : Hp) (y0 : Option Nat) : Option (Hp × Option Nat) := some (h, y0)
theorem mb_X9_withMoment_33 (N : Nat) (t0 : Nat) (h : Hp) (y0 : Option Nat) (hJ : B_X9_withMoment_33 N t0 h y0 = some (hz, rz)) : Mo h hz := by
  unfold B_X9_withMoment_33 at hJ
  obtain ⟨rfl, -⟩ := rs2 hJ
  exact ⟨fun _ _ => rfl, Nat.le_refl _, Nat.le_refl _, rfl, fun _ _ => rfl⟩
set_option maxRecDepth 100000 in
set_option maxHeartbeats 4000000 in
theorem sb_X9_withMoment_33 (C : Cx p s m args meth c cX9_withMoment 2 (some (.object "RingKeeper$Transaction")) RX9 D cs A h0.se) (hz2 : hz.nx ≤ h0.nx + mc ∧ hz.su ≤ h0.su + ms) (N : Nat) (t0 : Nat) (h : Hp) (y0 : Option Nat) (hJ : B_X9_withMoment_33 N t0 h y0 = some (hz, rz)) (hk0 : h.kd t0 = 12) {H : Heap} {locs : List Loc} {cells slots : Nat} (w : Wo D cs A s h0 h H locs cells slots) {ls : Array Slot} (hl : lv_has ls 2 [(0, .ref t0)]) : W p l e { frames := 3, cells := mc, slots := ms, locals := 90 } s m args below meth c H locs cells slots (MQ below (Zq D cs A hz rz) args s mc ms A) (F0 m 33 ls [va_rf y0]) := by
  obtain ⟨hx, hb, hml, hown, hts, -⟩ := id C
  unfold B_X9_withMoment_33 at hJ
  obtain ⟨rfl, rfl⟩ := rs2 hJ
  exact jr_aret (r := y0) C w (Or.inl ⟨_, rfl⟩) hz2 dX9_withMoment_33
def B_X9_withMoment_26 (N : Nat) (t0 : Nat) (h : Hp) (y0 : Option Nat) : Option (Hp × Option Nat) := dr h 10 y0 (fun a1 => B_X9_withMoment_33 N t0 h (some a1))
theorem mb_X9_withMoment_26 (N : Nat) (t0 : Nat) (h : Hp) (y0 : Option Nat) (hJ : B_X9_withMoment_26 N t0 h y0 = some (hz, rz)) : Mo h hz := by
  unfold B_X9_withMoment_26 at hJ
  obtain ⟨a1, ea1, -, hJ⟩ := dr_some hJ
  exact mb_X9_withMoment_33 N t0 _ _ hJ
set_option maxRecDepth 100000 in
set_option maxHeartbeats 4000000 in
theorem sb_X9_withMoment_26 (C : Cx p s m args meth c cX9_withMoment 2 (some (.object "RingKeeper$Transaction")) RX9 D cs A h0.se) (hz2 : hz.nx ≤ h0.nx + mc ∧ hz.su ≤ h0.su + ms) (N : Nat) (t0 : Nat) (h : Hp) (y0 : Option Nat) (hJ : B_X9_withMoment_26 N t0 h y0 = some (hz, rz)) (hk0 : h.kd t0 = 12) {H : Heap} {locs : List Loc} {cells slots : Nat} (w : Wo D cs A s h0 h H locs cells slots) {ls : Array Slot} (hl : lv_has ls 2 [(0, .ref t0)]) : W p l e { frames := 3, cells := mc, slots := ms, locals := 90 } s m args below meth c H locs cells slots (MQ below (Zq D cs A hz rz) args s mc ms A) (F0 m 26 ls [va_rf y0]) := by
  obtain ⟨hx, hb, hml, hown, hts, -⟩ := id C
  unfold B_X9_withMoment_26 at hJ
  obtain ⟨a1, ea1, hka1, hJ⟩ := dr_some hJ
  rw [ea1]
  refine va_castS hx hb hown (hts _ tw_1_221) (C.2.2.2.2.2.1.1 10 _ rfl).2 (recv_at C w hka1 (by decide) rfl (fs := fs10 h a1) rfl) dX9_withMoment_26 ?_
  refine lv_goto (tgt := 33) hx hb dX9_withMoment_29 (by decide) ?_
  exact sb_X9_withMoment_33 C hz2 N t0 _ _ hJ hk0 w hl
def B_X9_withMoment_32 (N : Nat) (t0 : Nat) (h : Hp) : Option (Hp × Option Nat) := B_X9_withMoment_33 N t0 h none
theorem mb_X9_withMoment_32 (N : Nat) (t0 : Nat) (h : Hp) (hJ : B_X9_withMoment_32 N t0 h = some (hz, rz)) : Mo h hz := by
  unfold B_X9_withMoment_32 at hJ
  exact mb_X9_withMoment_33 N t0 _ _ hJ
set_option maxRecDepth 100000 in
set_option maxHeartbeats 4000000 in
theorem sb_X9_withMoment_32 (C : Cx p s m args meth c cX9_withMoment 2 (some (.object "RingKeeper$Transaction")) RX9 D cs A h0.se) (hz2 : hz.nx ≤ h0.nx + mc ∧ hz.su ≤ h0.su + ms) (N : Nat) (t0 : Nat) (h : Hp) (hJ : B_X9_withMoment_32 N t0 h = some (hz, rz)) (hk0 : h.kd t0 = 12) {H : Heap} {locs : List Loc} {cells slots : Nat} (w : Wo D cs A s h0 h H locs cells slots) {ls : Array Slot} (hl : lv_has ls 2 [(0, .ref t0)]) : W p l e { frames := 3, cells := mc, slots := ms, locals := 90 } s m args below meth c H locs cells slots (MQ below (Zq D cs A hz rz) args s mc ms A) (F0 m 32 ls []) := by
  obtain ⟨hx, hb, hml, hown, hts, -⟩ := id C
  unfold B_X9_withMoment_32 at hJ
  refine lv_null hx hb dX9_withMoment_32 ?_
  change W _ _ _ _ _ _ _ _ _ _ _ _ _ _ _ (F0 m 33 ls [va_rf none])
  exact sb_X9_withMoment_33 C hz2 N t0 _ _ hJ hk0 w hl
def B_X9_withMoment_13 (N : Nat) (t0 : Nat) (h : Hp) (x1 : Int32) (y0 : Int32) (y1 : Int32) : Option (Hp × Option Nat) := if y1 < y0 then (B_X9_withMoment_32 N t0 h) else (dr h 2 (h.fr 1203 t0) (fun a3 => (J_Jx4a65c_get_915e3 N a3 h (x1 - (1 : Int32))).bind (fun z => B_X9_withMoment_26 N t0 z.1 z.2)))
theorem mb_X9_withMoment_13 (N : Nat) (t0 : Nat) (h : Hp) (x1 : Int32) (y0 : Int32) (y1 : Int32) (hJ : B_X9_withMoment_13 N t0 h x1 y0 y1 = some (hz, rz)) : Mo h hz := by
  unfold B_X9_withMoment_13 at hJ
  by_cases c2 : y1 < y0
  · have hJ := it_pos c2 hJ
    exact mb_X9_withMoment_32 N t0 _ hJ
  · have hJ := it_neg c2 hJ
    obtain ⟨a3, ea3, -, hJ⟩ := dr_some hJ
    obtain ⟨⟨h4, r5⟩, e6, hJ⟩ := ob_some hJ
    exact (mo_Jx4a65c_get_915e3 N a3 h (x1 - (1 : Int32)) e6).tr (mb_X9_withMoment_26 N t0 _ _ hJ)
set_option maxRecDepth 100000 in
set_option maxHeartbeats 4000000 in
theorem sb_X9_withMoment_13 (C : Cx p s m args meth c cX9_withMoment 2 (some (.object "RingKeeper$Transaction")) RX9 D cs A h0.se) (hz2 : hz.nx ≤ h0.nx + mc ∧ hz.su ≤ h0.su + ms) (N : Nat) (t0 : Nat) (h : Hp) (x1 : Int32) (y0 : Int32) (y1 : Int32) (hJ : B_X9_withMoment_13 N t0 h x1 y0 y1 = some (hz, rz)) (hk0 : h.kd t0 = 12) {H : Heap} {locs : List Loc} {cells slots : Nat} (w : Wo D cs A s h0 h H locs cells slots) {ls : Array Slot} (hl : lv_has ls 2 [(0, .ref t0), (1, .int x1)]) : W p l e { frames := 3, cells := mc, slots := ms, locals := 90 } s m args below meth c H locs cells slots (MQ below (Zq D cs A hz rz) args s mc ms A) (F0 m 13 ls [.int y1, .int y0]) := by
  obtain ⟨hx, hb, hml, hown, hts, -⟩ := id C
  unfold B_X9_withMoment_13 at hJ
  refine lv_icmp_gt (tgt := 32) hx hb dX9_withMoment_13 (by decide) (fun c2 => ?_) (fun c2 => ?_)
  · have hJ := it_pos c2 hJ
    exact sb_X9_withMoment_32 C hz2 N t0 _ hJ hk0 w (lv_sub (l' := [(0, .ref t0)]) hl [0] rfl)
  · have hJ := it_neg c2 hJ
    refine lv_aload_n hx hb dX9_withMoment_16 rfl (lv_at hl 0 rfl) ?_
    refine fg_1203 C w hk0 tw_1_135 dX9_withMoment_17 ?_
    refine lv_iload_n hx hb dX9_withMoment_20 rfl (lv_at hl 1 rfl) ?_
    refine lv_iconst (v := (1 : Int32)) hx hb dX9_withMoment_21 (by decide) ?_
    refine lv_isub hx hb dX9_withMoment_22 ?_
    obtain ⟨a3, ea3, hka3, hJ⟩ := dr_some hJ
    rw [ea3]
    obtain ⟨⟨h4, r5⟩, e6, hJ⟩ := ob_some hJ
    refine jc_Vq (As := [.int (x1 - (1 : Int32))]) C w (cc_Jx4a65c_get_915e3 N a3 h (x1 - (1 : Int32)) hka3 e6) (mo_Jx4a65c_get_915e3 N a3 h (x1 - (1 : Int32)) e6) (mb_X9_withMoment_26 N t0 _ _ hJ) hz2 hka3 (by decide) rfl (fs := fs2 h a3) rfl rfl ⟨tw_2_65, tw_2_62, tw_2_63, tw_2_64, tw_1_5⟩ cd_Jx4a65c_get_915e3 ⟨by decide, by decide⟩ hl.1 (by first | exact Nat.le_of_ble_eq_true rfl | simp [rf_cat, cat_i, cat_l, cat_r]) rfl dX9_withMoment_23 (fun H locs w1 => ?_)
    have hk7 := kd_keep w (mo_Jx4a65c_get_915e3 N a3 h (x1 - (1 : Int32)) e6) hk0 (by decide)
    have w := w1
    exact sb_X9_withMoment_26 C hz2 N t0 _ _ hJ hk7 w (lv_sub (l' := [(0, .ref t0)]) hl [0] rfl)
def B_X9_withMoment_0 (N : Nat) (t0 : Nat) (h : Hp) (x1 : Int32) : Option (Hp × Option Nat) := if x1 < (1 : Int32) then (B_X9_withMoment_32 N t0 h) else (dr h 2 (h.fr 1203 t0) (fun a9 => (J_Jx4a65c_size_8abf5 N a9 h).bind (fun z => B_X9_withMoment_13 N t0 z.1 x1 x1 z.2)))
theorem mb_X9_withMoment_0 (N : Nat) (t0 : Nat) (h : Hp) (x1 : Int32) (hJ : B_X9_withMoment_0 N t0 h x1 = some (hz, rz)) : Mo h hz := by
  unfold B_X9_withMoment_0 at hJ
  by_cases c8 : x1 < (1 : Int32)
  · have hJ := it_pos c8 hJ
    exact mb_X9_withMoment_32 N t0 _ hJ
  · have hJ := it_neg c8 hJ
    obtain ⟨a9, ea9, -, hJ⟩ := dr_some hJ
    obtain ⟨⟨h10, r11⟩, e12, hJ⟩ := ob_some hJ
    exact (mo_Jx4a65c_size_8abf5 N a9 h e12).tr (mb_X9_withMoment_13 N t0 _ _ _ _ hJ)
set_option maxRecDepth 100000 in
set_option maxHeartbeats 4000000 in
theorem sb_X9_withMoment_0 (C : Cx p s m args meth c cX9_withMoment 2 (some (.object "RingKeeper$Transaction")) RX9 D cs A h0.se) (hz2 : hz.nx ≤ h0.nx + mc ∧ hz.su ≤ h0.su + ms) (N : Nat) (t0 : Nat) (h : Hp) (x1 : Int32) (hJ : B_X9_withMoment_0 N t0 h x1 = some (hz, rz)) (hk0 : h.kd t0 = 12) {H : Heap} {locs : List Loc} {cells slots : Nat} (w : Wo D cs A s h0 h H locs cells slots) {ls : Array Slot} (hl : lv_has ls 2 [(0, .ref t0), (1, .int x1)]) : W p l e { frames := 3, cells := mc, slots := ms, locals := 90 } s m args below meth c H locs cells slots (MQ below (Zq D cs A hz rz) args s mc ms A) (F0 m 0 ls []) := by
  obtain ⟨hx, hb, hml, hown, hts, -⟩ := id C
  unfold B_X9_withMoment_0 at hJ
  refine lv_iload_n hx hb dX9_withMoment_0 rfl (lv_at hl 1 rfl) ?_
  refine lv_iconst (v := (1 : Int32)) hx hb dX9_withMoment_1 (by decide) ?_
  refine lv_icmp_lt (tgt := 32) hx hb dX9_withMoment_2 (by decide) (fun c8 => ?_) (fun c8 => ?_)
  · have hJ := it_pos c8 hJ
    exact sb_X9_withMoment_32 C hz2 N t0 _ hJ hk0 w (lv_sub (l' := [(0, .ref t0)]) hl [0] rfl)
  · have hJ := it_neg c8 hJ
    refine lv_iload_n hx hb dX9_withMoment_5 rfl (lv_at hl 1 rfl) ?_
    refine lv_aload_n hx hb dX9_withMoment_6 rfl (lv_at hl 0 rfl) ?_
    refine fg_1203 C w hk0 tw_1_135 dX9_withMoment_7 ?_
    obtain ⟨a9, ea9, hka9, hJ⟩ := dr_some hJ
    rw [ea9]
    obtain ⟨⟨h10, r11⟩, e12, hJ⟩ := ob_some hJ
    refine jc_Vi (As := []) C w (cc_Jx4a65c_size_8abf5 N a9 h hka9 e12) (mo_Jx4a65c_size_8abf5 N a9 h e12) (mb_X9_withMoment_13 N t0 _ _ _ _ hJ) hz2 hka9 (by decide) rfl (fs := fs2 h a9) rfl rfl ⟨tw_1_182, tw_1_179, tw_1_180, tw_1_181, tw_1_5⟩ cd_Jx4a65c_size_8abf5 ⟨by decide, by decide⟩ hl.1 (by first | exact Nat.le_of_ble_eq_true rfl | simp [rf_cat, cat_i, cat_l, cat_r]) rfl dX9_withMoment_10 (fun H locs w1 => ?_)
    have hk13 := kd_keep w (mo_Jx4a65c_size_8abf5 N a9 h e12) hk0 (by decide)
    have w := w1
    exact sb_X9_withMoment_13 C hz2 N t0 _ _ _ _ hJ hk13 w hl
def J_X9_withMoment (N : Nat) (t0 : Nat) (h : Hp) (x1 : Int32) : Option (Hp × Option Nat) := B_X9_withMoment_0 N t0 h x1
theorem mo_X9_withMoment (N : Nat) (t0 : Nat) (h : Hp) (x1 : Int32) (hJ : J_X9_withMoment N t0 h x1 = some (hz, rz)) : Mo h hz := mb_X9_withMoment_0 N t0 h x1 hJ
theorem cd_X9_withMoment : Cd yX9_withMoment 1 := ⟨by decide +kernel, by decide +kernel, by decide +kernel⟩
theorem cc_X9_withMoment (N : Nat) (t0 : Nat) (h : Hp) (x1 : Int32) (hk0 : h.kd t0 = 12) (hJ : J_X9_withMoment N t0 h x1 = some (hz, rz)) : Cq l yX9_withMoment cX9_withMoment 2 (some (.object "RingKeeper$Transaction")) 3 90 D cs h hz [.ref t0, .int x1] rz := by
  intro mc ms g1 g2
  refine je_any (by decide) (by simp [lg_sl, rf_cat, cat_i, cat_l, cat_r]) ?_
  intro p e s m args below meth c C hin2 w ls hl
  have hl : lv_has ls 2 [(0, .ref t0), (1, .int x1)] := hl
  exact sb_X9_withMoment_0 C ⟨g1, g2⟩ N t0 h x1 hJ hk0 w hl
end G_X9_withMoment
section G_X9_allRuns
variable {p : Program} {l : Launch} {e : Env} {s : State} {m : MethodId} {args : Array Value} {below : List Frame} {meth : Method} {c : Code} {D : va_G} {cs : C4} {A : Nat → Prop} {h0 hz : Hp} {mc ms : Nat} {rz : Int32}
def B_X9_allRuns_30 (N : Nat) (k4 : Hp → Int32 → Int32 → Option (Hp × Int32)) (t0 : Nat) (h : Hp) (x2 : Int32) (y0 : Int32) (y1 : Int32) : Option (Hp × Int32) := k4 h (y0 + y1) (x2 + (1 : Int32))
theorem mb_X9_allRuns_30 (N : Nat) (k4 : Hp → Int32 → Int32 → Option (Hp × Int32)) (t0 : Nat) (h : Hp) (x2 : Int32) (y0 : Int32) (y1 : Int32) (m4 : ∀ (h : Hp) (x1 : Int32) (x2 : Int32), k4 h x1 x2 = some (hz, rz) → Mo h hz) (hJ : B_X9_allRuns_30 N k4 t0 h x2 y0 y1 = some (hz, rz)) : Mo h hz := by
  unfold B_X9_allRuns_30 at hJ
  exact m4 _ _ _ hJ
set_option maxRecDepth 100000 in
set_option maxHeartbeats 4000000 in
theorem sb_X9_allRuns_30 (C : Cx p s m args meth c cX9_allRuns 4 (some .int) RX9 D cs A h0.se) (hz2 : hz.nx ≤ h0.nx + mc ∧ hz.su ≤ h0.su + ms) (N : Nat) (k4 : Hp → Int32 → Int32 → Option (Hp × Int32)) (t0 : Nat) (m4 : ∀ (h : Hp) (x1 : Int32) (x2 : Int32), k4 h x1 x2 = some (hz, rz) → Mo h hz) (i4 : ∀ (h : Hp) (x1 : Int32) (x2 : Int32) (H : Heap) (locs : List Loc) (cells slots : Nat) (ls : Array Slot), k4 h x1 x2 = some (hz, rz) → h.kd t0 = 12 → Wo D cs A s h0 h H locs cells slots → lv_has ls 4 [(0, .ref t0), (1, .int x1), (2, .int x2)] → W p l e { frames := 4, cells := mc, slots := ms, locals := 120 } s m args below meth c H locs cells slots (MQ below (Zi D cs A hz rz) args s mc ms A) (F0 m 4 ls [])) (h : Hp) (x2 : Int32) (y0 : Int32) (y1 : Int32) (hJ : B_X9_allRuns_30 N k4 t0 h x2 y0 y1 = some (hz, rz)) (hk0 : h.kd t0 = 12) {H : Heap} {locs : List Loc} {cells slots : Nat} (w : Wo D cs A s h0 h H locs cells slots) {ls : Array Slot} (hl : lv_has ls 4 [(0, .ref t0), (2, .int x2)]) : W p l e { frames := 4, cells := mc, slots := ms, locals := 120 } s m args below meth c H locs cells slots (MQ below (Zi D cs A hz rz) args s mc ms A) (F0 m 30 ls [.int y1, .int y0]) := by
  obtain ⟨hx, hb, hml, hown, hts, -⟩ := id C
  unfold B_X9_allRuns_30 at hJ
  refine lv_iadd hx hb dX9_allRuns_30 ?_
  refine lv_istore_n (i := 1) (lv' := [(1, .int (y0 + y1)), (0, .ref t0), (2, .int x2)]) hx hb dX9_allRuns_31 rfl hl (by decide) rfl (fun ls hl => ?_)
  refine lv_iinc (v := x2 + (1 : Int32)) (lv' := [(2, .int (x2 + (1 : Int32))), (1, .int (y0 + y1)), (0, .ref t0)]) hx hb dX9_allRuns_32 hl (k := 2) rfl rfl (by decide) rfl (fun ls hl => ?_)
  refine lv_goto (tgt := 4) hx hb dX9_allRuns_35 (by decide) ?_
  exact i4 _ _ _ _ _ _ _ _ hJ hk0 w (lv_sub (l' := [(0, .ref t0), (1, .int (y0 + y1)), (2, .int (x2 + (1 : Int32)))]) hl [2, 1, 0] rfl)
def B_X9_allRuns_24 (N : Nat) (k4 : Hp → Int32 → Int32 → Option (Hp × Int32)) (t0 : Nat) (h : Hp) (x2 : Int32) (y0 : Int32) (y1 : Option Nat) : Option (Hp × Int32) := dr h 10 y1 (fun a1 => (J_X7_runs N a1 h).bind (fun z => B_X9_allRuns_30 N k4 t0 z.1 x2 y0 z.2))
theorem mb_X9_allRuns_24 (N : Nat) (k4 : Hp → Int32 → Int32 → Option (Hp × Int32)) (t0 : Nat) (h : Hp) (x2 : Int32) (y0 : Int32) (y1 : Option Nat) (m4 : ∀ (h : Hp) (x1 : Int32) (x2 : Int32), k4 h x1 x2 = some (hz, rz) → Mo h hz) (hJ : B_X9_allRuns_24 N k4 t0 h x2 y0 y1 = some (hz, rz)) : Mo h hz := by
  unfold B_X9_allRuns_24 at hJ
  obtain ⟨a1, ea1, -, hJ⟩ := dr_some hJ
  obtain ⟨⟨h2, r3⟩, e4, hJ⟩ := ob_some hJ
  exact (mo_X7_runs N a1 h e4).tr (mb_X9_allRuns_30 N k4 t0 _ _ _ _ m4 hJ)
set_option maxRecDepth 100000 in
set_option maxHeartbeats 4000000 in
theorem sb_X9_allRuns_24 (C : Cx p s m args meth c cX9_allRuns 4 (some .int) RX9 D cs A h0.se) (hz2 : hz.nx ≤ h0.nx + mc ∧ hz.su ≤ h0.su + ms) (N : Nat) (k4 : Hp → Int32 → Int32 → Option (Hp × Int32)) (t0 : Nat) (m4 : ∀ (h : Hp) (x1 : Int32) (x2 : Int32), k4 h x1 x2 = some (hz, rz) → Mo h hz) (i4 : ∀ (h : Hp) (x1 : Int32) (x2 : Int32) (H : Heap) (locs : List Loc) (cells slots : Nat) (ls : Array Slot), k4 h x1 x2 = some (hz, rz) → h.kd t0 = 12 → Wo D cs A s h0 h H locs cells slots → lv_has ls 4 [(0, .ref t0), (1, .int x1), (2, .int x2)] → W p l e { frames := 4, cells := mc, slots := ms, locals := 120 } s m args below meth c H locs cells slots (MQ below (Zi D cs A hz rz) args s mc ms A) (F0 m 4 ls [])) (h : Hp) (x2 : Int32) (y0 : Int32) (y1 : Option Nat) (hJ : B_X9_allRuns_24 N k4 t0 h x2 y0 y1 = some (hz, rz)) (hk0 : h.kd t0 = 12) {H : Heap} {locs : List Loc} {cells slots : Nat} (w : Wo D cs A s h0 h H locs cells slots) {ls : Array Slot} (hl : lv_has ls 4 [(0, .ref t0), (2, .int x2)]) : W p l e { frames := 4, cells := mc, slots := ms, locals := 120 } s m args below meth c H locs cells slots (MQ below (Zi D cs A hz rz) args s mc ms A) (F0 m 24 ls [va_rf y1, .int y0]) := by
  obtain ⟨hx, hb, hml, hown, hts, -⟩ := id C
  unfold B_X9_allRuns_24 at hJ
  obtain ⟨a1, ea1, hka1, hJ⟩ := dr_some hJ
  rw [ea1]
  refine va_castS hx hb hown (hts _ tw_1_221) (C.2.2.2.2.2.1.1 10 _ rfl).2 (recv_at C w hka1 (by decide) rfl (fs := fs10 h a1) rfl) dX9_allRuns_24 ?_
  obtain ⟨⟨h2, r3⟩, e4, hJ⟩ := ob_some hJ
  refine jc_Vi (As := []) C w (cc_X7_runs N a1 h hka1 e4) (mo_X7_runs N a1 h e4) (mb_X9_allRuns_30 N k4 t0 _ _ _ _ m4 hJ) hz2 hka1 (by decide) rfl (fs := fs10 h a1) rfl rfl ⟨tw_2_186, tw_2_183, tw_2_184, tw_2_185, tw_1_9⟩ cd_X7_runs ⟨by decide, by decide⟩ hl.1 (by first | exact Nat.le_of_ble_eq_true rfl | simp [rf_cat, cat_i, cat_l, cat_r]) rfl dX9_allRuns_27 (fun H locs w1 => ?_)
  have hk5 := kd_keep w (mo_X7_runs N a1 h e4) hk0 (by decide)
  have w := w1
  exact sb_X9_allRuns_30 C hz2 N k4 t0 m4 i4 _ _ _ _ hJ hk5 w hl
def B_X9_allRuns_75 (N : Nat) (k45 : Hp → Int32 → Int32 → Option (Hp × Int32)) (t0 : Nat) (h : Hp) (x2 : Int32) (y0 : Int32) (y1 : Int32) : Option (Hp × Int32) := k45 h (y0 + y1) (x2 + (1 : Int32))
theorem mb_X9_allRuns_75 (N : Nat) (k45 : Hp → Int32 → Int32 → Option (Hp × Int32)) (t0 : Nat) (h : Hp) (x2 : Int32) (y0 : Int32) (y1 : Int32) (m45 : ∀ (h : Hp) (x1 : Int32) (x2 : Int32), k45 h x1 x2 = some (hz, rz) → Mo h hz) (hJ : B_X9_allRuns_75 N k45 t0 h x2 y0 y1 = some (hz, rz)) : Mo h hz := by
  unfold B_X9_allRuns_75 at hJ
  exact m45 _ _ _ hJ
set_option maxRecDepth 100000 in
set_option maxHeartbeats 4000000 in
theorem sb_X9_allRuns_75 (C : Cx p s m args meth c cX9_allRuns 4 (some .int) RX9 D cs A h0.se) (hz2 : hz.nx ≤ h0.nx + mc ∧ hz.su ≤ h0.su + ms) (N : Nat) (k45 : Hp → Int32 → Int32 → Option (Hp × Int32)) (t0 : Nat) (m45 : ∀ (h : Hp) (x1 : Int32) (x2 : Int32), k45 h x1 x2 = some (hz, rz) → Mo h hz) (i45 : ∀ (h : Hp) (x1 : Int32) (x2 : Int32) (H : Heap) (locs : List Loc) (cells slots : Nat) (ls : Array Slot), k45 h x1 x2 = some (hz, rz) → h.kd t0 = 12 → Wo D cs A s h0 h H locs cells slots → lv_has ls 4 [(0, .ref t0), (1, .int x1), (2, .int x2)] → W p l e { frames := 4, cells := mc, slots := ms, locals := 120 } s m args below meth c H locs cells slots (MQ below (Zi D cs A hz rz) args s mc ms A) (F0 m 45 ls [])) (h : Hp) (x2 : Int32) (y0 : Int32) (y1 : Int32) (hJ : B_X9_allRuns_75 N k45 t0 h x2 y0 y1 = some (hz, rz)) (hk0 : h.kd t0 = 12) {H : Heap} {locs : List Loc} {cells slots : Nat} (w : Wo D cs A s h0 h H locs cells slots) {ls : Array Slot} (hl : lv_has ls 4 [(0, .ref t0), (2, .int x2)]) : W p l e { frames := 4, cells := mc, slots := ms, locals := 120 } s m args below meth c H locs cells slots (MQ below (Zi D cs A hz rz) args s mc ms A) (F0 m 75 ls [.int y1, .int y0]) := by
  obtain ⟨hx, hb, hml, hown, hts, -⟩ := id C
  unfold B_X9_allRuns_75 at hJ
  refine lv_iadd hx hb dX9_allRuns_75 ?_
  refine lv_istore_n (i := 1) (lv' := [(1, .int (y0 + y1)), (0, .ref t0), (2, .int x2)]) hx hb dX9_allRuns_76 rfl hl (by decide) rfl (fun ls hl => ?_)
  refine lv_iinc (v := x2 + (1 : Int32)) (lv' := [(2, .int (x2 + (1 : Int32))), (1, .int (y0 + y1)), (0, .ref t0)]) hx hb dX9_allRuns_77 hl (k := 2) rfl rfl (by decide) rfl (fun ls hl => ?_)
  refine lv_goto (tgt := 45) hx hb dX9_allRuns_80 (by decide) ?_
  exact i45 _ _ _ _ _ _ _ _ hJ hk0 w (lv_sub (l' := [(0, .ref t0), (1, .int (y0 + y1)), (2, .int (x2 + (1 : Int32)))]) hl [2, 1, 0] rfl)
def B_X9_allRuns_61 (N : Nat) (k45 : Hp → Int32 → Int32 → Option (Hp × Int32)) (t0 : Nat) (h : Hp) (x1 : Int32) (x2 : Int32) (y0 : Option Nat) : Option (Hp × Int32) := nl y0 (B_X9_allRuns_75 N k45 t0 h x2 x1 (0 : Int32)) (fun a6 => ck (h.kd a6 = 10) ((J_X7_runs N a6 h).bind (fun z => B_X9_allRuns_75 N k45 t0 z.1 x2 x1 z.2)))
theorem mb_X9_allRuns_61 (N : Nat) (k45 : Hp → Int32 → Int32 → Option (Hp × Int32)) (t0 : Nat) (h : Hp) (x1 : Int32) (x2 : Int32) (y0 : Option Nat) (m45 : ∀ (h : Hp) (x1 : Int32) (x2 : Int32), k45 h x1 x2 = some (hz, rz) → Mo h hz) (hJ : B_X9_allRuns_61 N k45 t0 h x1 x2 y0 = some (hz, rz)) : Mo h hz := by
  unfold B_X9_allRuns_61 at hJ
  cases ea6 : y0 with
  | none =>
    have hJ := nl_none ea6 hJ
    exact mb_X9_allRuns_75 N k45 t0 _ _ _ _ m45 hJ
  | some a6 =>
    have hJ := nl_some ea6 hJ
    obtain ⟨-, hJ⟩ := ck_some hJ
    obtain ⟨⟨h8, r9⟩, e10, hJ⟩ := ob_some hJ
    exact (mo_X7_runs N a6 h e10).tr (mb_X9_allRuns_75 N k45 t0 _ _ _ _ m45 hJ)
set_option maxRecDepth 100000 in
set_option maxHeartbeats 4000000 in
theorem sb_X9_allRuns_61 (C : Cx p s m args meth c cX9_allRuns 4 (some .int) RX9 D cs A h0.se) (hz2 : hz.nx ≤ h0.nx + mc ∧ hz.su ≤ h0.su + ms) (N : Nat) (k45 : Hp → Int32 → Int32 → Option (Hp × Int32)) (t0 : Nat) (m45 : ∀ (h : Hp) (x1 : Int32) (x2 : Int32), k45 h x1 x2 = some (hz, rz) → Mo h hz) (i45 : ∀ (h : Hp) (x1 : Int32) (x2 : Int32) (H : Heap) (locs : List Loc) (cells slots : Nat) (ls : Array Slot), k45 h x1 x2 = some (hz, rz) → h.kd t0 = 12 → Wo D cs A s h0 h H locs cells slots → lv_has ls 4 [(0, .ref t0), (1, .int x1), (2, .int x2)] → W p l e { frames := 4, cells := mc, slots := ms, locals := 120 } s m args below meth c H locs cells slots (MQ below (Zi D cs A hz rz) args s mc ms A) (F0 m 45 ls [])) (h : Hp) (x1 : Int32) (x2 : Int32) (y0 : Option Nat) (hJ : B_X9_allRuns_61 N k45 t0 h x1 x2 y0 = some (hz, rz)) (hk0 : h.kd t0 = 12) {H : Heap} {locs : List Loc} {cells slots : Nat} (w : Wo D cs A s h0 h H locs cells slots) {ls : Array Slot} (hl : lv_has ls 4 [(0, .ref t0), (1, .int x1), (2, .int x2)]) : W p l e { frames := 4, cells := mc, slots := ms, locals := 120 } s m args below meth c H locs cells slots (MQ below (Zi D cs A hz rz) args s mc ms A) (F0 m 61 ls [va_rf y0]) := by
  obtain ⟨hx, hb, hml, hown, hts, -⟩ := id C
  unfold B_X9_allRuns_61 at hJ
  refine jv_astore_n (i := 3) (lv' := [(3, va_rf y0), (0, .ref t0), (1, .int x1), (2, .int x2)]) hx hb dX9_allRuns_61 rfl hl (by decide) rfl (fun ls hl => ?_)
  refine lv_iload_n hx hb dX9_allRuns_62 rfl (lv_at hl 2 rfl) ?_
  refine jv_aload_n hx hb dX9_allRuns_63 rfl (lv_at hl 0 rfl) ?_
  refine jv_ifnonnull (tgt := 71) hx hb dX9_allRuns_64 (by decide) (fun a6 ea6 => ?_) (fun ea6 => ?_)
  · have hJ := nl_some ea6 hJ
    rw [ea6] at hl
    refine lv_aload_n hx hb dX9_allRuns_71 rfl (lv_at hl 0 rfl) ?_
    obtain ⟨hk7, hJ⟩ := ck_some hJ
    obtain ⟨⟨h8, r9⟩, e10, hJ⟩ := ob_some hJ
    refine jc_Vi (As := []) C w (cc_X7_runs N a6 h hk7 e10) (mo_X7_runs N a6 h e10) (mb_X9_allRuns_75 N k45 t0 _ _ _ _ m45 hJ) hz2 hk7 (by decide) rfl (fs := fs10 h a6) rfl rfl ⟨tw_2_186, tw_2_183, tw_2_184, tw_2_185, tw_1_9⟩ cd_X7_runs ⟨by decide, by decide⟩ hl.1 (by first | exact Nat.le_of_ble_eq_true rfl | simp [rf_cat, cat_i, cat_l, cat_r]) rfl dX9_allRuns_72 (fun H locs w1 => ?_)
    have hk11 := kd_keep w (mo_X7_runs N a6 h e10) hk0 (by decide)
    have w := w1
    exact sb_X9_allRuns_75 C hz2 N k45 t0 m45 i45 _ _ _ _ hJ hk11 w (lv_sub (l' := [(0, .ref t0), (2, .int x2)]) hl [1, 3] rfl)
  · have hJ := nl_none ea6 hJ
    refine lv_iconst (v := (0 : Int32)) hx hb dX9_allRuns_67 (by decide) ?_
    refine lv_goto (tgt := 75) hx hb dX9_allRuns_68 (by decide) ?_
    exact sb_X9_allRuns_75 C hz2 N k45 t0 m45 i45 _ _ _ _ hJ hk0 w (lv_sub (l' := [(0, .ref t0), (2, .int x2)]) hl [1, 3] rfl)
def B_X9_allRuns_53 (N : Nat) (k45 : Hp → Int32 → Int32 → Option (Hp × Int32)) (t0 : Nat) (h : Hp) (x1 : Int32) (x2 : Int32) (y0 : Int32) (y1 : Int32) : Option (Hp × Int32) := if y1 < y0 then (some (h, x1)) else ((J_X9_withMoment N t0 h x2).bind (fun z => B_X9_allRuns_61 N k45 t0 z.1 x1 x2 z.2))
theorem mb_X9_allRuns_53 (N : Nat) (k45 : Hp → Int32 → Int32 → Option (Hp × Int32)) (t0 : Nat) (h : Hp) (x1 : Int32) (x2 : Int32) (y0 : Int32) (y1 : Int32) (m45 : ∀ (h : Hp) (x1 : Int32) (x2 : Int32), k45 h x1 x2 = some (hz, rz) → Mo h hz) (hJ : B_X9_allRuns_53 N k45 t0 h x1 x2 y0 y1 = some (hz, rz)) : Mo h hz := by
  unfold B_X9_allRuns_53 at hJ
  by_cases c12 : y1 < y0
  · have hJ := it_pos c12 hJ
    obtain ⟨rfl, -⟩ := rs2 hJ
    exact ⟨fun _ _ => rfl, Nat.le_refl _, Nat.le_refl _, rfl, fun _ _ => rfl⟩
  · have hJ := it_neg c12 hJ
    obtain ⟨⟨h13, r14⟩, e15, hJ⟩ := ob_some hJ
    exact (mo_X9_withMoment N t0 h x2 e15).tr (mb_X9_allRuns_61 N k45 t0 _ _ _ _ m45 hJ)
set_option maxRecDepth 100000 in
set_option maxHeartbeats 4000000 in
theorem sb_X9_allRuns_53 (C : Cx p s m args meth c cX9_allRuns 4 (some .int) RX9 D cs A h0.se) (hz2 : hz.nx ≤ h0.nx + mc ∧ hz.su ≤ h0.su + ms) (N : Nat) (k45 : Hp → Int32 → Int32 → Option (Hp × Int32)) (t0 : Nat) (m45 : ∀ (h : Hp) (x1 : Int32) (x2 : Int32), k45 h x1 x2 = some (hz, rz) → Mo h hz) (i45 : ∀ (h : Hp) (x1 : Int32) (x2 : Int32) (H : Heap) (locs : List Loc) (cells slots : Nat) (ls : Array Slot), k45 h x1 x2 = some (hz, rz) → h.kd t0 = 12 → Wo D cs A s h0 h H locs cells slots → lv_has ls 4 [(0, .ref t0), (1, .int x1), (2, .int x2)] → W p l e { frames := 4, cells := mc, slots := ms, locals := 120 } s m args below meth c H locs cells slots (MQ below (Zi D cs A hz rz) args s mc ms A) (F0 m 45 ls [])) (h : Hp) (x1 : Int32) (x2 : Int32) (y0 : Int32) (y1 : Int32) (hJ : B_X9_allRuns_53 N k45 t0 h x1 x2 y0 y1 = some (hz, rz)) (hk0 : h.kd t0 = 12) {H : Heap} {locs : List Loc} {cells slots : Nat} (w : Wo D cs A s h0 h H locs cells slots) {ls : Array Slot} (hl : lv_has ls 4 [(0, .ref t0), (1, .int x1), (2, .int x2)]) : W p l e { frames := 4, cells := mc, slots := ms, locals := 120 } s m args below meth c H locs cells slots (MQ below (Zi D cs A hz rz) args s mc ms A) (F0 m 53 ls [.int y1, .int y0]) := by
  obtain ⟨hx, hb, hml, hown, hts, -⟩ := id C
  unfold B_X9_allRuns_53 at hJ
  refine lv_icmp_gt (tgt := 83) hx hb dX9_allRuns_53 (by decide) (fun c12 => ?_) (fun c12 => ?_)
  · have hJ := it_pos c12 hJ
    refine lv_iload_n hx hb dX9_allRuns_83 rfl (lv_at hl 1 rfl) ?_
    obtain ⟨rfl, rfl⟩ := rs2 hJ
    exact jr_iret C w hz2 dX9_allRuns_84
  · have hJ := it_neg c12 hJ
    refine lv_aload_n hx hb dX9_allRuns_56 rfl (lv_at hl 0 rfl) ?_
    refine lv_iload_n hx hb dX9_allRuns_57 rfl (lv_at hl 2 rfl) ?_
    obtain ⟨⟨h13, r14⟩, e15, hJ⟩ := ob_some hJ
    refine jc_Vq (As := [.int x2]) C w (cc_X9_withMoment N t0 h x2 hk0 e15) (mo_X9_withMoment N t0 h x2 e15) (mb_X9_allRuns_61 N k45 t0 _ _ _ _ m45 hJ) hz2 hk0 (by decide) rfl (fs := fs12 h t0) rfl rfl ⟨tw_2_232, tw_2_229, tw_2_231, ts_10, tw_1_1⟩ cd_X9_withMoment ⟨by decide, by decide⟩ hl.1 (by first | exact Nat.le_of_ble_eq_true rfl | simp [rf_cat, cat_i, cat_l, cat_r]) rfl dX9_allRuns_58 (fun H locs w1 => ?_)
    have hk16 := kd_keep w (mo_X9_withMoment N t0 h x2 e15) hk0 (by decide)
    have w := w1
    exact sb_X9_allRuns_61 C hz2 N k45 t0 m45 i45 _ _ _ _ hJ hk16 w hl
def B_X9_allRuns_45 (N : Nat) (k45 : Hp → Int32 → Int32 → Option (Hp × Int32)) (t0 : Nat) (h : Hp) (x1 : Int32) (x2 : Int32) : Option (Hp × Int32) := dr h 2 (h.fr 1203 t0) (fun a17 => (J_Jx4a65c_size_8abf5 N a17 h).bind (fun z => B_X9_allRuns_53 N k45 t0 z.1 x1 x2 x2 z.2))
theorem mb_X9_allRuns_45 (N : Nat) (k45 : Hp → Int32 → Int32 → Option (Hp × Int32)) (t0 : Nat) (h : Hp) (x1 : Int32) (x2 : Int32) (m45 : ∀ (h : Hp) (x1 : Int32) (x2 : Int32), k45 h x1 x2 = some (hz, rz) → Mo h hz) (hJ : B_X9_allRuns_45 N k45 t0 h x1 x2 = some (hz, rz)) : Mo h hz := by
  unfold B_X9_allRuns_45 at hJ
  obtain ⟨a17, ea17, -, hJ⟩ := dr_some hJ
  obtain ⟨⟨h18, r19⟩, e20, hJ⟩ := ob_some hJ
  exact (mo_Jx4a65c_size_8abf5 N a17 h e20).tr (mb_X9_allRuns_53 N k45 t0 _ _ _ _ _ m45 hJ)
set_option maxRecDepth 100000 in
set_option maxHeartbeats 4000000 in
theorem sb_X9_allRuns_45 (C : Cx p s m args meth c cX9_allRuns 4 (some .int) RX9 D cs A h0.se) (hz2 : hz.nx ≤ h0.nx + mc ∧ hz.su ≤ h0.su + ms) (N : Nat) (k45 : Hp → Int32 → Int32 → Option (Hp × Int32)) (t0 : Nat) (m45 : ∀ (h : Hp) (x1 : Int32) (x2 : Int32), k45 h x1 x2 = some (hz, rz) → Mo h hz) (i45 : ∀ (h : Hp) (x1 : Int32) (x2 : Int32) (H : Heap) (locs : List Loc) (cells slots : Nat) (ls : Array Slot), k45 h x1 x2 = some (hz, rz) → h.kd t0 = 12 → Wo D cs A s h0 h H locs cells slots → lv_has ls 4 [(0, .ref t0), (1, .int x1), (2, .int x2)] → W p l e { frames := 4, cells := mc, slots := ms, locals := 120 } s m args below meth c H locs cells slots (MQ below (Zi D cs A hz rz) args s mc ms A) (F0 m 45 ls [])) (h : Hp) (x1 : Int32) (x2 : Int32) (hJ : B_X9_allRuns_45 N k45 t0 h x1 x2 = some (hz, rz)) (hk0 : h.kd t0 = 12) {H : Heap} {locs : List Loc} {cells slots : Nat} (w : Wo D cs A s h0 h H locs cells slots) {ls : Array Slot} (hl : lv_has ls 4 [(0, .ref t0), (1, .int x1), (2, .int x2)]) : W p l e { frames := 4, cells := mc, slots := ms, locals := 120 } s m args below meth c H locs cells slots (MQ below (Zi D cs A hz rz) args s mc ms A) (F0 m 45 ls []) := by
  obtain ⟨hx, hb, hml, hown, hts, -⟩ := id C
  unfold B_X9_allRuns_45 at hJ
  refine lv_iload_n hx hb dX9_allRuns_45 rfl (lv_at hl 2 rfl) ?_
  refine lv_aload_n hx hb dX9_allRuns_46 rfl (lv_at hl 0 rfl) ?_
  refine fg_1203 C w hk0 tw_1_135 dX9_allRuns_47 ?_
  obtain ⟨a17, ea17, hka17, hJ⟩ := dr_some hJ
  rw [ea17]
  obtain ⟨⟨h18, r19⟩, e20, hJ⟩ := ob_some hJ
  refine jc_Vi (As := []) C w (cc_Jx4a65c_size_8abf5 N a17 h hka17 e20) (mo_Jx4a65c_size_8abf5 N a17 h e20) (mb_X9_allRuns_53 N k45 t0 _ _ _ _ _ m45 hJ) hz2 hka17 (by decide) rfl (fs := fs2 h a17) rfl rfl ⟨tw_1_182, tw_1_179, tw_1_180, tw_1_181, tw_1_5⟩ cd_Jx4a65c_size_8abf5 ⟨by decide, by decide⟩ hl.1 (by first | exact Nat.le_of_ble_eq_true rfl | simp [rf_cat, cat_i, cat_l, cat_r]) rfl dX9_allRuns_50 (fun H locs w1 => ?_)
  have hk21 := kd_keep w (mo_Jx4a65c_size_8abf5 N a17 h e20) hk0 (by decide)
  have w := w1
  exact sb_X9_allRuns_53 C hz2 N k45 t0 m45 i45 _ _ _ _ _ hJ hk21 w hl
def L_X9_allRuns_45 (N : Nat) (t0 : Nat) : Nat → Hp → Int32 → Int32 → Option (Hp × Int32)
  | 0 => fun _ _ _ => none
  | n + 1 => fun h x1 x2 => B_X9_allRuns_45 N (L_X9_allRuns_45 N t0 n) t0 h x1 x2
theorem ml_X9_allRuns_45 (N : Nat) (t0 : Nat) : ∀ (n : Nat) (h : Hp) (x1 : Int32) (x2 : Int32), L_X9_allRuns_45 N t0 n h x1 x2 = some (hz, rz) → Mo h hz := by
  intro n
  induction n with
  | zero => intro h x1 x2 hJ; cases hJ
  | succ n ih => intro h x1 x2 hJ; exact mb_X9_allRuns_45 N (L_X9_allRuns_45 N t0 n) t0 h x1 x2 ih hJ
theorem sl_X9_allRuns_45 (C : Cx p s m args meth c cX9_allRuns 4 (some .int) RX9 D cs A h0.se) (hz2 : hz.nx ≤ h0.nx + mc ∧ hz.su ≤ h0.su + ms) (N : Nat) (t0 : Nat) : ∀ n : Nat, ∀ (h : Hp) (x1 : Int32) (x2 : Int32) (H : Heap) (locs : List Loc) (cells slots : Nat) (ls : Array Slot), L_X9_allRuns_45 N t0 n h x1 x2 = some (hz, rz) → h.kd t0 = 12 → Wo D cs A s h0 h H locs cells slots → lv_has ls 4 [(0, .ref t0), (1, .int x1), (2, .int x2)] → W p l e { frames := 4, cells := mc, slots := ms, locals := 120 } s m args below meth c H locs cells slots (MQ below (Zi D cs A hz rz) args s mc ms A) (F0 m 45 ls []) := by
  intro n
  induction n with
  | zero => intro h x1 x2 H locs cells slots ls hJ; cases hJ
  | succ n ih =>
    intro h x1 x2 H locs cells slots ls hJ hk0 w hl
    exact sb_X9_allRuns_45 C hz2 N (L_X9_allRuns_45 N t0 n) t0 (ml_X9_allRuns_45 N t0 n) ih h x1 x2 hJ hk0 w hl
def B_X9_allRuns_42 (N : Nat) (t0 : Nat) (h : Hp) (x1 : Int32) (y0 : Int32) : Option (Hp × Int32) := L_X9_allRuns_45 N t0 N h x1 (y0 + (1 : Int32))
theorem mb_X9_allRuns_42 (N : Nat) (t0 : Nat) (h : Hp) (x1 : Int32) (y0 : Int32) (hJ : B_X9_allRuns_42 N t0 h x1 y0 = some (hz, rz)) : Mo h hz := by
  unfold B_X9_allRuns_42 at hJ
  exact ml_X9_allRuns_45 N t0 N _ _ _ hJ
set_option maxRecDepth 100000 in
set_option maxHeartbeats 4000000 in
theorem sb_X9_allRuns_42 (C : Cx p s m args meth c cX9_allRuns 4 (some .int) RX9 D cs A h0.se) (hz2 : hz.nx ≤ h0.nx + mc ∧ hz.su ≤ h0.su + ms) (N : Nat) (t0 : Nat) (h : Hp) (x1 : Int32) (y0 : Int32) (hJ : B_X9_allRuns_42 N t0 h x1 y0 = some (hz, rz)) (hk0 : h.kd t0 = 12) {H : Heap} {locs : List Loc} {cells slots : Nat} (w : Wo D cs A s h0 h H locs cells slots) {ls : Array Slot} (hl : lv_has ls 4 [(0, .ref t0), (1, .int x1)]) : W p l e { frames := 4, cells := mc, slots := ms, locals := 120 } s m args below meth c H locs cells slots (MQ below (Zi D cs A hz rz) args s mc ms A) (F0 m 42 ls [.int y0]) := by
  obtain ⟨hx, hb, hml, hown, hts, -⟩ := id C
  unfold B_X9_allRuns_42 at hJ
  refine lv_iconst (v := (1 : Int32)) hx hb dX9_allRuns_42 (by decide) ?_
  refine lv_iadd hx hb dX9_allRuns_43 ?_
  refine lv_istore_n (i := 2) (lv' := [(2, .int (y0 + (1 : Int32))), (0, .ref t0), (1, .int x1)]) hx hb dX9_allRuns_44 rfl hl (by decide) rfl (fun ls hl => ?_)
  exact sl_X9_allRuns_45 C hz2 N t0 N _ _ _ _ _ _ _ _ hJ hk0 w (lv_sub (l' := [(0, .ref t0), (1, .int x1), (2, .int (y0 + (1 : Int32)))]) hl [1, 2, 0] rfl)
def B_X9_allRuns_12 (N : Nat) (k4 : Hp → Int32 → Int32 → Option (Hp × Int32)) (t0 : Nat) (h : Hp) (x1 : Int32) (x2 : Int32) (y0 : Int32) (y1 : Int32) : Option (Hp × Int32) := if y1 ≤ y0 then ((J_X9_horizon N t0 h).bind (fun z => B_X9_allRuns_42 N t0 z.1 x1 z.2)) else (dr h 2 (h.fr 1202 t0) (fun a27 => (J_Jx4a65c_get_915e3 N a27 h x2).bind (fun z => B_X9_allRuns_24 N k4 t0 z.1 x2 x1 z.2)))
theorem mb_X9_allRuns_12 (N : Nat) (k4 : Hp → Int32 → Int32 → Option (Hp × Int32)) (t0 : Nat) (h : Hp) (x1 : Int32) (x2 : Int32) (y0 : Int32) (y1 : Int32) (m4 : ∀ (h : Hp) (x1 : Int32) (x2 : Int32), k4 h x1 x2 = some (hz, rz) → Mo h hz) (hJ : B_X9_allRuns_12 N k4 t0 h x1 x2 y0 y1 = some (hz, rz)) : Mo h hz := by
  unfold B_X9_allRuns_12 at hJ
  by_cases c22 : y1 ≤ y0
  · have hJ := it_pos c22 hJ
    obtain ⟨⟨h23, r24⟩, e25, hJ⟩ := ob_some hJ
    exact (mo_X9_horizon N t0 h e25).tr (mb_X9_allRuns_42 N t0 _ _ _ hJ)
  · have hJ := it_neg c22 hJ
    obtain ⟨a27, ea27, -, hJ⟩ := dr_some hJ
    obtain ⟨⟨h28, r29⟩, e30, hJ⟩ := ob_some hJ
    exact (mo_Jx4a65c_get_915e3 N a27 h x2 e30).tr (mb_X9_allRuns_24 N k4 t0 _ _ _ _ m4 hJ)
set_option maxRecDepth 100000 in
set_option maxHeartbeats 4000000 in
theorem sb_X9_allRuns_12 (C : Cx p s m args meth c cX9_allRuns 4 (some .int) RX9 D cs A h0.se) (hz2 : hz.nx ≤ h0.nx + mc ∧ hz.su ≤ h0.su + ms) (N : Nat) (k4 : Hp → Int32 → Int32 → Option (Hp × Int32)) (t0 : Nat) (m4 : ∀ (h : Hp) (x1 : Int32) (x2 : Int32), k4 h x1 x2 = some (hz, rz) → Mo h hz) (i4 : ∀ (h : Hp) (x1 : Int32) (x2 : Int32) (H : Heap) (locs : List Loc) (cells slots : Nat) (ls : Array Slot), k4 h x1 x2 = some (hz, rz) → h.kd t0 = 12 → Wo D cs A s h0 h H locs cells slots → lv_has ls 4 [(0, .ref t0), (1, .int x1), (2, .int x2)] → W p l e { frames := 4, cells := mc, slots := ms, locals := 120 } s m args below meth c H locs cells slots (MQ below (Zi D cs A hz rz) args s mc ms A) (F0 m 4 ls [])) (h : Hp) (x1 : Int32) (x2 : Int32) (y0 : Int32) (y1 : Int32) (hJ : B_X9_allRuns_12 N k4 t0 h x1 x2 y0 y1 = some (hz, rz)) (hk0 : h.kd t0 = 12) {H : Heap} {locs : List Loc} {cells slots : Nat} (w : Wo D cs A s h0 h H locs cells slots) {ls : Array Slot} (hl : lv_has ls 4 [(0, .ref t0), (1, .int x1), (2, .int x2)]) : W p l e { frames := 4, cells := mc, slots := ms, locals := 120 } s m args below meth c H locs cells slots (MQ below (Zi D cs A hz rz) args s mc ms A) (F0 m 12 ls [.int y1, .int y0]) := by
  obtain ⟨hx, hb, hml, hown, hts, -⟩ := id C
  unfold B_X9_allRuns_12 at hJ
  refine lv_icmp_ge (tgt := 38) hx hb dX9_allRuns_12 (by decide) (fun c22 => ?_) (fun c22 => ?_)
  · have hJ := it_pos c22 hJ
    refine lv_aload_n hx hb dX9_allRuns_38 rfl (lv_at hl 0 rfl) ?_
    obtain ⟨⟨h23, r24⟩, e25, hJ⟩ := ob_some hJ
    refine jc_Vi (As := []) C w (cc_X9_horizon N t0 h hk0 e25) (mo_X9_horizon N t0 h e25) (mb_X9_allRuns_42 N t0 _ _ _ hJ) hz2 hk0 (by decide) rfl (fs := fs12 h t0) rfl rfl ⟨tw_2_173, tw_2_170, tw_2_172, ts_7, tw_1_1⟩ cd_X9_horizon ⟨by decide, by decide⟩ hl.1 (by first | exact Nat.le_of_ble_eq_true rfl | simp [rf_cat, cat_i, cat_l, cat_r]) rfl dX9_allRuns_39 (fun H locs w1 => ?_)
    have hk26 := kd_keep w (mo_X9_horizon N t0 h e25) hk0 (by decide)
    have w := w1
    exact sb_X9_allRuns_42 C hz2 N t0 _ _ _ hJ hk26 w (lv_sub (l' := [(0, .ref t0), (1, .int x1)]) hl [0, 1] rfl)
  · have hJ := it_neg c22 hJ
    refine lv_iload_n hx hb dX9_allRuns_15 rfl (lv_at hl 1 rfl) ?_
    refine lv_aload_n hx hb dX9_allRuns_16 rfl (lv_at hl 0 rfl) ?_
    refine fg_1202 C w hk0 tw_1_134 dX9_allRuns_17 ?_
    refine lv_iload_n hx hb dX9_allRuns_20 rfl (lv_at hl 2 rfl) ?_
    obtain ⟨a27, ea27, hka27, hJ⟩ := dr_some hJ
    rw [ea27]
    obtain ⟨⟨h28, r29⟩, e30, hJ⟩ := ob_some hJ
    refine jc_Vq (As := [.int x2]) C w (cc_Jx4a65c_get_915e3 N a27 h x2 hka27 e30) (mo_Jx4a65c_get_915e3 N a27 h x2 e30) (mb_X9_allRuns_24 N k4 t0 _ _ _ _ m4 hJ) hz2 hka27 (by decide) rfl (fs := fs2 h a27) rfl rfl ⟨tw_2_65, tw_2_62, tw_2_63, tw_2_64, tw_1_5⟩ cd_Jx4a65c_get_915e3 ⟨by decide, by decide⟩ hl.1 (by first | exact Nat.le_of_ble_eq_true rfl | simp [rf_cat, cat_i, cat_l, cat_r]) rfl dX9_allRuns_21 (fun H locs w1 => ?_)
    have hk31 := kd_keep w (mo_Jx4a65c_get_915e3 N a27 h x2 e30) hk0 (by decide)
    have w := w1
    exact sb_X9_allRuns_24 C hz2 N k4 t0 m4 i4 _ _ _ _ hJ hk31 w (lv_sub (l' := [(0, .ref t0), (2, .int x2)]) hl [0, 2] rfl)
def B_X9_allRuns_4 (N : Nat) (k4 : Hp → Int32 → Int32 → Option (Hp × Int32)) (t0 : Nat) (h : Hp) (x1 : Int32) (x2 : Int32) : Option (Hp × Int32) := dr h 2 (h.fr 1202 t0) (fun a32 => (J_Jx4a65c_size_8abf5 N a32 h).bind (fun z => B_X9_allRuns_12 N k4 t0 z.1 x1 x2 x2 z.2))
theorem mb_X9_allRuns_4 (N : Nat) (k4 : Hp → Int32 → Int32 → Option (Hp × Int32)) (t0 : Nat) (h : Hp) (x1 : Int32) (x2 : Int32) (m4 : ∀ (h : Hp) (x1 : Int32) (x2 : Int32), k4 h x1 x2 = some (hz, rz) → Mo h hz) (hJ : B_X9_allRuns_4 N k4 t0 h x1 x2 = some (hz, rz)) : Mo h hz := by
  unfold B_X9_allRuns_4 at hJ
  obtain ⟨a32, ea32, -, hJ⟩ := dr_some hJ
  obtain ⟨⟨h33, r34⟩, e35, hJ⟩ := ob_some hJ
  exact (mo_Jx4a65c_size_8abf5 N a32 h e35).tr (mb_X9_allRuns_12 N k4 t0 _ _ _ _ _ m4 hJ)
set_option maxRecDepth 100000 in
set_option maxHeartbeats 4000000 in
theorem sb_X9_allRuns_4 (C : Cx p s m args meth c cX9_allRuns 4 (some .int) RX9 D cs A h0.se) (hz2 : hz.nx ≤ h0.nx + mc ∧ hz.su ≤ h0.su + ms) (N : Nat) (k4 : Hp → Int32 → Int32 → Option (Hp × Int32)) (t0 : Nat) (m4 : ∀ (h : Hp) (x1 : Int32) (x2 : Int32), k4 h x1 x2 = some (hz, rz) → Mo h hz) (i4 : ∀ (h : Hp) (x1 : Int32) (x2 : Int32) (H : Heap) (locs : List Loc) (cells slots : Nat) (ls : Array Slot), k4 h x1 x2 = some (hz, rz) → h.kd t0 = 12 → Wo D cs A s h0 h H locs cells slots → lv_has ls 4 [(0, .ref t0), (1, .int x1), (2, .int x2)] → W p l e { frames := 4, cells := mc, slots := ms, locals := 120 } s m args below meth c H locs cells slots (MQ below (Zi D cs A hz rz) args s mc ms A) (F0 m 4 ls [])) (h : Hp) (x1 : Int32) (x2 : Int32) (hJ : B_X9_allRuns_4 N k4 t0 h x1 x2 = some (hz, rz)) (hk0 : h.kd t0 = 12) {H : Heap} {locs : List Loc} {cells slots : Nat} (w : Wo D cs A s h0 h H locs cells slots) {ls : Array Slot} (hl : lv_has ls 4 [(0, .ref t0), (1, .int x1), (2, .int x2)]) : W p l e { frames := 4, cells := mc, slots := ms, locals := 120 } s m args below meth c H locs cells slots (MQ below (Zi D cs A hz rz) args s mc ms A) (F0 m 4 ls []) := by
  obtain ⟨hx, hb, hml, hown, hts, -⟩ := id C
  unfold B_X9_allRuns_4 at hJ
  refine lv_iload_n hx hb dX9_allRuns_4 rfl (lv_at hl 2 rfl) ?_
  refine lv_aload_n hx hb dX9_allRuns_5 rfl (lv_at hl 0 rfl) ?_
  refine fg_1202 C w hk0 tw_1_134 dX9_allRuns_6 ?_
  obtain ⟨a32, ea32, hka32, hJ⟩ := dr_some hJ
  rw [ea32]
  obtain ⟨⟨h33, r34⟩, e35, hJ⟩ := ob_some hJ
  refine jc_Vi (As := []) C w (cc_Jx4a65c_size_8abf5 N a32 h hka32 e35) (mo_Jx4a65c_size_8abf5 N a32 h e35) (mb_X9_allRuns_12 N k4 t0 _ _ _ _ _ m4 hJ) hz2 hka32 (by decide) rfl (fs := fs2 h a32) rfl rfl ⟨tw_1_182, tw_1_179, tw_1_180, tw_1_181, tw_1_5⟩ cd_Jx4a65c_size_8abf5 ⟨by decide, by decide⟩ hl.1 (by first | exact Nat.le_of_ble_eq_true rfl | simp [rf_cat, cat_i, cat_l, cat_r]) rfl dX9_allRuns_9 (fun H locs w1 => ?_)
  have hk36 := kd_keep w (mo_Jx4a65c_size_8abf5 N a32 h e35) hk0 (by decide)
  have w := w1
  exact sb_X9_allRuns_12 C hz2 N k4 t0 m4 i4 _ _ _ _ _ hJ hk36 w hl
def L_X9_allRuns_4 (N : Nat) (t0 : Nat) : Nat → Hp → Int32 → Int32 → Option (Hp × Int32)
  | 0 => fun _ _ _ => none
  | n + 1 => fun h x1 x2 => B_X9_allRuns_4 N (L_X9_allRuns_4 N t0 n) t0 h x1 x2
theorem ml_X9_allRuns_4 (N : Nat) (t0 : Nat) : ∀ (n : Nat) (h : Hp) (x1 : Int32) (x2 : Int32), L_X9_allRuns_4 N t0 n h x1 x2 = some (hz, rz) → Mo h hz := by
  intro n
  induction n with
  | zero => intro h x1 x2 hJ; cases hJ
  | succ n ih => intro h x1 x2 hJ; exact mb_X9_allRuns_4 N (L_X9_allRuns_4 N t0 n) t0 h x1 x2 ih hJ
theorem sl_X9_allRuns_4 (C : Cx p s m args meth c cX9_allRuns 4 (some .int) RX9 D cs A h0.se) (hz2 : hz.nx ≤ h0.nx + mc ∧ hz.su ≤ h0.su + ms) (N : Nat) (t0 : Nat) : ∀ n : Nat, ∀ (h : Hp) (x1 : Int32) (x2 : Int32) (H : Heap) (locs : List Loc) (cells slots : Nat) (ls : Array Slot), L_X9_allRuns_4 N t0 n h x1 x2 = some (hz, rz) → h.kd t0 = 12 → Wo D cs A s h0 h H locs cells slots → lv_has ls 4 [(0, .ref t0), (1, .int x1), (2, .int x2)] → W p l e { frames := 4, cells := mc, slots := ms, locals := 120 } s m args below meth c H locs cells slots (MQ below (Zi D cs A hz rz) args s mc ms A) (F0 m 4 ls []) := by
  intro n
  induction n with
  | zero => intro h x1 x2 H locs cells slots ls hJ; cases hJ
  | succ n ih =>
    intro h x1 x2 H locs cells slots ls hJ hk0 w hl
    exact sb_X9_allRuns_4 C hz2 N (L_X9_allRuns_4 N t0 n) t0 (ml_X9_allRuns_4 N t0 n) ih h x1 x2 hJ hk0 w hl
def B_X9_allRuns_0 (N : Nat) (t0 : Nat) (h : Hp) : Option (Hp × Int32) := L_X9_allRuns_4 N t0 N h (0 : Int32) (0 : Int32)
theorem mb_X9_allRuns_0 (N : Nat) (t0 : Nat) (h : Hp) (hJ : B_X9_allRuns_0 N t0 h = some (hz, rz)) : Mo h hz := by
  unfold B_X9_allRuns_0 at hJ
  exact ml_X9_allRuns_4 N t0 N _ _ _ hJ
set_option maxRecDepth 100000 in
set_option maxHeartbeats 4000000 in
theorem sb_X9_allRuns_0 (C : Cx p s m args meth c cX9_allRuns 4 (some .int) RX9 D cs A h0.se) (hz2 : hz.nx ≤ h0.nx + mc ∧ hz.su ≤ h0.su + ms) (N : Nat) (t0 : Nat) (h : Hp) (hJ : B_X9_allRuns_0 N t0 h = some (hz, rz)) (hk0 : h.kd t0 = 12) {H : Heap} {locs : List Loc} {cells slots : Nat} (w : Wo D cs A s h0 h H locs cells slots) {ls : Array Slot} (hl : lv_has ls 4 [(0, .ref t0)]) : W p l e { frames := 4, cells := mc, slots := ms, locals := 120 } s m args below meth c H locs cells slots (MQ below (Zi D cs A hz rz) args s mc ms A) (F0 m 0 ls []) := by
  obtain ⟨hx, hb, hml, hown, hts, -⟩ := id C
  unfold B_X9_allRuns_0 at hJ
  refine lv_iconst (v := (0 : Int32)) hx hb dX9_allRuns_0 (by decide) ?_
  refine lv_istore_n (i := 1) (lv' := [(1, .int (0 : Int32)), (0, .ref t0)]) hx hb dX9_allRuns_1 rfl hl (by decide) rfl (fun ls hl => ?_)
  refine lv_iconst (v := (0 : Int32)) hx hb dX9_allRuns_2 (by decide) ?_
  refine lv_istore_n (i := 2) (lv' := [(2, .int (0 : Int32)), (1, .int (0 : Int32)), (0, .ref t0)]) hx hb dX9_allRuns_3 rfl hl (by decide) rfl (fun ls hl => ?_)
  exact sl_X9_allRuns_4 C hz2 N t0 N _ _ _ _ _ _ _ _ hJ hk0 w (lv_sub (l' := [(0, .ref t0), (1, .int (0 : Int32)), (2, .int (0 : Int32))]) hl [2, 1, 0] rfl)
def J_X9_allRuns (N : Nat) (t0 : Nat) (h : Hp) : Option (Hp × Int32) := B_X9_allRuns_0 N t0 h
theorem mo_X9_allRuns (N : Nat) (t0 : Nat) (h : Hp) (hJ : J_X9_allRuns N t0 h = some (hz, rz)) : Mo h hz := mb_X9_allRuns_0 N t0 h hJ
theorem cd_X9_allRuns : Cd yX9_allRuns 0 := ⟨by decide +kernel, by decide +kernel, by decide +kernel⟩
theorem cc_X9_allRuns (N : Nat) (t0 : Nat) (h : Hp) (hk0 : h.kd t0 = 12) (hJ : J_X9_allRuns N t0 h = some (hz, rz)) : Ci l yX9_allRuns cX9_allRuns 4 (some .int) 4 120 D cs h hz [.ref t0] rz := by
  intro mc ms g1 g2
  refine je_any (by decide) (by simp [lg_sl, rf_cat, cat_i, cat_l, cat_r]) ?_
  intro p e s m args below meth c C hin2 w ls hl
  have hl : lv_has ls 4 [(0, .ref t0)] := hl
  exact sb_X9_allRuns_0 C ⟨g1, g2⟩ N t0 h hJ hk0 w hl
end G_X9_allRuns
