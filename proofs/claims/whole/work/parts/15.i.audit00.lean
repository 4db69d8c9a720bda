section G_X1_init
variable {p : Program} {l : Launch} {e : Env} {s : State} {m : MethodId} {args : Array Value} {below : List Frame} {meth : Method} {c : Code} {D : va_G} {cs : C4} {A : Nat → Prop} {h0 hz : Hp} {mc ms : Nat}
def B_X1_init_58 (N : Nat) (t0 : Nat) (h : Hp) (y0 : Option Nat) (y1 : Option Nat) : Option (Hp × Unit) := dr h 4 y0 (fun a1 => some (h.sfr 405 a1 y1, ()))
theorem mb_X1_init_58 (N : Nat) (t0 : Nat) (h : Hp) (y0 : Option Nat) (y1 : Option Nat) (hJ : B_X1_init_58 N t0 h y0 y1 = some (hz, ())) : Mo h hz := by
  unfold B_X1_init_58 at hJ
  obtain ⟨a1, ea1, -, hJ⟩ := dr_some hJ
  obtain ⟨rfl, -⟩ := rs2 hJ
  exact ⟨fun _ _ => rfl, Nat.le_refl _, Nat.le_refl _, rfl, fun _ _ => rfl⟩
set_option maxRecDepth 100000 in
set_option maxHeartbeats 4000000 in
theorem sb_X1_init_58 (C : Cx p s m args meth c cX1_init 3 none RX1 D cs A h0.se) (hin2 : meth.name = "<init>") (hz2 : hz.nx ≤ h0.nx + mc ∧ hz.su ≤ h0.su + ms) (N : Nat) (t0 : Nat) (h : Hp) (y0 : Option Nat) (y1 : Option Nat) (hJ : B_X1_init_58 N t0 h y0 y1 = some (hz, ())) (hk0 : h.kd t0 = 4) {H : Heap} {locs : List Loc} {cells slots : Nat} (w : Wo D cs A s h0 h H locs cells slots) {ls : Array Slot} (hl : lv_has ls 3 [(0, .ref t0)]) : W p l e { frames := 1, cells := mc, slots := ms, locals := 40 } s m args below meth c H locs cells slots (MQ below (Zv D cs A hz) args s mc ms A) (F0 m 58 ls [va_rf y1, va_rf y0]) := by
  obtain ⟨hx, hb, hml, hown, hts, -⟩ := id C
  unfold B_X1_init_58 at hJ
  obtain ⟨a1, ea1, hka1, hJ⟩ := dr_some hJ
  rw [ea1]
  refine fp_405 (x := y1) C hin2 w hka1 tw_3_18 dX1_init_58 (fun H locs w => ?_)
  obtain ⟨rfl, -⟩ := rs2 hJ
  exact jr_vret C w hz2 dX1_init_61
def B_X1_init_48 (N : Nat) (t0 : Nat) (h : Hp) (y0 : Option Nat) (y1 : Option Nat) : Option (Hp × Unit) := dr h 4 y0 (fun a2 => ck (¬ ((h.sfr 404 a2 y1).fi 402 t0) < 0 ∧ ((h.sfr 404 a2 y1).fi 402 t0).toNatClampNeg ≤ 67108864) (B_X1_init_58 N t0 ((h.sfr 404 a2 y1).new 20 (((h.sfr 404 a2 y1).fi 402 t0).toNatClampNeg) (((h.sfr 404 a2 y1).fi 402 t0).toNatClampNeg)) (some t0) (some (h.sfr 404 a2 y1).nx)))
theorem mb_X1_init_48 (N : Nat) (t0 : Nat) (h : Hp) (y0 : Option Nat) (y1 : Option Nat) (hJ : B_X1_init_48 N t0 h y0 y1 = some (hz, ())) : Mo h hz := by
  unfold B_X1_init_48 at hJ
  obtain ⟨a2, ea2, -, hJ⟩ := dr_some hJ
  obtain ⟨-, hJ⟩ := ck_some hJ
  exact (Mo.tr (show Mo h (h.sfr 404 a2 y1) from ⟨fun _ _ => rfl, Nat.le_refl _, Nat.le_refl _, rfl, fun _ _ => rfl⟩) ((Mo.new (h.sfr 404 a2 y1) _ _ _).tr (mb_X1_init_58 N t0 _ _ _ hJ)))
set_option maxRecDepth 100000 in
set_option maxHeartbeats 4000000 in
theorem sb_X1_init_48 (C : Cx p s m args meth c cX1_init 3 none RX1 D cs A h0.se) (hin2 : meth.name = "<init>") (hz2 : hz.nx ≤ h0.nx + mc ∧ hz.su ≤ h0.su + ms) (N : Nat) (t0 : Nat) (h : Hp) (y0 : Option Nat) (y1 : Option Nat) (hJ : B_X1_init_48 N t0 h y0 y1 = some (hz, ())) (hk0 : h.kd t0 = 4) {H : Heap} {locs : List Loc} {cells slots : Nat} (w : Wo D cs A s h0 h H locs cells slots) {ls : Array Slot} (hl : lv_has ls 3 [(0, .ref t0)]) : W p l e { frames := 1, cells := mc, slots := ms, locals := 40 } s m args below meth c H locs cells slots (MQ below (Zv D cs A hz) args s mc ms A) (F0 m 48 ls [va_rf y1, va_rf y0]) := by
  obtain ⟨hx, hb, hml, hown, hts, -⟩ := id C
  unfold B_X1_init_48 at hJ
  obtain ⟨a2, ea2, hka2, hJ⟩ := dr_some hJ
  rw [ea2]
  refine fp_404 (x := y1) C hin2 w hka2 tw_3_17 dX1_init_48 (fun H locs w => ?_)
  refine lv_aload_n hx hb dX1_init_51 rfl (lv_at hl 0 rfl) ?_
  refine lv_aload_n hx hb dX1_init_52 rfl (lv_at hl 0 rfl) ?_
  refine fg_402 C w hk0 tw_3_15 dX1_init_53 ?_
  obtain ⟨hn3, hJ⟩ := ck_some hJ
  have w0 := w
  refine fa_20 C w hn3 (mb_X1_init_58 N t0 _ _ _ hJ) hz2 dX1_init_56 (fun H w => ?_)
  have hk4 := kd_new (k := 20) (n := ((h.sfr 404 a2 y1).fi 402 t0).toNatClampNeg) (sl := ((h.sfr 404 a2 y1).fi 402 t0).toNatClampNeg) w0 hk0 (by decide)
  exact sb_X1_init_58 C hin2 hz2 N t0 _ _ _ hJ hk4 w hl
def B_X1_init_19 (N : Nat) (t0 : Nat) (h : Hp) (y0 : Option Nat) (y1 : Int32) : Option (Hp × Unit) := dr h 4 y0 (fun a5 => ck (¬ ((((h.sfi 402 a5 y1).sfi 403 t0 (((((h.sfi 402 a5 y1).fi 402 t0) + (63 : Int32)).toUInt32 >>> ((6 : Int32).toUInt32 &&& Int32.toUInt32 31)).toInt32)).fi 402 t0) * (((h.sfi 402 a5 y1).sfi 403 t0 (((((h.sfi 402 a5 y1).fi 402 t0) + (63 : Int32)).toUInt32 >>> ((6 : Int32).toUInt32 &&& Int32.toUInt32 31)).toInt32)).fi 403 t0)) < 0 ∧ ((((h.sfi 402 a5 y1).sfi 403 t0 (((((h.sfi 402 a5 y1).fi 402 t0) + (63 : Int32)).toUInt32 >>> ((6 : Int32).toUInt32 &&& Int32.toUInt32 31)).toInt32)).fi 402 t0) * (((h.sfi 402 a5 y1).sfi 403 t0 (((((h.sfi 402 a5 y1).fi 402 t0) + (63 : Int32)).toUInt32 >>> ((6 : Int32).toUInt32 &&& Int32.toUInt32 31)).toInt32)).fi 403 t0)).toNatClampNeg ≤ 67108864) (B_X1_init_48 N t0 (((h.sfi 402 a5 y1).sfi 403 t0 (((((h.sfi 402 a5 y1).fi 402 t0) + (63 : Int32)).toUInt32 >>> ((6 : Int32).toUInt32 &&& Int32.toUInt32 31)).toInt32)).new 21 (((((h.sfi 402 a5 y1).sfi 403 t0 (((((h.sfi 402 a5 y1).fi 402 t0) + (63 : Int32)).toUInt32 >>> ((6 : Int32).toUInt32 &&& Int32.toUInt32 31)).toInt32)).fi 402 t0) * (((h.sfi 402 a5 y1).sfi 403 t0 (((((h.sfi 402 a5 y1).fi 402 t0) + (63 : Int32)).toUInt32 >>> ((6 : Int32).toUInt32 &&& Int32.toUInt32 31)).toInt32)).fi 403 t0)).toNatClampNeg) (((((h.sfi 402 a5 y1).sfi 403 t0 (((((h.sfi 402 a5 y1).fi 402 t0) + (63 : Int32)).toUInt32 >>> ((6 : Int32).toUInt32 &&& Int32.toUInt32 31)).toInt32)).fi 402 t0) * (((h.sfi 402 a5 y1).sfi 403 t0 (((((h.sfi 402 a5 y1).fi 402 t0) + (63 : Int32)).toUInt32 >>> ((6 : Int32).toUInt32 &&& Int32.toUInt32 31)).toInt32)).fi 403 t0)).toNatClampNeg)) (some t0) (some ((h.sfi 402 a5 y1).sfi 403 t0 (((((h.sfi 402 a5 y1).fi 402 t0) + (63 : Int32)).toUInt32 >>> ((6 : Int32).toUInt32 &&& Int32.toUInt32 31)).toInt32)).nx)))
theorem mb_X1_init_19 (N : Nat) (t0 : Nat) (h : Hp) (y0 : Option Nat) (y1 : Int32) (hJ : B_X1_init_19 N t0 h y0 y1 = some (hz, ())) : Mo h hz := by
  unfold B_X1_init_19 at hJ
  obtain ⟨a5, ea5, -, hJ⟩ := dr_some hJ
  obtain ⟨-, hJ⟩ := ck_some hJ
  exact (Mo.tr (show Mo h ((h.sfi 402 a5 y1).sfi 403 t0 (((((h.sfi 402 a5 y1).fi 402 t0) + (63 : Int32)).toUInt32 >>> ((6 : Int32).toUInt32 &&& Int32.toUInt32 31)).toInt32)) from ⟨fun _ _ => rfl, Nat.le_refl _, Nat.le_refl _, rfl, fun _ _ => rfl⟩) ((Mo.new ((h.sfi 402 a5 y1).sfi 403 t0 (((((h.sfi 402 a5 y1).fi 402 t0) + (63 : Int32)).toUInt32 >>> ((6 : Int32).toUInt32 &&& Int32.toUInt32 31)).toInt32)) _ _ _).tr (mb_X1_init_48 N t0 _ _ _ hJ)))
set_option maxRecDepth 100000 in
set_option maxHeartbeats 4000000 in
theorem sb_X1_init_19 (C : Cx p s m args meth c cX1_init 3 none RX1 D cs A h0.se) (hin2 : meth.name = "<init>") (hz2 : hz.nx ≤ h0.nx + mc ∧ hz.su ≤ h0.su + ms) (N : Nat) (t0 : Nat) (h : Hp) (y0 : Option Nat) (y1 : Int32) (hJ : B_X1_init_19 N t0 h y0 y1 = some (hz, ())) (hk0 : h.kd t0 = 4) {H : Heap} {locs : List Loc} {cells slots : Nat} (w : Wo D cs A s h0 h H locs cells slots) {ls : Array Slot} (hl : lv_has ls 3 [(0, .ref t0)]) : W p l e { frames := 1, cells := mc, slots := ms, locals := 40 } s m args below meth c H locs cells slots (MQ below (Zv D cs A hz) args s mc ms A) (F0 m 19 ls [.int y1, va_rf y0]) := by
  obtain ⟨hx, hb, hml, hown, hts, -⟩ := id C
  unfold B_X1_init_19 at hJ
  obtain ⟨a5, ea5, hka5, hJ⟩ := dr_some hJ
  rw [ea5]
  refine fp_402 (x := y1) C hin2 w hka5 tw_3_15 dX1_init_19 (fun H locs w => ?_)
  refine lv_aload_n hx hb dX1_init_22 rfl (lv_at hl 0 rfl) ?_
  refine lv_aload_n hx hb dX1_init_23 rfl (lv_at hl 0 rfl) ?_
  refine fg_402 C w hk0 tw_3_15 dX1_init_24 ?_
  refine lv_bipush (v := (63 : Int32)) hx hb dX1_init_27 (by decide) ?_
  refine lv_iadd hx hb dX1_init_29 ?_
  refine lv_bipush (v := (6 : Int32)) hx hb dX1_init_30 (by decide) ?_
  refine lv_iushr hx hb dX1_init_32 rfl ?_
  refine fp_403 (x := ((((h.sfi 402 a5 y1).fi 402 t0) + (63 : Int32)).toUInt32 >>> ((6 : Int32).toUInt32 &&& Int32.toUInt32 31)).toInt32) C hin2 w hk0 tw_3_16 dX1_init_33 (fun H locs w => ?_)
  refine lv_aload_n hx hb dX1_init_36 rfl (lv_at hl 0 rfl) ?_
  refine lv_aload_n hx hb dX1_init_37 rfl (lv_at hl 0 rfl) ?_
  refine fg_402 C w hk0 tw_3_15 dX1_init_38 ?_
  refine lv_aload_n hx hb dX1_init_41 rfl (lv_at hl 0 rfl) ?_
  refine fg_403 C w hk0 tw_3_16 dX1_init_42 ?_
  refine lv_imul hx hb dX1_init_45 ?_
  obtain ⟨hn6, hJ⟩ := ck_some hJ
  have w0 := w
  refine fa_21 C w hn6 (mb_X1_init_48 N t0 _ _ _ hJ) hz2 dX1_init_46 (fun H w => ?_)
  have hk7 := kd_new (k := 21) (n := ((((h.sfi 402 a5 y1).sfi 403 t0 (((((h.sfi 402 a5 y1).fi 402 t0) + (63 : Int32)).toUInt32 >>> ((6 : Int32).toUInt32 &&& Int32.toUInt32 31)).toInt32)).fi 402 t0) * (((h.sfi 402 a5 y1).sfi 403 t0 (((((h.sfi 402 a5 y1).fi 402 t0) + (63 : Int32)).toUInt32 >>> ((6 : Int32).toUInt32 &&& Int32.toUInt32 31)).toInt32)).fi 403 t0)).toNatClampNeg) (sl := ((((h.sfi 402 a5 y1).sfi 403 t0 (((((h.sfi 402 a5 y1).fi 402 t0) + (63 : Int32)).toUInt32 >>> ((6 : Int32).toUInt32 &&& Int32.toUInt32 31)).toInt32)).fi 402 t0) * (((h.sfi 402 a5 y1).sfi 403 t0 (((((h.sfi 402 a5 y1).fi 402 t0) + (63 : Int32)).toUInt32 >>> ((6 : Int32).toUInt32 &&& Int32.toUInt32 31)).toInt32)).fi 403 t0)).toNatClampNeg) w0 hk0 (by decide)
  exact sb_X1_init_48 C hin2 hz2 N t0 _ _ _ hJ hk7 w hl
def B_X1_init_0 (N : Nat) (t0 : Nat) (h : Hp) (x1 : Option Nat) (x2 : Option Nat) : Option (Hp × Unit) := dr ((h.sfr 400 t0 x1).sfr 401 t0 x2) 2 x2 (fun a8 => (J_Jx4a65c_size_8abf5 N a8 ((h.sfr 400 t0 x1).sfr 401 t0 x2)).bind (fun z => B_X1_init_19 N t0 z.1 (some t0) z.2))
theorem mb_X1_init_0 (N : Nat) (t0 : Nat) (h : Hp) (x1 : Option Nat) (x2 : Option Nat) (hJ : B_X1_init_0 N t0 h x1 x2 = some (hz, ())) : Mo h hz := by
  unfold B_X1_init_0 at hJ
  obtain ⟨a8, ea8, -, hJ⟩ := dr_some hJ
  obtain ⟨⟨h9, r10⟩, e11, hJ⟩ := ob_some hJ
  exact (Mo.tr (show Mo h ((h.sfr 400 t0 x1).sfr 401 t0 x2) from ⟨fun _ _ => rfl, Nat.le_refl _, Nat.le_refl _, rfl, fun _ _ => rfl⟩) ((mo_Jx4a65c_size_8abf5 N a8 ((h.sfr 400 t0 x1).sfr 401 t0 x2) e11).tr (mb_X1_init_19 N t0 _ _ _ hJ)))
set_option maxRecDepth 100000 in
set_option maxHeartbeats 4000000 in
theorem sb_X1_init_0 (C : Cx p s m args meth c cX1_init 3 none RX1 D cs A h0.se) (hin2 : meth.name = "<init>") (hz2 : hz.nx ≤ h0.nx + mc ∧ hz.su ≤ h0.su + ms) (N : Nat) (t0 : Nat) (h : Hp) (x1 : Option Nat) (x2 : Option Nat) (hJ : B_X1_init_0 N t0 h x1 x2 = some (hz, ())) (hk0 : h.kd t0 = 4) {H : Heap} {locs : List Loc} {cells slots : Nat} (w : Wo D cs A s h0 h H locs cells slots) {ls : Array Slot} (hl : lv_has ls 3 [(0, .ref t0), (1, va_rf x1), (2, va_rf x2)]) : W p l e { frames := 1, cells := mc, slots := ms, locals := 40 } s m args below meth c H locs cells slots (MQ below (Zv D cs A hz) args s mc ms A) (F0 m 0 ls []) := by
  obtain ⟨hx, hb, hml, hown, hts, -⟩ := id C
  unfold B_X1_init_0 at hJ
  refine lv_aload_n hx hb dX1_init_0 rfl (lv_at hl 0 rfl) ?_
  refine jc_O C tw_3_11 tw_1_41 tw_obj hl.1 (by first | exact Nat.le_of_ble_eq_true rfl | simp [rf_cat, cat_i, cat_l, cat_r]) (by decide) dX1_init_1 ?_
  refine lv_aload_n hx hb dX1_init_4 rfl (lv_at hl 0 rfl) ?_
  refine jv_aload_n hx hb dX1_init_5 rfl (lv_at hl 1 rfl) ?_
  refine fp_400 (x := x1) C hin2 w hk0 tw_3_13 dX1_init_6 (fun H locs w => ?_)
  refine lv_aload_n hx hb dX1_init_9 rfl (lv_at hl 0 rfl) ?_
  refine jv_aload_n hx hb dX1_init_10 rfl (lv_at hl 2 rfl) ?_
  refine fp_401 (x := x2) C hin2 w hk0 tw_3_14 dX1_init_11 (fun H locs w => ?_)
  refine lv_aload_n hx hb dX1_init_14 rfl (lv_at hl 0 rfl) ?_
  refine jv_aload_n hx hb dX1_init_15 rfl (lv_at hl 2 rfl) ?_
  obtain ⟨a8, ea8, hka8, hJ⟩ := dr_some hJ
  rw [ea8] at hl
  rw [ea8]
  obtain ⟨⟨h9, r10⟩, e11, hJ⟩ := ob_some hJ
  refine jc_Vi (As := []) C w (cc_Jx4a65c_size_8abf5 N a8 ((h.sfr 400 t0 x1).sfr 401 t0 x2) hka8 e11) (mo_Jx4a65c_size_8abf5 N a8 ((h.sfr 400 t0 x1).sfr 401 t0 x2) e11) (mb_X1_init_19 N t0 _ _ _ hJ) hz2 hka8 (by decide) rfl (fs := fs2 ((h.sfr 400 t0 x1).sfr 401 t0 x2) a8) rfl rfl ⟨tw_1_182, tw_3_12, tw_1_180, tw_1_181, tw_1_5⟩ cd_Jx4a65c_size_8abf5 ⟨by decide, by decide⟩ hl.1 (by first | exact Nat.le_of_ble_eq_true rfl | simp [rf_cat, cat_i, cat_l, cat_r]) rfl dX1_init_16 (fun H locs w1 => ?_)
  have hk12 := kd_keep w (mo_Jx4a65c_size_8abf5 N a8 ((h.sfr 400 t0 x1).sfr 401 t0 x2) e11) hk0 (by decide)
  have w := w1
  exact sb_X1_init_19 C hin2 hz2 N t0 _ _ _ hJ hk12 w (lv_sub (l' := [(0, .ref t0)]) hl [0] rfl)
def J_X1_init (N : Nat) (t0 : Nat) (h : Hp) (x1 : Option Nat) (x2 : Option Nat) : Option (Hp × Unit) := B_X1_init_0 N t0 h x1 x2
theorem mo_X1_init (N : Nat) (t0 : Nat) (h : Hp) (x1 : Option Nat) (x2 : Option Nat) (hJ : J_X1_init N t0 h x1 x2 = some (hz, ())) : Mo h hz := mb_X1_init_0 N t0 h x1 x2 hJ
theorem cd_X1_init : Cd yX1_init 2 := ⟨by decide +kernel, by decide +kernel, by decide +kernel⟩
theorem cc_X1_init (N : Nat) (t0 : Nat) (h : Hp) (x1 : Option Nat) (x2 : Option Nat) (hk0 : h.kd t0 = 4) (hJ : J_X1_init N t0 h x1 x2 = some (hz, ())) : Cv l yX1_init cX1_init 3 none 1 40 D cs h hz [.ref t0, va_rf x1, va_rf x2] := by
  intro mc ms g1 g2
  refine je_any (by decide) (by simp [lg_sl, rf_cat, cat_i, cat_l, cat_r]) ?_
  intro p e s m args below meth c C hin2 w ls hl
  have hl : lv_has ls 3 [(0, .ref t0), (1, va_rf x1), (2, va_rf x2)] := by simpa [lv_args, rf_cat, cat_i, cat_l, cat_r] using hl
  exact sb_X1_init_0 C hin2 ⟨g1, g2⟩ N t0 h x1 x2 hJ hk0 w hl
end G_X1_init
section G_X1_draw
variable {p : Program} {l : Launch} {e : Env} {s : State} {m : MethodId} {args : Array Value} {below : List Frame} {meth : Method} {c : Code} {D : va_G} {cs : C4} {A : Nat → Prop} {h0 hz : Hp} {mc ms : Nat}
def B_X1_draw_67 (N : Nat) (t0 : Nat) (h : Hp) : Option (Hp × Unit) := some (h, ())
theorem mb_X1_draw_67 (N : Nat) (t0 : Nat) (h : Hp) (hJ : B_X1_draw_67 N t0 h = some (hz, ())) : Mo h hz := by
  unfold B_X1_draw_67 at hJ
  obtain ⟨rfl, -⟩ := rs2 hJ
  exact ⟨fun _ _ => rfl, Nat.le_refl _, Nat.le_refl _, rfl, fun _ _ => rfl⟩
set_option maxRecDepth 100000 in
set_option maxHeartbeats 4000000 in
theorem sb_X1_draw_67 (C : Cx p s m args meth c cX1_draw 5 none RX1 D cs A h0.se) (hz2 : hz.nx ≤ h0.nx + mc ∧ hz.su ≤ h0.su + ms) (N : Nat) (t0 : Nat) (h : Hp) (hJ : B_X1_draw_67 N t0 h = some (hz, ())) (hk0 : h.kd t0 = 4) {H : Heap} {locs : List Loc} {cells slots : Nat} (w : Wo D cs A s h0 h H locs cells slots) {ls : Array Slot} (hl : lv_has ls 5 [(0, .ref t0)]) : W p l e { frames := 0, cells := mc, slots := ms, locals := 0 } s m args below meth c H locs cells slots (MQ below (Zv D cs A hz) args s mc ms A) (F0 m 67 ls []) := by
  obtain ⟨hx, hb, hml, hown, hts, -⟩ := id C
  unfold B_X1_draw_67 at hJ
  obtain ⟨rfl, -⟩ := rs2 hJ
  exact jr_vret C w hz2 dX1_draw_67
def B_X1_draw_0 (N : Nat) (t0 : Nat) (h : Hp) (x1 : Int32) (x2 : Int32) : Option (Hp × Unit) := if (x1 - (1 : Int32)) = (x2 - (1 : Int32)) then (B_X1_draw_67 N t0 h) else (if (x1 - (1 : Int32)) < 0 then (B_X1_draw_67 N t0 h) else (if (h.fi 402 t0) ≤ (x1 - (1 : Int32)) then (B_X1_draw_67 N t0 h) else (if (x2 - (1 : Int32)) < 0 then (B_X1_draw_67 N t0 h) else (if (h.fi 402 t0) ≤ (x2 - (1 : Int32)) then (B_X1_draw_67 N t0 h) else (dr h 21 (h.fr 404 t0) (fun a6 => ck (¬ (((x2 - (1 : Int32)) * (h.fi 403 t0)) + (((x1 - (1 : Int32)).toUInt32 >>> ((6 : Int32).toUInt32 &&& Int32.toUInt32 31)).toInt32) < 0 ∨ h.al a6 ≤ (((x2 - (1 : Int32)) * (h.fi 403 t0)) + (((x1 - (1 : Int32)).toUInt32 >>> ((6 : Int32).toUInt32 &&& Int32.toUInt32 31)).toInt32)).toNatClampNeg)) (ck (¬ (((x2 - (1 : Int32)) * (h.fi 403 t0)) + (((x1 - (1 : Int32)).toUInt32 >>> ((6 : Int32).toUInt32 &&& Int32.toUInt32 31)).toInt32) < 0 ∨ h.al a6 ≤ (((x2 - (1 : Int32)) * (h.fi 403 t0)) + (((x1 - (1 : Int32)).toUInt32 >>> ((6 : Int32).toUInt32 &&& Int32.toUInt32 31)).toInt32)).toNatClampNeg)) (B_X1_draw_67 N t0 (h.saw a6 (((x2 - (1 : Int32)) * (h.fi 403 t0)) + (((x1 - (1 : Int32)).toUInt32 >>> ((6 : Int32).toUInt32 &&& Int32.toUInt32 31)).toInt32)).toNatClampNeg ((h.aw a6 (((x2 - (1 : Int32)) * (h.fi 403 t0)) + (((x1 - (1 : Int32)).toUInt32 >>> ((6 : Int32).toUInt32 &&& Int32.toUInt32 31)).toInt32)).toNatClampNeg) ||| ((1 : Int64) <<< (((x1 - (1 : Int32)) &&& (63 : Int32)).toInt64 &&& 63))))))))))))
theorem mb_X1_draw_0 (N : Nat) (t0 : Nat) (h : Hp) (x1 : Int32) (x2 : Int32) (hJ : B_X1_draw_0 N t0 h x1 x2 = some (hz, ())) : Mo h hz := by
  unfold B_X1_draw_0 at hJ
  by_cases c1 : (x1 - (1 : Int32)) = (x2 - (1 : Int32))
  · have hJ := it_pos c1 hJ
    exact mb_X1_draw_67 N t0 _ hJ
  · have hJ := it_neg c1 hJ
    by_cases c2 : (x1 - (1 : Int32)) < 0
    · have hJ := it_pos c2 hJ
      exact mb_X1_draw_67 N t0 _ hJ
    · have hJ := it_neg c2 hJ
      by_cases c3 : (h.fi 402 t0) ≤ (x1 - (1 : Int32))
      · have hJ := it_pos c3 hJ
        exact mb_X1_draw_67 N t0 _ hJ
      · have hJ := it_neg c3 hJ
        by_cases c4 : (x2 - (1 : Int32)) < 0
        · have hJ := it_pos c4 hJ
          exact mb_X1_draw_67 N t0 _ hJ
        · have hJ := it_neg c4 hJ
          by_cases c5 : (h.fi 402 t0) ≤ (x2 - (1 : Int32))
          · have hJ := it_pos c5 hJ
            exact mb_X1_draw_67 N t0 _ hJ
          · have hJ := it_neg c5 hJ
            obtain ⟨a6, ea6, -, hJ⟩ := dr_some hJ
            obtain ⟨-, hJ⟩ := ck_some hJ
            obtain ⟨-, hJ⟩ := ck_some hJ
            exact (Mo.tr (show Mo h (h.saw a6 (((x2 - (1 : Int32)) * (h.fi 403 t0)) + (((x1 - (1 : Int32)).toUInt32 >>> ((6 : Int32).toUInt32 &&& Int32.toUInt32 31)).toInt32)).toNatClampNeg ((h.aw a6 (((x2 - (1 : Int32)) * (h.fi 403 t0)) + (((x1 - (1 : Int32)).toUInt32 >>> ((6 : Int32).toUInt32 &&& Int32.toUInt32 31)).toInt32)).toNatClampNeg) ||| ((1 : Int64) <<< (((x1 - (1 : Int32)) &&& (63 : Int32)).toInt64 &&& 63)))) from ⟨fun _ _ => rfl, Nat.le_refl _, Nat.le_refl _, rfl, fun _ _ => rfl⟩) (mb_X1_draw_67 N t0 _ hJ))
set_option maxRecDepth 100000 in
set_option maxHeartbeats 4000000 in
theorem sb_X1_draw_0 (C : Cx p s m args meth c cX1_draw 5 none RX1 D cs A h0.se) (hz2 : hz.nx ≤ h0.nx + mc ∧ hz.su ≤ h0.su + ms) (N : Nat) (t0 : Nat) (h : Hp) (x1 : Int32) (x2 : Int32) (hJ : B_X1_draw_0 N t0 h x1 x2 = some (hz, ())) (hk0 : h.kd t0 = 4) {H : Heap} {locs : List Loc} {cells slots : Nat} (w : Wo D cs A s h0 h H locs cells slots) {ls : Array Slot} (hl : lv_has ls 5 [(0, .ref t0), (1, .int x1), (2, .int x2)]) : W p l e { frames := 0, cells := mc, slots := ms, locals := 0 } s m args below meth c H locs cells slots (MQ below (Zv D cs A hz) args s mc ms A) (F0 m 0 ls []) := by
  obtain ⟨hx, hb, hml, hown, hts, -⟩ := id C
  unfold B_X1_draw_0 at hJ
  refine lv_iload_n hx hb dX1_draw_0 rfl (lv_at hl 1 rfl) ?_
  refine lv_iconst (v := (1 : Int32)) hx hb dX1_draw_1 (by decide) ?_
  refine lv_isub hx hb dX1_draw_2 ?_
  refine lv_istore_n (i := 3) (lv' := [(3, .int (x1 - (1 : Int32))), (0, .ref t0), (1, .int x1), (2, .int x2)]) hx hb dX1_draw_3 rfl hl (by decide) rfl (fun ls hl => ?_)
  refine lv_iload_n hx hb dX1_draw_4 rfl (lv_at hl 3 rfl) ?_
  refine lv_iconst (v := (1 : Int32)) hx hb dX1_draw_5 (by decide) ?_
  refine lv_isub hx hb dX1_draw_6 ?_
  refine lv_istore (i := 4) (lv' := [(4, .int (x2 - (1 : Int32))), (3, .int (x1 - (1 : Int32))), (0, .ref t0), (1, .int x1), (2, .int x2)]) hx hb dX1_draw_7 hl (by decide) rfl (fun ls hl => ?_)
  refine lv_iload_n hx hb dX1_draw_9 rfl (lv_at hl 1 rfl) ?_
  refine lv_iload hx hb dX1_draw_10 (lv_at hl 0 rfl) ?_
  refine lv_icmp_eq (tgt := 67) hx hb dX1_draw_12 (by decide) (fun c1 => ?_) (fun c1 => ?_)
  · have hJ := it_pos c1 hJ
    exact sb_X1_draw_67 C hz2 N t0 _ hJ hk0 w (lv_sub (l' := [(0, .ref t0)]) hl [2] rfl)
  · have hJ := it_neg c1 hJ
    refine lv_iload_n hx hb dX1_draw_15 rfl (lv_at hl 1 rfl) ?_
    refine lv_if_lt (tgt := 67) hx hb dX1_draw_16 (by decide) (fun c2 => ?_) (fun c2 => ?_)
    · have hJ := it_pos c2 hJ
      exact sb_X1_draw_67 C hz2 N t0 _ hJ hk0 w (lv_sub (l' := [(0, .ref t0)]) hl [2] rfl)
    · have hJ := it_neg c2 hJ
      refine lv_iload_n hx hb dX1_draw_19 rfl (lv_at hl 1 rfl) ?_
      refine lv_aload_n hx hb dX1_draw_20 rfl (lv_at hl 2 rfl) ?_
      refine fg_402 C w hk0 tw_3_15 dX1_draw_21 ?_
      refine lv_icmp_ge (tgt := 67) hx hb dX1_draw_24 (by decide) (fun c3 => ?_) (fun c3 => ?_)
      · have hJ := it_pos c3 hJ
        exact sb_X1_draw_67 C hz2 N t0 _ hJ hk0 w (lv_sub (l' := [(0, .ref t0)]) hl [2] rfl)
      · have hJ := it_neg c3 hJ
        refine lv_iload hx hb dX1_draw_27 (lv_at hl 0 rfl) ?_
        refine lv_if_lt (tgt := 67) hx hb dX1_draw_29 (by decide) (fun c4 => ?_) (fun c4 => ?_)
        · have hJ := it_pos c4 hJ
          exact sb_X1_draw_67 C hz2 N t0 _ hJ hk0 w (lv_sub (l' := [(0, .ref t0)]) hl [2] rfl)
        · have hJ := it_neg c4 hJ
          refine lv_iload hx hb dX1_draw_32 (lv_at hl 0 rfl) ?_
          refine lv_aload_n hx hb dX1_draw_34 rfl (lv_at hl 2 rfl) ?_
          refine fg_402 C w hk0 tw_3_15 dX1_draw_35 ?_
          refine lv_icmp_ge (tgt := 67) hx hb dX1_draw_38 (by decide) (fun c5 => ?_) (fun c5 => ?_)
          · have hJ := it_pos c5 hJ
            exact sb_X1_draw_67 C hz2 N t0 _ hJ hk0 w (lv_sub (l' := [(0, .ref t0)]) hl [2] rfl)
          · have hJ := it_neg c5 hJ
            refine lv_aload_n hx hb dX1_draw_41 rfl (lv_at hl 2 rfl) ?_
            refine fg_404 C w hk0 tw_3_17 dX1_draw_42 ?_
            refine lv_iload hx hb dX1_draw_45 (lv_at hl 0 rfl) ?_
            refine lv_aload_n hx hb dX1_draw_47 rfl (lv_at hl 2 rfl) ?_
            refine fg_403 C w hk0 tw_3_16 dX1_draw_48 ?_
            refine lv_imul hx hb dX1_draw_51 ?_
            refine lv_iload_n hx hb dX1_draw_52 rfl (lv_at hl 1 rfl) ?_
            refine lv_bipush (v := (6 : Int32)) hx hb dX1_draw_53 (by decide) ?_
            refine lv_iushr hx hb dX1_draw_55 rfl ?_
            refine lv_iadd hx hb dX1_draw_56 ?_
            refine lv_dup2_11 hx hb dX1_draw_57 rfl (rf_cat _) ?_
            obtain ⟨a6, ea6, hka6, hJ⟩ := dr_some hJ
            rw [ea6]
            obtain ⟨hi7, hJ⟩ := ck_some hJ
            refine jr_lald C w hka6 hi7 dX1_draw_58 ?_
            refine lv_lconst (v := (1 : Int64)) hx hb dX1_draw_59 (by decide) ?_
            refine lv_iload_n hx hb dX1_draw_60 rfl (lv_at hl 1 rfl) ?_
            refine lv_bipush (v := (63 : Int32)) hx hb dX1_draw_61 (by decide) ?_
            refine lv_iand hx hb dX1_draw_63 ?_
            refine lv_lshl hx hb dX1_draw_64 rfl ?_
            refine lv_lor hx hb dX1_draw_65 ?_
            obtain ⟨hi8, hJ⟩ := ck_some hJ
            refine jr_last C w hka6 hi8 dX1_draw_66 (fun H locs w => ?_)
            exact sb_X1_draw_67 C hz2 N t0 _ hJ hk0 w (lv_sub (l' := [(0, .ref t0)]) hl [2] rfl)
def J_X1_draw (N : Nat) (t0 : Nat) (h : Hp) (x1 : Int32) (x2 : Int32) : Option (Hp × Unit) := B_X1_draw_0 N t0 h x1 x2
theorem mo_X1_draw (N : Nat) (t0 : Nat) (h : Hp) (x1 : Int32) (x2 : Int32) (hJ : J_X1_draw N t0 h x1 x2 = some (hz, ())) : Mo h hz := mb_X1_draw_0 N t0 h x1 x2 hJ
theorem cd_X1_draw : Cd yX1_draw 2 := ⟨by decide +kernel, by decide +kernel, by decide +kernel⟩
theorem cc_X1_draw (N : Nat) (t0 : Nat) (h : Hp) (x1 : Int32) (x2 : Int32) (hk0 : h.kd t0 = 4) (hJ : J_X1_draw N t0 h x1 x2 = some (hz, ())) : Cv l yX1_draw cX1_draw 5 none 0 0 D cs h hz [.ref t0, .int x1, .int x2] := by
  intro mc ms g1 g2
  refine je_any (by decide) (by simp [lg_sl, rf_cat, cat_i, cat_l, cat_r]) ?_
  intro p e s m args below meth c C hin2 w ls hl
  have hl : lv_has ls 5 [(0, .ref t0), (1, .int x1), (2, .int x2)] := hl
  exact sb_X1_draw_0 C ⟨g1, g2⟩ N t0 h x1 x2 hJ hk0 w hl
end G_X1_draw
section G_X1_drawVersions
variable {p : Program} {l : Launch} {e : Env} {s : State} {m : MethodId} {args : Array Value} {below : List Frame} {meth : Method} {c : Code} {D : va_G} {cs : C4} {A : Nat → Prop} {h0 hz : Hp} {mc ms : Nat}
def B_X1_drawVersions_61 (N : Nat) (k2 : Hp → Int32 → Option (Hp × Unit)) (k35 : Hp → Int32 → (Option Nat) → Option (Hp × Unit)) (t0 : Nat) (h : Hp) (x1 : Int32) (x3 : Option Nat) : Option (Hp × Unit) := dr h 7 x3 (fun a1 => k35 h x1 (h.fr 704 a1))
theorem mb_X1_drawVersions_61 (N : Nat) (k2 : Hp → Int32 → Option (Hp × Unit)) (k35 : Hp → Int32 → (Option Nat) → Option (Hp × Unit)) (t0 : Nat) (h : Hp) (x1 : Int32) (x3 : Option Nat) (m2 : ∀ (h : Hp) (x1 : Int32), k2 h x1 = some (hz, ()) → Mo h hz) (m35 : ∀ (h : Hp) (x1 : Int32) (x3 : Option Nat), k35 h x1 x3 = some (hz, ()) → Mo h hz) (hJ : B_X1_drawVersions_61 N k2 k35 t0 h x1 x3 = some (hz, ())) : Mo h hz := by
  unfold B_X1_drawVersions_61 at hJ
  obtain ⟨a1, ea1, -, hJ⟩ := dr_some hJ
  exact m35 _ _ _ hJ
set_option maxRecDepth 100000 in
set_option maxHeartbeats 4000000 in
theorem sb_X1_drawVersions_61 (C : Cx p s m args meth c cX1_drawVersions 4 none RX1 D cs A h0.se) (hz2 : hz.nx ≤ h0.nx + mc ∧ hz.su ≤ h0.su + ms) (N : Nat) (k2 : Hp → Int32 → Option (Hp × Unit)) (k35 : Hp → Int32 → (Option Nat) → Option (Hp × Unit)) (t0 : Nat) (m2 : ∀ (h : Hp) (x1 : Int32), k2 h x1 = some (hz, ()) → Mo h hz) (m35 : ∀ (h : Hp) (x1 : Int32) (x3 : Option Nat), k35 h x1 x3 = some (hz, ()) → Mo h hz) (i2 : ∀ (h : Hp) (x1 : Int32) (H : Heap) (locs : List Loc) (cells slots : Nat) (ls : Array Slot), k2 h x1 = some (hz, ()) → h.kd t0 = 4 → Wo D cs A s h0 h H locs cells slots → lv_has ls 4 [(0, .ref t0), (1, .int x1)] → W p l e { frames := 4, cells := mc, slots := ms, locals := 120 } s m args below meth c H locs cells slots (MQ below (Zv D cs A hz) args s mc ms A) (F0 m 2 ls [])) (i35 : ∀ (h : Hp) (x1 : Int32) (x3 : Option Nat) (H : Heap) (locs : List Loc) (cells slots : Nat) (ls : Array Slot), k35 h x1 x3 = some (hz, ()) → h.kd t0 = 4 → Wo D cs A s h0 h H locs cells slots → lv_has ls 4 [(0, .ref t0), (1, .int x1), (3, va_rf x3)] → W p l e { frames := 4, cells := mc, slots := ms, locals := 120 } s m args below meth c H locs cells slots (MQ below (Zv D cs A hz) args s mc ms A) (F0 m 35 ls [])) (h : Hp) (x1 : Int32) (x3 : Option Nat) (hJ : B_X1_drawVersions_61 N k2 k35 t0 h x1 x3 = some (hz, ())) (hk0 : h.kd t0 = 4) {H : Heap} {locs : List Loc} {cells slots : Nat} (w : Wo D cs A s h0 h H locs cells slots) {ls : Array Slot} (hl : lv_has ls 4 [(0, .ref t0), (1, .int x1), (3, va_rf x3)]) : W p l e { frames := 4, cells := mc, slots := ms, locals := 120 } s m args below meth c H locs cells slots (MQ below (Zv D cs A hz) args s mc ms A) (F0 m 61 ls []) := by
  obtain ⟨hx, hb, hml, hown, hts, -⟩ := id C
  unfold B_X1_drawVersions_61 at hJ
  refine jv_aload_n hx hb dX1_drawVersions_61 rfl (lv_at hl 2 rfl) ?_
  obtain ⟨a1, ea1, hka1, hJ⟩ := dr_some hJ
  rw [ea1] at hl
  rw [ea1]
  refine fg_704 C w hka1 tw_5_31 dX1_drawVersions_62 ?_
  refine jv_astore_n (i := 3) (lv' := [(3, va_rf (h.fr 704 a1)), (0, .ref t0), (1, .int x1)]) hx hb dX1_drawVersions_65 rfl hl (by decide) rfl (fun ls hl => ?_)
  refine lv_goto (tgt := 35) hx hb dX1_drawVersions_66 (by decide) ?_
  exact i35 _ _ _ _ _ _ _ _ hJ hk0 w (lv_sub (l' := [(0, .ref t0), (1, .int x1), (3, va_rf (h.fr 704 a1))]) hl [1, 2, 0] rfl)
def B_X1_drawVersions_69 (N : Nat) (k2 : Hp → Int32 → Option (Hp × Unit)) (t0 : Nat) (h : Hp) (x1 : Int32) : Option (Hp × Unit) := k2 h (x1 + (1 : Int32))
theorem mb_X1_drawVersions_69 (N : Nat) (k2 : Hp → Int32 → Option (Hp × Unit)) (t0 : Nat) (h : Hp) (x1 : Int32) (m2 : ∀ (h : Hp) (x1 : Int32), k2 h x1 = some (hz, ()) → Mo h hz) (hJ : B_X1_drawVersions_69 N k2 t0 h x1 = some (hz, ())) : Mo h hz := by
  unfold B_X1_drawVersions_69 at hJ
  exact m2 _ _ hJ
set_option maxRecDepth 100000 in
set_option maxHeartbeats 4000000 in
theorem sb_X1_drawVersions_69 (C : Cx p s m args meth c cX1_drawVersions 4 none RX1 D cs A h0.se) (hz2 : hz.nx ≤ h0.nx + mc ∧ hz.su ≤ h0.su + ms) (N : Nat) (k2 : Hp → Int32 → Option (Hp × Unit)) (t0 : Nat) (m2 : ∀ (h : Hp) (x1 : Int32), k2 h x1 = some (hz, ()) → Mo h hz) (i2 : ∀ (h : Hp) (x1 : Int32) (H : Heap) (locs : List Loc) (cells slots : Nat) (ls : Array Slot), k2 h x1 = some (hz, ()) → h.kd t0 = 4 → Wo D cs A s h0 h H locs cells slots → lv_has ls 4 [(0, .ref t0), (1, .int x1)] → W p l e { frames := 4, cells := mc, slots := ms, locals := 120 } s m args below meth c H locs cells slots (MQ below (Zv D cs A hz) args s mc ms A) (F0 m 2 ls [])) (h : Hp) (x1 : Int32) (hJ : B_X1_drawVersions_69 N k2 t0 h x1 = some (hz, ())) (hk0 : h.kd t0 = 4) {H : Heap} {locs : List Loc} {cells slots : Nat} (w : Wo D cs A s h0 h H locs cells slots) {ls : Array Slot} (hl : lv_has ls 4 [(0, .ref t0), (1, .int x1)]) : W p l e { frames := 4, cells := mc, slots := ms, locals := 120 } s m args below meth c H locs cells slots (MQ below (Zv D cs A hz) args s mc ms A) (F0 m 69 ls []) := by
  obtain ⟨hx, hb, hml, hown, hts, -⟩ := id C
  unfold B_X1_drawVersions_69 at hJ
  refine lv_iinc (v := x1 + (1 : Int32)) (lv' := [(1, .int (x1 + (1 : Int32))), (0, .ref t0)]) hx hb dX1_drawVersions_69 hl (k := 1) rfl rfl (by decide) rfl (fun ls hl => ?_)
  refine lv_goto (tgt := 2) hx hb dX1_drawVersions_72 (by decide) ?_
  exact i2 _ _ _ _ _ _ _ hJ hk0 w (lv_sub (l' := [(0, .ref t0), (1, .int (x1 + (1 : Int32)))]) hl [1, 0] rfl)
def B_X1_drawVersions_35 (N : Nat) (k2 : Hp → Int32 → Option (Hp × Unit)) (k35 : Hp → Int32 → (Option Nat) → Option (Hp × Unit)) (t0 : Nat) (h : Hp) (x1 : Int32) (x3 : Option Nat) : Option (Hp × Unit) := nl x3 (B_X1_drawVersions_69 N k2 t0 h x1) (fun a2 => ck (h.kd a2 = 7) (nl (h.fr 704 a2) (B_X1_drawVersions_69 N k2 t0 h x1) (fun a4 => dr h 7 (h.fr 704 a2) (fun a5 => (J_X1_draw N t0 h (h.fi 700 a5) (h.fi 700 a2)).bind (fun z => B_X1_drawVersions_61 N k2 k35 t0 z.1 x1 (some a2))))))
theorem mb_X1_drawVersions_35 (N : Nat) (k2 : Hp → Int32 → Option (Hp × Unit)) (k35 : Hp → Int32 → (Option Nat) → Option (Hp × Unit)) (t0 : Nat) (h : Hp) (x1 : Int32) (x3 : Option Nat) (m2 : ∀ (h : Hp) (x1 : Int32), k2 h x1 = some (hz, ()) → Mo h hz) (m35 : ∀ (h : Hp) (x1 : Int32) (x3 : Option Nat), k35 h x1 x3 = some (hz, ()) → Mo h hz) (hJ : B_X1_drawVersions_35 N k2 k35 t0 h x1 x3 = some (hz, ())) : Mo h hz := by
  unfold B_X1_drawVersions_35 at hJ
  cases ea2 : x3 with
  | none =>
    have hJ := nl_none ea2 hJ
    exact mb_X1_drawVersions_69 N k2 t0 _ _ m2 hJ
  | some a2 =>
    have hJ := nl_some ea2 hJ
    obtain ⟨-, hJ⟩ := ck_some hJ
    cases ea4 : (h.fr 704 a2) with
    | none =>
      have hJ := nl_none ea4 hJ
      exact mb_X1_drawVersions_69 N k2 t0 _ _ m2 hJ
    | some a4 =>
      have hJ := nl_some ea4 hJ
      obtain ⟨a5, ea5, -, hJ⟩ := dr_some hJ
      obtain ⟨⟨h6, r7⟩, e8, hJ⟩ := ob_some hJ
      exact (mo_X1_draw N t0 h (h.fi 700 a5) (h.fi 700 a2) e8).tr (mb_X1_drawVersions_61 N k2 k35 t0 _ _ _ m2 m35 hJ)
set_option maxRecDepth 100000 in
set_option maxHeartbeats 4000000 in
theorem sb_X1_drawVersions_35 (C : Cx p s m args meth c cX1_drawVersions 4 none RX1 D cs A h0.se) (hz2 : hz.nx ≤ h0.nx + mc ∧ hz.su ≤ h0.su + ms) (N : Nat) (k2 : Hp → Int32 → Option (Hp × Unit)) (k35 : Hp → Int32 → (Option Nat) → Option (Hp × Unit)) (t0 : Nat) (m2 : ∀ (h : Hp) (x1 : Int32), k2 h x1 = some (hz, ()) → Mo h hz) (m35 : ∀ (h : Hp) (x1 : Int32) (x3 : Option Nat), k35 h x1 x3 = some (hz, ()) → Mo h hz) (i2 : ∀ (h : Hp) (x1 : Int32) (H : Heap) (locs : List Loc) (cells slots : Nat) (ls : Array Slot), k2 h x1 = some (hz, ()) → h.kd t0 = 4 → Wo D cs A s h0 h H locs cells slots → lv_has ls 4 [(0, .ref t0), (1, .int x1)] → W p l e { frames := 4, cells := mc, slots := ms, locals := 120 } s m args below meth c H locs cells slots (MQ below (Zv D cs A hz) args s mc ms A) (F0 m 2 ls [])) (i35 : ∀ (h : Hp) (x1 : Int32) (x3 : Option Nat) (H : Heap) (locs : List Loc) (cells slots : Nat) (ls : Array Slot), k35 h x1 x3 = some (hz, ()) → h.kd t0 = 4 → Wo D cs A s h0 h H locs cells slots → lv_has ls 4 [(0, .ref t0), (1, .int x1), (3, va_rf x3)] → W p l e { frames := 4, cells := mc, slots := ms, locals := 120 } s m args below meth c H locs cells slots (MQ below (Zv D cs A hz) args s mc ms A) (F0 m 35 ls [])) (h : Hp) (x1 : Int32) (x3 : Option Nat) (hJ : B_X1_drawVersions_35 N k2 k35 t0 h x1 x3 = some (hz, ())) (hk0 : h.kd t0 = 4) {H : Heap} {locs : List Loc} {cells slots : Nat} (w : Wo D cs A s h0 h H locs cells slots) {ls : Array Slot} (hl : lv_has ls 4 [(0, .ref t0), (1, .int x1), (3, va_rf x3)]) : W p l e { frames := 4, cells := mc, slots := ms, locals := 120 } s m args below meth c H locs cells slots (MQ below (Zv D cs A hz) args s mc ms A) (F0 m 35 ls []) := by
  obtain ⟨hx, hb, hml, hown, hts, -⟩ := id C
  unfold B_X1_drawVersions_35 at hJ
  refine jv_aload_n hx hb dX1_drawVersions_35 rfl (lv_at hl 2 rfl) ?_
  refine jv_ifnull (tgt := 69) hx hb dX1_drawVersions_36 (by decide) (fun ea2 => ?_) (fun a2 ea2 => ?_)
  · have hJ := nl_none ea2 hJ
    exact sb_X1_drawVersions_69 C hz2 N k2 t0 m2 i2 _ _ hJ hk0 w (lv_sub (l' := [(0, .ref t0), (1, .int x1)]) hl [0, 1] rfl)
  · have hJ := nl_some ea2 hJ
    rw [ea2] at hl
    refine lv_aload_n hx hb dX1_drawVersions_39 rfl (lv_at hl 2 rfl) ?_
    obtain ⟨hk3, hJ⟩ := ck_some hJ
    refine fg_704 C w hk3 tw_5_31 dX1_drawVersions_40 ?_
    refine jv_ifnull (tgt := 69) hx hb dX1_drawVersions_43 (by decide) (fun ea4 => ?_) (fun a4 ea4 => ?_)
    · have hJ := nl_none ea4 hJ
      exact sb_X1_drawVersions_69 C hz2 N k2 t0 m2 i2 _ _ hJ hk0 w (lv_sub (l' := [(0, .ref t0), (1, .int x1)]) hl [0, 1] rfl)
    · have hJ := nl_some ea4 hJ
      refine lv_aload_n hx hb dX1_drawVersions_46 rfl (lv_at hl 0 rfl) ?_
      refine lv_aload_n hx hb dX1_drawVersions_47 rfl (lv_at hl 2 rfl) ?_
      refine fg_704 C w hk3 tw_5_31 dX1_drawVersions_48 ?_
      obtain ⟨a5, ea5, hka5, hJ⟩ := dr_some hJ
      rw [ea5]
      refine fg_700 C w hka5 tw_5_16 dX1_drawVersions_51 ?_
      refine lv_aload_n hx hb dX1_drawVersions_54 rfl (lv_at hl 2 rfl) ?_
      refine fg_700 C w hk3 tw_5_16 dX1_drawVersions_55 ?_
      obtain ⟨⟨h6, r7⟩, e8, hJ⟩ := ob_some hJ
      refine jc_Vv (As := [.int (h.fi 700 a5), .int (h.fi 700 a2)]) C w (cc_X1_draw N t0 h (h.fi 700 a5) (h.fi 700 a2) hk0 e8) (mo_X1_draw N t0 h (h.fi 700 a5) (h.fi 700 a2) e8) (mb_X1_drawVersions_61 N k2 k35 t0 _ _ _ m2 m35 hJ) hz2 hk0 (by decide) rfl (fs := fs4 h t0) rfl rfl ⟨tw_3_41, tw_3_38, tw_3_39, tw_3_40, tw_1_34⟩ cd_X1_draw ⟨by decide, by decide⟩ hl.1 (by first | exact Nat.le_of_ble_eq_true rfl | simp [rf_cat, cat_i, cat_l, cat_r]) rfl dX1_drawVersions_58 (fun H locs w1 => ?_)
      have hk9 := kd_keep w (mo_X1_draw N t0 h (h.fi 700 a5) (h.fi 700 a2) e8) hk0 (by decide)
      have w := w1
      exact sb_X1_drawVersions_61 C hz2 N k2 k35 t0 m2 m35 i2 i35 _ _ _ hJ hk9 w hl
def L_X1_drawVersions_35 (N : Nat) (k2 : Hp → Int32 → Option (Hp × Unit)) (t0 : Nat) : Nat → Hp → Int32 → (Option Nat) → Option (Hp × Unit)
  | 0 => fun _ _ _ => none
  | n + 1 => fun h x1 x3 => B_X1_drawVersions_35 N k2 (L_X1_drawVersions_35 N k2 t0 n) t0 h x1 x3
theorem ml_X1_drawVersions_35 (N : Nat) (k2 : Hp → Int32 → Option (Hp × Unit)) (t0 : Nat) (m2 : ∀ (h : Hp) (x1 : Int32), k2 h x1 = some (hz, ()) → Mo h hz) : ∀ (n : Nat) (h : Hp) (x1 : Int32) (x3 : Option Nat), L_X1_drawVersions_35 N k2 t0 n h x1 x3 = some (hz, ()) → Mo h hz := by
  intro n
  induction n with
  | zero => intro h x1 x3 hJ; cases hJ
  | succ n ih => intro h x1 x3 hJ; exact mb_X1_drawVersions_35 N k2 (L_X1_drawVersions_35 N k2 t0 n) t0 h x1 x3 m2 ih hJ
theorem sl_X1_drawVersions_35 (C : Cx p s m args meth c cX1_drawVersions 4 none RX1 D cs A h0.se) (hz2 : hz.nx ≤ h0.nx + mc ∧ hz.su ≤ h0.su + ms) (N : Nat) (k2 : Hp → Int32 → Option (Hp × Unit)) (t0 : Nat) (m2 : ∀ (h : Hp) (x1 : Int32), k2 h x1 = some (hz, ()) → Mo h hz) (i2 : ∀ (h : Hp) (x1 : Int32) (H : Heap) (locs : List Loc) (cells slots : Nat) (ls : Array Slot), k2 h x1 = some (hz, ()) → h.kd t0 = 4 → Wo D cs A s h0 h H locs cells slots → lv_has ls 4 [(0, .ref t0), (1, .int x1)] → W p l e { frames := 4, cells := mc, slots := ms, locals := 120 } s m args below meth c H locs cells slots (MQ below (Zv D cs A hz) args s mc ms A) (F0 m 2 ls [])) : ∀ n : Nat, ∀ (h : Hp) (x1 : Int32) (x3 : Option Nat) (H : Heap) (locs : List Loc) (cells slots : Nat) (ls : Array Slot), L_X1_drawVersions_35 N k2 t0 n h x1 x3 = some (hz, ()) → h.kd t0 = 4 → Wo D cs A s h0 h H locs cells slots → lv_has ls 4 [(0, .ref t0), (1, .int x1), (3, va_rf x3)] → W p l e { frames := 4, cells := mc, slots := ms, locals := 120 } s m args below meth c H locs cells slots (MQ below (Zv D cs A hz) args s mc ms A) (F0 m 35 ls []) := by
  intro n
  induction n with
  | zero => intro h x1 x3 H locs cells slots ls hJ; cases hJ
  | succ n ih =>
    intro h x1 x3 H locs cells slots ls hJ hk0 w hl
    exact sb_X1_drawVersions_35 C hz2 N k2 (L_X1_drawVersions_35 N k2 t0 n) t0 m2 (ml_X1_drawVersions_35 N k2 t0 m2 n) i2 ih h x1 x3 hJ hk0 w hl
def B_X1_drawVersions_34 (N : Nat) (k2 : Hp → Int32 → Option (Hp × Unit)) (t0 : Nat) (h : Hp) (x1 : Int32) (y0 : Option Nat) : Option (Hp × Unit) := L_X1_drawVersions_35 N k2 t0 N h x1 y0
theorem mb_X1_drawVersions_34 (N : Nat) (k2 : Hp → Int32 → Option (Hp × Unit)) (t0 : Nat) (h : Hp) (x1 : Int32) (y0 : Option Nat) (m2 : ∀ (h : Hp) (x1 : Int32), k2 h x1 = some (hz, ()) → Mo h hz) (hJ : B_X1_drawVersions_34 N k2 t0 h x1 y0 = some (hz, ())) : Mo h hz := by
  unfold B_X1_drawVersions_34 at hJ
  exact ml_X1_drawVersions_35 N k2 t0 m2 N _ _ _ hJ
set_option maxRecDepth 100000 in
set_option maxHeartbeats 4000000 in
theorem sb_X1_drawVersions_34 (C : Cx p s m args meth c cX1_drawVersions 4 none RX1 D cs A h0.se) (hz2 : hz.nx ≤ h0.nx + mc ∧ hz.su ≤ h0.su + ms) (N : Nat) (k2 : Hp → Int32 → Option (Hp × Unit)) (t0 : Nat) (m2 : ∀ (h : Hp) (x1 : Int32), k2 h x1 = some (hz, ()) → Mo h hz) (i2 : ∀ (h : Hp) (x1 : Int32) (H : Heap) (locs : List Loc) (cells slots : Nat) (ls : Array Slot), k2 h x1 = some (hz, ()) → h.kd t0 = 4 → Wo D cs A s h0 h H locs cells slots → lv_has ls 4 [(0, .ref t0), (1, .int x1)] → W p l e { frames := 4, cells := mc, slots := ms, locals := 120 } s m args below meth c H locs cells slots (MQ below (Zv D cs A hz) args s mc ms A) (F0 m 2 ls [])) (h : Hp) (x1 : Int32) (y0 : Option Nat) (hJ : B_X1_drawVersions_34 N k2 t0 h x1 y0 = some (hz, ())) (hk0 : h.kd t0 = 4) {H : Heap} {locs : List Loc} {cells slots : Nat} (w : Wo D cs A s h0 h H locs cells slots) {ls : Array Slot} (hl : lv_has ls 4 [(0, .ref t0), (1, .int x1)]) : W p l e { frames := 4, cells := mc, slots := ms, locals := 120 } s m args below meth c H locs cells slots (MQ below (Zv D cs A hz) args s mc ms A) (F0 m 34 ls [va_rf y0]) := by
  obtain ⟨hx, hb, hml, hown, hts, -⟩ := id C
  unfold B_X1_drawVersions_34 at hJ
  refine jv_astore_n (i := 3) (lv' := [(3, va_rf y0), (0, .ref t0), (1, .int x1)]) hx hb dX1_drawVersions_34 rfl hl (by decide) rfl (fun ls hl => ?_)
  exact sl_X1_drawVersions_35 C hz2 N k2 t0 m2 i2 N _ _ _ _ _ _ _ _ hJ hk0 w (lv_sub (l' := [(0, .ref t0), (1, .int x1), (3, va_rf y0)]) hl [1, 2, 0] rfl)
def B_X1_drawVersions_21 (N : Nat) (k2 : Hp → Int32 → Option (Hp × Unit)) (t0 : Nat) (h : Hp) (x1 : Int32) (y0 : Option Nat) : Option (Hp × Unit) := nl y0 (B_X1_drawVersions_34 N k2 t0 h x1 none) (fun a10 => ck (h.kd a10 = 6) (B_X1_drawVersions_34 N k2 t0 h x1 (h.fr 601 a10)))
theorem mb_X1_drawVersions_21 (N : Nat) (k2 : Hp → Int32 → Option (Hp × Unit)) (t0 : Nat) (h : Hp) (x1 : Int32) (y0 : Option Nat) (m2 : ∀ (h : Hp) (x1 : Int32), k2 h x1 = some (hz, ()) → Mo h hz) (hJ : B_X1_drawVersions_21 N k2 t0 h x1 y0 = some (hz, ())) : Mo h hz := by
  unfold B_X1_drawVersions_21 at hJ
  cases ea10 : y0 with
  | none =>
    have hJ := nl_none ea10 hJ
    exact mb_X1_drawVersions_34 N k2 t0 _ _ _ m2 hJ
  | some a10 =>
    have hJ := nl_some ea10 hJ
    obtain ⟨-, hJ⟩ := ck_some hJ
    exact mb_X1_drawVersions_34 N k2 t0 _ _ _ m2 hJ
set_option maxRecDepth 100000 in
set_option maxHeartbeats 4000000 in
theorem sb_X1_drawVersions_21 (C : Cx p s m args meth c cX1_drawVersions 4 none RX1 D cs A h0.se) (hz2 : hz.nx ≤ h0.nx + mc ∧ hz.su ≤ h0.su + ms) (N : Nat) (k2 : Hp → Int32 → Option (Hp × Unit)) (t0 : Nat) (m2 : ∀ (h : Hp) (x1 : Int32), k2 h x1 = some (hz, ()) → Mo h hz) (i2 : ∀ (h : Hp) (x1 : Int32) (H : Heap) (locs : List Loc) (cells slots : Nat) (ls : Array Slot), k2 h x1 = some (hz, ()) → h.kd t0 = 4 → Wo D cs A s h0 h H locs cells slots → lv_has ls 4 [(0, .ref t0), (1, .int x1)] → W p l e { frames := 4, cells := mc, slots := ms, locals := 120 } s m args below meth c H locs cells slots (MQ below (Zv D cs A hz) args s mc ms A) (F0 m 2 ls [])) (h : Hp) (x1 : Int32) (y0 : Option Nat) (hJ : B_X1_drawVersions_21 N k2 t0 h x1 y0 = some (hz, ())) (hk0 : h.kd t0 = 4) {H : Heap} {locs : List Loc} {cells slots : Nat} (w : Wo D cs A s h0 h H locs cells slots) {ls : Array Slot} (hl : lv_has ls 4 [(0, .ref t0), (1, .int x1)]) : W p l e { frames := 4, cells := mc, slots := ms, locals := 120 } s m args below meth c H locs cells slots (MQ below (Zv D cs A hz) args s mc ms A) (F0 m 21 ls [va_rf y0]) := by
  obtain ⟨hx, hb, hml, hown, hts, -⟩ := id C
  unfold B_X1_drawVersions_21 at hJ
  refine jv_astore_n (i := 2) (lv' := [(2, va_rf y0), (0, .ref t0), (1, .int x1)]) hx hb dX1_drawVersions_21 rfl hl (by decide) rfl (fun ls hl => ?_)
  refine jv_aload_n hx hb dX1_drawVersions_22 rfl (lv_at hl 0 rfl) ?_
  refine jv_ifnonnull (tgt := 30) hx hb dX1_drawVersions_23 (by decide) (fun a10 ea10 => ?_) (fun ea10 => ?_)
  · have hJ := nl_some ea10 hJ
    rw [ea10] at hl
    refine lv_aload_n hx hb dX1_drawVersions_30 rfl (lv_at hl 0 rfl) ?_
    obtain ⟨hk11, hJ⟩ := ck_some hJ
    refine fg_601 C w hk11 tw_3_153 dX1_drawVersions_31 ?_
    exact sb_X1_drawVersions_34 C hz2 N k2 t0 m2 i2 _ _ _ hJ hk0 w (lv_sub (l' := [(0, .ref t0), (1, .int x1)]) hl [1, 2] rfl)
  · have hJ := nl_none ea10 hJ
    refine lv_null hx hb dX1_drawVersions_26 ?_
    change W _ _ _ _ _ _ _ _ _ _ _ _ _ _ _ (F0 m 27 ls [va_rf none])
    refine lv_goto (tgt := 34) hx hb dX1_drawVersions_27 (by decide) ?_
    exact sb_X1_drawVersions_34 C hz2 N k2 t0 m2 i2 _ _ _ hJ hk0 w (lv_sub (l' := [(0, .ref t0), (1, .int x1)]) hl [1, 2] rfl)
def B_X1_drawVersions_10 (N : Nat) (k2 : Hp → Int32 → Option (Hp × Unit)) (t0 : Nat) (h : Hp) (x1 : Int32) (y0 : Int32) (y1 : Int32) : Option (Hp × Unit) := if y1 ≤ y0 then (some (h, ())) else (dr h 8 (h.fr 400 t0) (fun a13 => (J_X5_chainAt N a13 h x1).bind (fun z => B_X1_drawVersions_21 N k2 t0 z.1 x1 z.2)))
theorem mb_X1_drawVersions_10 (N : Nat) (k2 : Hp → Int32 → Option (Hp × Unit)) (t0 : Nat) (h : Hp) (x1 : Int32) (y0 : Int32) (y1 : Int32) (m2 : ∀ (h : Hp) (x1 : Int32), k2 h x1 = some (hz, ()) → Mo h hz) (hJ : B_X1_drawVersions_10 N k2 t0 h x1 y0 y1 = some (hz, ())) : Mo h hz := by
  unfold B_X1_drawVersions_10 at hJ
  by_cases c12 : y1 ≤ y0
  · have hJ := it_pos c12 hJ
    obtain ⟨rfl, -⟩ := rs2 hJ
    exact ⟨fun _ _ => rfl, Nat.le_refl _, Nat.le_refl _, rfl, fun _ _ => rfl⟩
  · have hJ := it_neg c12 hJ
    obtain ⟨a13, ea13, -, hJ⟩ := dr_some hJ
    obtain ⟨⟨h14, r15⟩, e16, hJ⟩ := ob_some hJ
    exact (mo_X5_chainAt N a13 h x1 e16).tr (mb_X1_drawVersions_21 N k2 t0 _ _ _ m2 hJ)
set_option maxRecDepth 100000 in
set_option maxHeartbeats 4000000 in
theorem sb_X1_drawVersions_10 (C : Cx p s m args meth c cX1_drawVersions 4 none RX1 D cs A h0.se) (hz2 : hz.nx ≤ h0.nx + mc ∧ hz.su ≤ h0.su + ms) (N : Nat) (k2 : Hp → Int32 → Option (Hp × Unit)) (t0 : Nat) (m2 : ∀ (h : Hp) (x1 : Int32), k2 h x1 = some (hz, ()) → Mo h hz) (i2 : ∀ (h : Hp) (x1 : Int32) (H : Heap) (locs : List Loc) (cells slots : Nat) (ls : Array Slot), k2 h x1 = some (hz, ()) → h.kd t0 = 4 → Wo D cs A s h0 h H locs cells slots → lv_has ls 4 [(0, .ref t0), (1, .int x1)] → W p l e { frames := 4, cells := mc, slots := ms, locals := 120 } s m args below meth c H locs cells slots (MQ below (Zv D cs A hz) args s mc ms A) (F0 m 2 ls [])) (h : Hp) (x1 : Int32) (y0 : Int32) (y1 : Int32) (hJ : B_X1_drawVersions_10 N k2 t0 h x1 y0 y1 = some (hz, ())) (hk0 : h.kd t0 = 4) {H : Heap} {locs : List Loc} {cells slots : Nat} (w : Wo D cs A s h0 h H locs cells slots) {ls : Array Slot} (hl : lv_has ls 4 [(0, .ref t0), (1, .int x1)]) : W p l e { frames := 4, cells := mc, slots := ms, locals := 120 } s m args below meth c H locs cells slots (MQ below (Zv D cs A hz) args s mc ms A) (F0 m 10 ls [.int y1, .int y0]) := by
  obtain ⟨hx, hb, hml, hown, hts, -⟩ := id C
  unfold B_X1_drawVersions_10 at hJ
  refine lv_icmp_ge (tgt := 75) hx hb dX1_drawVersions_10 (by decide) (fun c12 => ?_) (fun c12 => ?_)
  · have hJ := it_pos c12 hJ
    obtain ⟨rfl, -⟩ := rs2 hJ
    exact jr_vret C w hz2 dX1_drawVersions_75
  · have hJ := it_neg c12 hJ
    refine lv_aload_n hx hb dX1_drawVersions_13 rfl (lv_at hl 0 rfl) ?_
    refine fg_400 C w hk0 tw_3_13 dX1_drawVersions_14 ?_
    refine lv_iload_n hx hb dX1_drawVersions_17 rfl (lv_at hl 1 rfl) ?_
    obtain ⟨a13, ea13, hka13, hJ⟩ := dr_some hJ
    rw [ea13]
    obtain ⟨⟨h14, r15⟩, e16, hJ⟩ := ob_some hJ
    refine jc_Vq (As := [.int x1]) C w (cc_X5_chainAt N a13 h x1 hka13 e16) (mo_X5_chainAt N a13 h x1 e16) (mb_X1_drawVersions_21 N k2 t0 _ _ _ m2 hJ) hz2 hka13 (by decide) rfl (fs := fs8 h a13) rfl rfl ⟨tw_2_212, tw_3_37, tw_2_210, tw_2_211, tw_1_2⟩ cd_X5_chainAt ⟨by decide, by decide⟩ hl.1 (by first | exact Nat.le_of_ble_eq_true rfl | simp [rf_cat, cat_i, cat_l, cat_r]) rfl dX1_drawVersions_18 (fun H locs w1 => ?_)
    have hk17 := kd_keep w (mo_X5_chainAt N a13 h x1 e16) hk0 (by decide)
    have w := w1
    exact sb_X1_drawVersions_21 C hz2 N k2 t0 m2 i2 _ _ _ hJ hk17 w hl
def B_X1_drawVersions_2 (N : Nat) (k2 : Hp → Int32 → Option (Hp × Unit)) (t0 : Nat) (h : Hp) (x1 : Int32) : Option (Hp × Unit) := dr h 8 (h.fr 400 t0) (fun a18 => (J_X5_size N a18 h).bind (fun z => B_X1_drawVersions_10 N k2 t0 z.1 x1 x1 z.2))
theorem mb_X1_drawVersions_2 (N : Nat) (k2 : Hp → Int32 → Option (Hp × Unit)) (t0 : Nat) (h : Hp) (x1 : Int32) (m2 : ∀ (h : Hp) (x1 : Int32), k2 h x1 = some (hz, ()) → Mo h hz) (hJ : B_X1_drawVersions_2 N k2 t0 h x1 = some (hz, ())) : Mo h hz := by
  unfold B_X1_drawVersions_2 at hJ
  obtain ⟨a18, ea18, -, hJ⟩ := dr_some hJ
  obtain ⟨⟨h19, r20⟩, e21, hJ⟩ := ob_some hJ
  exact (mo_X5_size N a18 h e21).tr (mb_X1_drawVersions_10 N k2 t0 _ _ _ _ m2 hJ)
set_option maxRecDepth 100000 in
set_option maxHeartbeats 4000000 in
theorem sb_X1_drawVersions_2 (C : Cx p s m args meth c cX1_drawVersions 4 none RX1 D cs A h0.se) (hz2 : hz.nx ≤ h0.nx + mc ∧ hz.su ≤ h0.su + ms) (N : Nat) (k2 : Hp → Int32 → Option (Hp × Unit)) (t0 : Nat) (m2 : ∀ (h : Hp) (x1 : Int32), k2 h x1 = some (hz, ()) → Mo h hz) (i2 : ∀ (h : Hp) (x1 : Int32) (H : Heap) (locs : List Loc) (cells slots : Nat) (ls : Array Slot), k2 h x1 = some (hz, ()) → h.kd t0 = 4 → Wo D cs A s h0 h H locs cells slots → lv_has ls 4 [(0, .ref t0), (1, .int x1)] → W p l e { frames := 4, cells := mc, slots := ms, locals := 120 } s m args below meth c H locs cells slots (MQ below (Zv D cs A hz) args s mc ms A) (F0 m 2 ls [])) (h : Hp) (x1 : Int32) (hJ : B_X1_drawVersions_2 N k2 t0 h x1 = some (hz, ())) (hk0 : h.kd t0 = 4) {H : Heap} {locs : List Loc} {cells slots : Nat} (w : Wo D cs A s h0 h H locs cells slots) {ls : Array Slot} (hl : lv_has ls 4 [(0, .ref t0), (1, .int x1)]) : W p l e { frames := 4, cells := mc, slots := ms, locals := 120 } s m args below meth c H locs cells slots (MQ below (Zv D cs A hz) args s mc ms A) (F0 m 2 ls []) := by
  obtain ⟨hx, hb, hml, hown, hts, -⟩ := id C
  unfold B_X1_drawVersions_2 at hJ
  refine lv_iload_n hx hb dX1_drawVersions_2 rfl (lv_at hl 1 rfl) ?_
  refine lv_aload_n hx hb dX1_drawVersions_3 rfl (lv_at hl 0 rfl) ?_
  refine fg_400 C w hk0 tw_3_13 dX1_drawVersions_4 ?_
  obtain ⟨a18, ea18, hka18, hJ⟩ := dr_some hJ
  rw [ea18]
  obtain ⟨⟨h19, r20⟩, e21, hJ⟩ := ob_some hJ
  refine jc_Vi (As := []) C w (cc_X5_size N a18 h hka18 e21) (mo_X5_size N a18 h e21) (mb_X1_drawVersions_10 N k2 t0 _ _ _ _ m2 hJ) hz2 hka18 (by decide) rfl (fs := fs8 h a18) rfl rfl ⟨tw_2_181, tw_3_36, tw_2_179, tw_2_180, tw_1_2⟩ cd_X5_size ⟨by decide, by decide⟩ hl.1 (by first | exact Nat.le_of_ble_eq_true rfl | simp [rf_cat, cat_i, cat_l, cat_r]) rfl dX1_drawVersions_7 (fun H locs w1 => ?_)
  have hk22 := kd_keep w (mo_X5_size N a18 h e21) hk0 (by decide)
  have w := w1
  exact sb_X1_drawVersions_10 C hz2 N k2 t0 m2 i2 _ _ _ _ hJ hk22 w hl
def L_X1_drawVersions_2 (N : Nat) (t0 : Nat) : Nat → Hp → Int32 → Option (Hp × Unit)
  | 0 => fun _ _ => none
  | n + 1 => fun h x1 => B_X1_drawVersions_2 N (L_X1_drawVersions_2 N t0 n) t0 h x1
theorem ml_X1_drawVersions_2 (N : Nat) (t0 : Nat) : ∀ (n : Nat) (h : Hp) (x1 : Int32), L_X1_drawVersions_2 N t0 n h x1 = some (hz, ()) → Mo h hz := by
  intro n
  induction n with
  | zero => intro h x1 hJ; cases hJ
  | succ n ih => intro h x1 hJ; exact mb_X1_drawVersions_2 N (L_X1_drawVersions_2 N t0 n) t0 h x1 ih hJ
theorem sl_X1_drawVersions_2 (C : Cx p s m args meth c cX1_drawVersions 4 none RX1 D cs A h0.se) (hz2 : hz.nx ≤ h0.nx + mc ∧ hz.su ≤ h0.su + ms) (N : Nat) (t0 : Nat) : ∀ n : Nat, ∀ (h : Hp) (x1 : Int32) (H : Heap) (locs : List Loc) (cells slots : Nat) (ls : Array Slot), L_X1_drawVersions_2 N t0 n h x1 = some (hz, ()) → h.kd t0 = 4 → Wo D cs A s h0 h H locs cells slots → lv_has ls 4 [(0, .ref t0), (1, .int x1)] → W p l e { frames := 4, cells := mc, slots := ms, locals := 120 } s m args below meth c H locs cells slots (MQ below (Zv D cs A hz) args s mc ms A) (F0 m 2 ls []) := by
  intro n
  induction n with
  | zero => intro h x1 H locs cells slots ls hJ; cases hJ
  | succ n ih =>
    intro h x1 H locs cells slots ls hJ hk0 w hl
    exact sb_X1_drawVersions_2 C hz2 N (L_X1_drawVersions_2 N t0 n) t0 (ml_X1_drawVersions_2 N t0 n) ih h x1 hJ hk0 w hl
def B_X1_drawVersions_0 (N : Nat) (t0 : Nat) (h : Hp) : Option (Hp × Unit) := L_X1_drawVersions_2 N t0 N h (0 : Int32)
theorem mb_X1_drawVersions_0 (N : Nat) (t0 : Nat) (h : Hp) (hJ : B_X1_drawVersions_0 N t0 h = some (hz, ())) : Mo h hz := by
  unfold B_X1_drawVersions_0 at hJ
  exact ml_X1_drawVersions_2 N t0 N _ _ hJ
set_option maxRecDepth 100000 in
set_option maxHeartbeats 4000000 in
theorem sb_X1_drawVersions_0 (C : Cx p s m args meth c cX1_drawVersions 4 none RX1 D cs A h0.se) (hz2 : hz.nx ≤ h0.nx + mc ∧ hz.su ≤ h0.su + ms) (N : Nat) (t0 : Nat) (h : Hp) (hJ : B_X1_drawVersions_0 N t0 h = some (hz, ())) (hk0 : h.kd t0 = 4) {H : Heap} {locs : List Loc} {cells slots : Nat} (w : Wo D cs A s h0 h H locs cells slots) {ls : Array Slot} (hl : lv_has ls 4 [(0, .ref t0)]) : W p l e { frames := 4, cells := mc, slots := ms, locals := 120 } s m args below meth c H locs cells slots (MQ below (Zv D cs A hz) args s mc ms A) (F0 m 0 ls []) := by
  obtain ⟨hx, hb, hml, hown, hts, -⟩ := id C
  unfold B_X1_drawVersions_0 at hJ
  refine lv_iconst (v := (0 : Int32)) hx hb dX1_drawVersions_0 (by decide) ?_
  refine lv_istore_n (i := 1) (lv' := [(1, .int (0 : Int32)), (0, .ref t0)]) hx hb dX1_drawVersions_1 rfl hl (by decide) rfl (fun ls hl => ?_)
  exact sl_X1_drawVersions_2 C hz2 N t0 N _ _ _ _ _ _ _ hJ hk0 w (lv_sub (l' := [(0, .ref t0), (1, .int (0 : Int32))]) hl [1, 0] rfl)
def J_X1_drawVersions (N : Nat) (t0 : Nat) (h : Hp) : Option (Hp × Unit) := B_X1_drawVersions_0 N t0 h
theorem mo_X1_drawVersions (N : Nat) (t0 : Nat) (h : Hp) (hJ : J_X1_drawVersions N t0 h = some (hz, ())) : Mo h hz := mb_X1_drawVersions_0 N t0 h hJ
theorem cd_X1_drawVersions : Cd yX1_drawVersions 0 := ⟨by decide +kernel, by decide +kernel, by decide +kernel⟩
theorem cc_X1_drawVersions (N : Nat) (t0 : Nat) (h : Hp) (hk0 : h.kd t0 = 4) (hJ : J_X1_drawVersions N t0 h = some (hz, ())) : Cv l yX1_drawVersions cX1_drawVersions 4 none 4 120 D cs h hz [.ref t0] := by
  intro mc ms g1 g2
  refine je_any (by decide) (by simp [lg_sl, rf_cat, cat_i, cat_l, cat_r]) ?_
  intro p e s m args below meth c C hin2 w ls hl
  have hl : lv_has ls 4 [(0, .ref t0)] := hl
  exact sb_X1_drawVersions_0 C ⟨g1, g2⟩ N t0 h hJ hk0 w hl
end G_X1_drawVersions
section G_X1_drawLooking
variable {p : Program} {l : Launch} {e : Env} {s : State} {m : MethodId} {args : Array Value} {below : List Frame} {meth : Method} {c : Code} {D : va_G} {cs : C4} {A : Nat → Prop} {h0 hz : Hp} {mc ms : Nat}
def B_X1_drawLooking_115 (N : Nat) (t0 : Nat) (h : Hp) : Option (Hp × Unit) := some (h, ())
theorem mb_X1_drawLooking_115 (N : Nat) (t0 : Nat) (h : Hp) (hJ : B_X1_drawLooking_115 N t0 h = some (hz, ())) : Mo h hz := by
  unfold B_X1_drawLooking_115 at hJ
  obtain ⟨rfl, -⟩ := rs2 hJ
  exact ⟨fun _ _ => rfl, Nat.le_refl _, Nat.le_refl _, rfl, fun _ _ => rfl⟩
set_option maxRecDepth 100000 in
set_option maxHeartbeats 4000000 in
theorem sb_X1_drawLooking_115 (C : Cx p s m args meth c cX1_drawLooking 8 none RX1 D cs A h0.se) (hz2 : hz.nx ≤ h0.nx + mc ∧ hz.su ≤ h0.su + ms) (N : Nat) (t0 : Nat) (h : Hp) (hJ : B_X1_drawLooking_115 N t0 h = some (hz, ())) (hk0 : h.kd t0 = 4) {H : Heap} {locs : List Loc} {cells slots : Nat} (w : Wo D cs A s h0 h H locs cells slots) {ls : Array Slot} (hl : lv_has ls 8 [(0, .ref t0)]) : W p l e { frames := 4, cells := mc, slots := ms, locals := 120 } s m args below meth c H locs cells slots (MQ below (Zv D cs A hz) args s mc ms A) (F0 m 115 ls []) := by
  obtain ⟨hx, hb, hml, hown, hts, -⟩ := id C
  unfold B_X1_drawLooking_115 at hJ
  obtain ⟨rfl, -⟩ := rs2 hJ
  exact jr_vret C w hz2 dX1_drawLooking_115
def B_X1_drawLooking_109 (N : Nat) (k11 : Hp → (Option Nat) → Int32 → Int32 → Option (Hp × Unit)) (t0 : Nat) (h : Hp) (x1 : Option Nat) (x3 : Int32) (x4 : Int32) : Option (Hp × Unit) := k11 h x1 x3 (x4 + (1 : Int32))
theorem mb_X1_drawLooking_109 (N : Nat) (k11 : Hp → (Option Nat) → Int32 → Int32 → Option (Hp × Unit)) (t0 : Nat) (h : Hp) (x1 : Option Nat) (x3 : Int32) (x4 : Int32) (m11 : ∀ (h : Hp) (x1 : Option Nat) (x3 : Int32) (x4 : Int32), k11 h x1 x3 x4 = some (hz, ()) → Mo h hz) (hJ : B_X1_drawLooking_109 N k11 t0 h x1 x3 x4 = some (hz, ())) : Mo h hz := by
  unfold B_X1_drawLooking_109 at hJ
  exact m11 _ _ _ _ hJ
set_option maxRecDepth 100000 in
set_option maxHeartbeats 4000000 in
theorem sb_X1_drawLooking_109 (C : Cx p s m args meth c cX1_drawLooking 8 none RX1 D cs A h0.se) (hz2 : hz.nx ≤ h0.nx + mc ∧ hz.su ≤ h0.su + ms) (N : Nat) (k11 : Hp → (Option Nat) → Int32 → Int32 → Option (Hp × Unit)) (t0 : Nat) (m11 : ∀ (h : Hp) (x1 : Option Nat) (x3 : Int32) (x4 : Int32), k11 h x1 x3 x4 = some (hz, ()) → Mo h hz) (i11 : ∀ (h : Hp) (x1 : Option Nat) (x3 : Int32) (x4 : Int32) (H : Heap) (locs : List Loc) (cells slots : Nat) (ls : Array Slot), k11 h x1 x3 x4 = some (hz, ()) → h.kd t0 = 4 → Wo D cs A s h0 h H locs cells slots → lv_has ls 8 [(0, .ref t0), (1, va_rf x1), (3, .int x3), (4, .int x4)] → W p l e { frames := 4, cells := mc, slots := ms, locals := 120 } s m args below meth c H locs cells slots (MQ below (Zv D cs A hz) args s mc ms A) (F0 m 11 ls [])) (h : Hp) (x1 : Option Nat) (x3 : Int32) (x4 : Int32) (hJ : B_X1_drawLooking_109 N k11 t0 h x1 x3 x4 = some (hz, ())) (hk0 : h.kd t0 = 4) {H : Heap} {locs : List Loc} {cells slots : Nat} (w : Wo D cs A s h0 h H locs cells slots) {ls : Array Slot} (hl : lv_has ls 8 [(0, .ref t0), (1, va_rf x1), (3, .int x3), (4, .int x4)]) : W p l e { frames := 4, cells := mc, slots := ms, locals := 120 } s m args below meth c H locs cells slots (MQ below (Zv D cs A hz) args s mc ms A) (F0 m 109 ls []) := by
  obtain ⟨hx, hb, hml, hown, hts, -⟩ := id C
  unfold B_X1_drawLooking_109 at hJ
  refine lv_iinc (v := x4 + (1 : Int32)) (lv' := [(4, .int (x4 + (1 : Int32))), (0, .ref t0), (1, va_rf x1), (3, .int x3)]) hx hb dX1_drawLooking_109 hl (k := 3) rfl rfl (by decide) rfl (fun ls hl => ?_)
  refine lv_goto (tgt := 11) hx hb dX1_drawLooking_112 (by decide) ?_
  exact i11 _ _ _ _ _ _ _ _ _ hJ hk0 w (lv_sub (l' := [(0, .ref t0), (1, va_rf x1), (3, .int x3), (4, .int (x4 + (1 : Int32)))]) hl [1, 2, 3, 0] rfl)
def B_X1_drawLooking_89 (N : Nat) (k11 : Hp → (Option Nat) → Int32 → Int32 → Option (Hp × Unit)) (t0 : Nat) (h : Hp) (x1 : Option Nat) (x3 : Int32) (x4 : Int32) (y0 : Option Nat) : Option (Hp × Unit) := nl y0 (B_X1_drawLooking_109 N k11 t0 h x1 x3 x4) (fun a1 => dr h 10 x1 (fun a2 => ck (h.kd a1 = 7) ((J_X1_draw N t0 h (h.fi 1007 a2) (h.fi 700 a1)).bind (fun z => B_X1_drawLooking_109 N k11 t0 z.1 (some a2) x3 x4))))
theorem mb_X1_drawLooking_89 (N : Nat) (k11 : Hp → (Option Nat) → Int32 → Int32 → Option (Hp × Unit)) (t0 : Nat) (h : Hp) (x1 : Option Nat) (x3 : Int32) (x4 : Int32) (y0 : Option Nat) (m11 : ∀ (h : Hp) (x1 : Option Nat) (x3 : Int32) (x4 : Int32), k11 h x1 x3 x4 = some (hz, ()) → Mo h hz) (hJ : B_X1_drawLooking_89 N k11 t0 h x1 x3 x4 y0 = some (hz, ())) : Mo h hz := by
  unfold B_X1_drawLooking_89 at hJ
  cases ea1 : y0 with
  | none =>
    have hJ := nl_none ea1 hJ
    exact mb_X1_drawLooking_109 N k11 t0 _ _ _ _ m11 hJ
  | some a1 =>
    have hJ := nl_some ea1 hJ
    obtain ⟨a2, ea2, -, hJ⟩ := dr_some hJ
    obtain ⟨-, hJ⟩ := ck_some hJ
    obtain ⟨⟨h4, r5⟩, e6, hJ⟩ := ob_some hJ
    exact (mo_X1_draw N t0 h (h.fi 1007 a2) (h.fi 700 a1) e6).tr (mb_X1_drawLooking_109 N k11 t0 _ _ _ _ m11 hJ)
set_option maxRecDepth 100000 in
set_option maxHeartbeats 4000000 in
theorem sb_X1_drawLooking_89 (C : Cx p s m args meth c cX1_drawLooking 8 none RX1 D cs A h0.se) (hz2 : hz.nx ≤ h0.nx + mc ∧ hz.su ≤ h0.su + ms) (N : Nat) (k11 : Hp → (Option Nat) → Int32 → Int32 → Option (Hp × Unit)) (t0 : Nat) (m11 : ∀ (h : Hp) (x1 : Option Nat) (x3 : Int32) (x4 : Int32), k11 h x1 x3 x4 = some (hz, ()) → Mo h hz) (i11 : ∀ (h : Hp) (x1 : Option Nat) (x3 : Int32) (x4 : Int32) (H : Heap) (locs : List Loc) (cells slots : Nat) (ls : Array Slot), k11 h x1 x3 x4 = some (hz, ()) → h.kd t0 = 4 → Wo D cs A s h0 h H locs cells slots → lv_has ls 8 [(0, .ref t0), (1, va_rf x1), (3, .int x3), (4, .int x4)] → W p l e { frames := 4, cells := mc, slots := ms, locals := 120 } s m args below meth c H locs cells slots (MQ below (Zv D cs A hz) args s mc ms A) (F0 m 11 ls [])) (h : Hp) (x1 : Option Nat) (x3 : Int32) (x4 : Int32) (y0 : Option Nat) (hJ : B_X1_drawLooking_89 N k11 t0 h x1 x3 x4 y0 = some (hz, ())) (hk0 : h.kd t0 = 4) {H : Heap} {locs : List Loc} {cells slots : Nat} (w : Wo D cs A s h0 h H locs cells slots) {ls : Array Slot} (hl : lv_has ls 8 [(0, .ref t0), (1, va_rf x1), (3, .int x3), (4, .int x4)]) : W p l e { frames := 4, cells := mc, slots := ms, locals := 120 } s m args below meth c H locs cells slots (MQ below (Zv D cs A hz) args s mc ms A) (F0 m 89 ls [va_rf y0]) := by
  obtain ⟨hx, hb, hml, hown, hts, -⟩ := id C
  unfold B_X1_drawLooking_89 at hJ
  refine jv_astore (i := 7) (lv' := [(7, va_rf y0), (0, .ref t0), (1, va_rf x1), (3, .int x3), (4, .int x4)]) hx hb dX1_drawLooking_89 hl (by decide) rfl (fun ls hl => ?_)
  refine jv_aload hx hb dX1_drawLooking_91 (lv_at hl 0 rfl) ?_
  refine jv_ifnull (tgt := 109) hx hb dX1_drawLooking_93 (by decide) (fun ea1 => ?_) (fun a1 ea1 => ?_)
  · have hJ := nl_none ea1 hJ
    exact sb_X1_drawLooking_109 C hz2 N k11 t0 m11 i11 _ _ _ _ hJ hk0 w (lv_sub (l' := [(0, .ref t0), (1, va_rf x1), (3, .int x3), (4, .int x4)]) hl [1, 2, 3, 4] rfl)
  · have hJ := nl_some ea1 hJ
    rw [ea1] at hl
    refine lv_aload_n hx hb dX1_drawLooking_96 rfl (lv_at hl 1 rfl) ?_
    refine jv_aload_n hx hb dX1_drawLooking_97 rfl (lv_at hl 2 rfl) ?_
    obtain ⟨a2, ea2, hka2, hJ⟩ := dr_some hJ
    rw [ea2] at hl
    rw [ea2]
    refine fg_1007 C w hka2 tw_2_28 dX1_drawLooking_98 ?_
    refine lv_aload hx hb dX1_drawLooking_101 (lv_at hl 0 rfl) ?_
    obtain ⟨hk3, hJ⟩ := ck_some hJ
    refine fg_700 C w hk3 tw_5_16 dX1_drawLooking_103 ?_
    obtain ⟨⟨h4, r5⟩, e6, hJ⟩ := ob_some hJ
    refine jc_Vv (As := [.int (h.fi 1007 a2), .int (h.fi 700 a1)]) C w (cc_X1_draw N t0 h (h.fi 1007 a2) (h.fi 700 a1) hk0 e6) (mo_X1_draw N t0 h (h.fi 1007 a2) (h.fi 700 a1) e6) (mb_X1_drawLooking_109 N k11 t0 _ _ _ _ m11 hJ) hz2 hk0 (by decide) rfl (fs := fs4 h t0) rfl rfl ⟨tw_3_41, tw_3_38, tw_3_39, tw_3_40, tw_1_34⟩ cd_X1_draw ⟨by decide, by decide⟩ hl.1 (by first | exact Nat.le_of_ble_eq_true rfl | simp [rf_cat, cat_i, cat_l, cat_r]) rfl dX1_drawLooking_106 (fun H locs w1 => ?_)
    have hk7 := kd_keep w (mo_X1_draw N t0 h (h.fi 1007 a2) (h.fi 700 a1) e6) hk0 (by decide)
    have w := w1
    exact sb_X1_drawLooking_109 C hz2 N k11 t0 m11 i11 _ _ _ _ hJ hk7 w (lv_sub (l' := [(0, .ref t0), (1, .ref a2), (3, .int x3), (4, .int x4)]) hl [1, 2, 3, 4] rfl)
def B_X1_drawLooking_80 (N : Nat) (k11 : Hp → (Option Nat) → Int32 → Int32 → Option (Hp × Unit)) (t0 : Nat) (h : Hp) (x1 : Option Nat) (x3 : Int32) (x4 : Int32) (x5 : Option Nat) : Option (Hp × Unit) := dr h 10 x1 (fun a8 => dr h 6 x5 (fun a9 => (J_X3_firstAfter N a9 h (h.fi 1001 a8)).bind (fun z => B_X1_drawLooking_89 N k11 t0 z.1 (some a8) x3 x4 z.2)))
theorem mb_X1_drawLooking_80 (N : Nat) (k11 : Hp → (Option Nat) → Int32 → Int32 → Option (Hp × Unit)) (t0 : Nat) (h : Hp) (x1 : Option Nat) (x3 : Int32) (x4 : Int32) (x5 : Option Nat) (m11 : ∀ (h : Hp) (x1 : Option Nat) (x3 : Int32) (x4 : Int32), k11 h x1 x3 x4 = some (hz, ()) → Mo h hz) (hJ : B_X1_drawLooking_80 N k11 t0 h x1 x3 x4 x5 = some (hz, ())) : Mo h hz := by
  unfold B_X1_drawLooking_80 at hJ
  obtain ⟨a8, ea8, -, hJ⟩ := dr_some hJ
  obtain ⟨a9, ea9, -, hJ⟩ := dr_some hJ
  obtain ⟨⟨h10, r11⟩, e12, hJ⟩ := ob_some hJ
  exact (mo_X3_firstAfter N a9 h (h.fi 1001 a8) e12).tr (mb_X1_drawLooking_89 N k11 t0 _ _ _ _ _ m11 hJ)
set_option maxRecDepth 100000 in
set_option maxHeartbeats 4000000 in
theorem sb_X1_drawLooking_80 (C : Cx p s m args meth c cX1_drawLooking 8 none RX1 D cs A h0.se) (hz2 : hz.nx ≤ h0.nx + mc ∧ hz.su ≤ h0.su + ms) (N : Nat) (k11 : Hp → (Option Nat) → Int32 → Int32 → Option (Hp × Unit)) (t0 : Nat) (m11 : ∀ (h : Hp) (x1 : Option Nat) (x3 : Int32) (x4 : Int32), k11 h x1 x3 x4 = some (hz, ()) → Mo h hz) (i11 : ∀ (h : Hp) (x1 : Option Nat) (x3 : Int32) (x4 : Int32) (H : Heap) (locs : List Loc) (cells slots : Nat) (ls : Array Slot), k11 h x1 x3 x4 = some (hz, ()) → h.kd t0 = 4 → Wo D cs A s h0 h H locs cells slots → lv_has ls 8 [(0, .ref t0), (1, va_rf x1), (3, .int x3), (4, .int x4)] → W p l e { frames := 4, cells := mc, slots := ms, locals := 120 } s m args below meth c H locs cells slots (MQ below (Zv D cs A hz) args s mc ms A) (F0 m 11 ls [])) (h : Hp) (x1 : Option Nat) (x3 : Int32) (x4 : Int32) (x5 : Option Nat) (hJ : B_X1_drawLooking_80 N k11 t0 h x1 x3 x4 x5 = some (hz, ())) (hk0 : h.kd t0 = 4) {H : Heap} {locs : List Loc} {cells slots : Nat} (w : Wo D cs A s h0 h H locs cells slots) {ls : Array Slot} (hl : lv_has ls 8 [(0, .ref t0), (1, va_rf x1), (3, .int x3), (4, .int x4), (5, va_rf x5)]) : W p l e { frames := 4, cells := mc, slots := ms, locals := 120 } s m args below meth c H locs cells slots (MQ below (Zv D cs A hz) args s mc ms A) (F0 m 80 ls []) := by
  obtain ⟨hx, hb, hml, hown, hts, -⟩ := id C
  unfold B_X1_drawLooking_80 at hJ
  refine jv_aload hx hb dX1_drawLooking_80 (lv_at hl 4 rfl) ?_
  refine jv_aload_n hx hb dX1_drawLooking_82 rfl (lv_at hl 1 rfl) ?_
  obtain ⟨a8, ea8, hka8, hJ⟩ := dr_some hJ
  rw [ea8] at hl
  rw [ea8]
  refine fg_1001 C w hka8 tw_2_13 dX1_drawLooking_83 ?_
  obtain ⟨a9, ea9, hka9, hJ⟩ := dr_some hJ
  rw [ea9] at hl
  rw [ea9]
  obtain ⟨⟨h10, r11⟩, e12, hJ⟩ := ob_some hJ
  refine jc_Vq (As := [.int (h.fi 1001 a8)]) C w (cc_X3_firstAfter N a9 h (h.fi 1001 a8) hka9 e12) (mo_X3_firstAfter N a9 h (h.fi 1001 a8) e12) (mb_X1_drawLooking_89 N k11 t0 _ _ _ _ _ m11 hJ) hz2 hka9 (by decide) rfl (fs := fs6 h a9) rfl rfl ⟨tw_3_60, tw_3_57, tw_3_58, tw_3_59, tw_1_22⟩ cd_X3_firstAfter ⟨by decide, by decide⟩ hl.1 (by first | exact Nat.le_of_ble_eq_true rfl | simp [rf_cat, cat_i, cat_l, cat_r]) rfl dX1_drawLooking_86 (fun H locs w1 => ?_)
  have hk13 := kd_keep w (mo_X3_firstAfter N a9 h (h.fi 1001 a8) e12) hk0 (by decide)
  have w := w1
  exact sb_X1_drawLooking_89 C hz2 N k11 t0 m11 i11 _ _ _ _ _ hJ hk13 w (lv_sub (l' := [(0, .ref t0), (1, .ref a8), (3, .int x3), (4, .int x4)]) hl [0, 1, 2, 3] rfl)
def B_X1_drawLooking_60 (N : Nat) (k11 : Hp → (Option Nat) → Int32 → Int32 → Option (Hp × Unit)) (t0 : Nat) (h : Hp) (x1 : Option Nat) (x3 : Int32) (x4 : Int32) (x5 : Option Nat) (y0 : Option Nat) : Option (Hp × Unit) := nl y0 (B_X1_drawLooking_80 N k11 t0 h x1 x3 x4 x5) (fun a14 => ck (h.kd a14 = 7) (dr h 10 x1 (fun a16 => (J_X1_draw N t0 h (h.fi 700 a14) (h.fi 1007 a16)).bind (fun z => B_X1_drawLooking_80 N k11 t0 z.1 (some a16) x3 x4 x5))))
theorem mb_X1_drawLooking_60 (N : Nat) (k11 : Hp → (Option Nat) → Int32 → Int32 → Option (Hp × Unit)) (t0 : Nat) (h : Hp) (x1 : Option Nat) (x3 : Int32) (x4 : Int32) (x5 : Option Nat) (y0 : Option Nat) (m11 : ∀ (h : Hp) (x1 : Option Nat) (x3 : Int32) (x4 : Int32), k11 h x1 x3 x4 = some (hz, ()) → Mo h hz) (hJ : B_X1_drawLooking_60 N k11 t0 h x1 x3 x4 x5 y0 = some (hz, ())) : Mo h hz := by
  unfold B_X1_drawLooking_60 at hJ
  cases ea14 : y0 with
  | none =>
    have hJ := nl_none ea14 hJ
    exact mb_X1_drawLooking_80 N k11 t0 _ _ _ _ _ m11 hJ
  | some a14 =>
    have hJ := nl_some ea14 hJ
    obtain ⟨-, hJ⟩ := ck_some hJ
    obtain ⟨a16, ea16, -, hJ⟩ := dr_some hJ
    obtain ⟨⟨h17, r18⟩, e19, hJ⟩ := ob_some hJ
    exact (mo_X1_draw N t0 h (h.fi 700 a14) (h.fi 1007 a16) e19).tr (mb_X1_drawLooking_80 N k11 t0 _ _ _ _ _ m11 hJ)
set_option maxRecDepth 100000 in
set_option maxHeartbeats 4000000 in
theorem sb_X1_drawLooking_60 (C : Cx p s m args meth c cX1_drawLooking 8 none RX1 D cs A h0.se) (hz2 : hz.nx ≤ h0.nx + mc ∧ hz.su ≤ h0.su + ms) (N : Nat) (k11 : Hp → (Option Nat) → Int32 → Int32 → Option (Hp × Unit)) (t0 : Nat) (m11 : ∀ (h : Hp) (x1 : Option Nat) (x3 : Int32) (x4 : Int32), k11 h x1 x3 x4 = some (hz, ()) → Mo h hz) (i11 : ∀ (h : Hp) (x1 : Option Nat) (x3 : Int32) (x4 : Int32) (H : Heap) (locs : List Loc) (cells slots : Nat) (ls : Array Slot), k11 h x1 x3 x4 = some (hz, ()) → h.kd t0 = 4 → Wo D cs A s h0 h H locs cells slots → lv_has ls 8 [(0, .ref t0), (1, va_rf x1), (3, .int x3), (4, .int x4)] → W p l e { frames := 4, cells := mc, slots := ms, locals := 120 } s m args below meth c H locs cells slots (MQ below (Zv D cs A hz) args s mc ms A) (F0 m 11 ls [])) (h : Hp) (x1 : Option Nat) (x3 : Int32) (x4 : Int32) (x5 : Option Nat) (y0 : Option Nat) (hJ : B_X1_drawLooking_60 N k11 t0 h x1 x3 x4 x5 y0 = some (hz, ())) (hk0 : h.kd t0 = 4) {H : Heap} {locs : List Loc} {cells slots : Nat} (w : Wo D cs A s h0 h H locs cells slots) {ls : Array Slot} (hl : lv_has ls 8 [(0, .ref t0), (1, va_rf x1), (3, .int x3), (4, .int x4), (5, va_rf x5)]) : W p l e { frames := 4, cells := mc, slots := ms, locals := 120 } s m args below meth c H locs cells slots (MQ below (Zv D cs A hz) args s mc ms A) (F0 m 60 ls [va_rf y0]) := by
  obtain ⟨hx, hb, hml, hown, hts, -⟩ := id C
  unfold B_X1_drawLooking_60 at hJ
  refine jv_astore (i := 6) (lv' := [(6, va_rf y0), (0, .ref t0), (1, va_rf x1), (3, .int x3), (4, .int x4), (5, va_rf x5)]) hx hb dX1_drawLooking_60 hl (by decide) (by simp [List.filter, rf_cat, cat_i, cat_l, cat_r]) (fun ls hl => ?_)
  refine jv_aload hx hb dX1_drawLooking_62 (lv_at hl 0 rfl) ?_
  refine jv_ifnull (tgt := 80) hx hb dX1_drawLooking_64 (by decide) (fun ea14 => ?_) (fun a14 ea14 => ?_)
  · have hJ := nl_none ea14 hJ
    exact sb_X1_drawLooking_80 C hz2 N k11 t0 m11 i11 _ _ _ _ _ hJ hk0 w (lv_sub (l' := [(0, .ref t0), (1, va_rf x1), (3, .int x3), (4, .int x4), (5, va_rf x5)]) hl [1, 2, 3, 4, 5] rfl)
  · have hJ := nl_some ea14 hJ
    rw [ea14] at hl
    refine lv_aload_n hx hb dX1_drawLooking_67 rfl (lv_at hl 1 rfl) ?_
    refine lv_aload hx hb dX1_drawLooking_68 (lv_at hl 0 rfl) ?_
    obtain ⟨hk15, hJ⟩ := ck_some hJ
    refine fg_700 C w hk15 tw_5_16 dX1_drawLooking_70 ?_
    refine jv_aload_n hx hb dX1_drawLooking_73 rfl (lv_at hl 2 rfl) ?_
    obtain ⟨a16, ea16, hka16, hJ⟩ := dr_some hJ
    rw [ea16] at hl
    rw [ea16]
    refine fg_1007 C w hka16 tw_2_28 dX1_drawLooking_74 ?_
    obtain ⟨⟨h17, r18⟩, e19, hJ⟩ := ob_some hJ
    refine jc_Vv (As := [.int (h.fi 700 a14), .int (h.fi 1007 a16)]) C w (cc_X1_draw N t0 h (h.fi 700 a14) (h.fi 1007 a16) hk0 e19) (mo_X1_draw N t0 h (h.fi 700 a14) (h.fi 1007 a16) e19) (mb_X1_drawLooking_80 N k11 t0 _ _ _ _ _ m11 hJ) hz2 hk0 (by decide) rfl (fs := fs4 h t0) rfl rfl ⟨tw_3_41, tw_3_38, tw_3_39, tw_3_40, tw_1_34⟩ cd_X1_draw ⟨by decide, by decide⟩ hl.1 (by first | exact Nat.le_of_ble_eq_true rfl | simp [rf_cat, cat_i, cat_l, cat_r]) rfl dX1_drawLooking_77 (fun H locs w1 => ?_)
    have hk20 := kd_keep w (mo_X1_draw N t0 h (h.fi 700 a14) (h.fi 1007 a16) e19) hk0 (by decide)
    have w := w1
    exact sb_X1_drawLooking_80 C hz2 N k11 t0 m11 i11 _ _ _ _ _ hJ hk20 w (lv_sub (l' := [(0, .ref t0), (1, .ref a16), (3, .int x3), (4, .int x4), (5, va_rf x5)]) hl [1, 2, 3, 4, 5] rfl)
def B_X1_drawLooking_32 (N : Nat) (k11 : Hp → (Option Nat) → Int32 → Int32 → Option (Hp × Unit)) (t0 : Nat) (h : Hp) (x1 : Option Nat) (x3 : Int32) (x4 : Int32) (y0 : Option Nat) : Option (Hp × Unit) := nl y0 (B_X1_drawLooking_115 N t0 h) (fun a21 => ck (h.kd a21 = 6) (if (h.fi 600 a21) ≤ x3 then (dr h 10 x1 (fun a24 => (J_X3_upTo N a21 h (h.fi 1001 a24)).bind (fun z => B_X1_drawLooking_60 N k11 t0 z.1 (some a24) x3 x4 (some a21) z.2))) else (B_X1_drawLooking_115 N t0 h)))
theorem mb_X1_drawLooking_32 (N : Nat) (k11 : Hp → (Option Nat) → Int32 → Int32 → Option (Hp × Unit)) (t0 : Nat) (h : Hp) (x1 : Option Nat) (x3 : Int32) (x4 : Int32) (y0 : Option Nat) (m11 : ∀ (h : Hp) (x1 : Option Nat) (x3 : Int32) (x4 : Int32), k11 h x1 x3 x4 = some (hz, ()) → Mo h hz) (hJ : B_X1_drawLooking_32 N k11 t0 h x1 x3 x4 y0 = some (hz, ())) : Mo h hz := by
  unfold B_X1_drawLooking_32 at hJ
  cases ea21 : y0 with
  | none =>
    have hJ := nl_none ea21 hJ
    exact mb_X1_drawLooking_115 N t0 _ hJ
  | some a21 =>
    have hJ := nl_some ea21 hJ
    obtain ⟨-, hJ⟩ := ck_some hJ
    by_cases c23 : (h.fi 600 a21) ≤ x3
    · have hJ := it_pos c23 hJ
      obtain ⟨a24, ea24, -, hJ⟩ := dr_some hJ
      obtain ⟨⟨h25, r26⟩, e27, hJ⟩ := ob_some hJ
      exact (mo_X3_upTo N a21 h (h.fi 1001 a24) e27).tr (mb_X1_drawLooking_60 N k11 t0 _ _ _ _ _ _ m11 hJ)
    · have hJ := it_neg c23 hJ
      exact mb_X1_drawLooking_115 N t0 _ hJ
set_option maxRecDepth 100000 in
set_option maxHeartbeats 4000000 in
theorem sb_X1_drawLooking_32 (C : Cx p s m args meth c cX1_drawLooking 8 none RX1 D cs A h0.se) (hz2 : hz.nx ≤ h0.nx + mc ∧ hz.su ≤ h0.su + ms) (N : Nat) (k11 : Hp → (Option Nat) → Int32 → Int32 → Option (Hp × Unit)) (t0 : Nat) (m11 : ∀ (h : Hp) (x1 : Option Nat) (x3 : Int32) (x4 : Int32), k11 h x1 x3 x4 = some (hz, ()) → Mo h hz) (i11 : ∀ (h : Hp) (x1 : Option Nat) (x3 : Int32) (x4 : Int32) (H : Heap) (locs : List Loc) (cells slots : Nat) (ls : Array Slot), k11 h x1 x3 x4 = some (hz, ()) → h.kd t0 = 4 → Wo D cs A s h0 h H locs cells slots → lv_has ls 8 [(0, .ref t0), (1, va_rf x1), (3, .int x3), (4, .int x4)] → W p l e { frames := 4, cells := mc, slots := ms, locals := 120 } s m args below meth c H locs cells slots (MQ below (Zv D cs A hz) args s mc ms A) (F0 m 11 ls [])) (h : Hp) (x1 : Option Nat) (x3 : Int32) (x4 : Int32) (y0 : Option Nat) (hJ : B_X1_drawLooking_32 N k11 t0 h x1 x3 x4 y0 = some (hz, ())) (hk0 : h.kd t0 = 4) {H : Heap} {locs : List Loc} {cells slots : Nat} (w : Wo D cs A s h0 h H locs cells slots) {ls : Array Slot} (hl : lv_has ls 8 [(0, .ref t0), (1, va_rf x1), (3, .int x3), (4, .int x4)]) : W p l e { frames := 4, cells := mc, slots := ms, locals := 120 } s m args below meth c H locs cells slots (MQ below (Zv D cs A hz) args s mc ms A) (F0 m 32 ls [va_rf y0]) := by
  obtain ⟨hx, hb, hml, hown, hts, -⟩ := id C
  unfold B_X1_drawLooking_32 at hJ
  refine jv_astore (i := 5) (lv' := [(5, va_rf y0), (0, .ref t0), (1, va_rf x1), (3, .int x3), (4, .int x4)]) hx hb dX1_drawLooking_32 hl (by decide) rfl (fun ls hl => ?_)
  refine jv_aload hx hb dX1_drawLooking_34 (lv_at hl 0 rfl) ?_
  refine jv_ifnull (tgt := 115) hx hb dX1_drawLooking_36 (by decide) (fun ea21 => ?_) (fun a21 ea21 => ?_)
  · have hJ := nl_none ea21 hJ
    exact sb_X1_drawLooking_115 C hz2 N t0 _ hJ hk0 w (lv_sub (l' := [(0, .ref t0)]) hl [1] rfl)
  · have hJ := nl_some ea21 hJ
    rw [ea21] at hl
    refine lv_aload hx hb dX1_drawLooking_39 (lv_at hl 0 rfl) ?_
    obtain ⟨hk22, hJ⟩ := ck_some hJ
    refine fg_600 C w hk22 tw_3_149 dX1_drawLooking_41 ?_
    refine lv_iload_n hx hb dX1_drawLooking_44 rfl (lv_at hl 3 rfl) ?_
    refine lv_icmp_le (tgt := 51) hx hb dX1_drawLooking_45 (by decide) (fun c23 => ?_) (fun c23 => ?_)
    · have hJ := it_pos c23 hJ
      refine lv_aload hx hb dX1_drawLooking_51 (lv_at hl 0 rfl) ?_
      refine jv_aload_n hx hb dX1_drawLooking_53 rfl (lv_at hl 2 rfl) ?_
      obtain ⟨a24, ea24, hka24, hJ⟩ := dr_some hJ
      rw [ea24] at hl
      rw [ea24]
      refine fg_1001 C w hka24 tw_2_13 dX1_drawLooking_54 ?_
      obtain ⟨⟨h25, r26⟩, e27, hJ⟩ := ob_some hJ
      refine jc_Vq (As := [.int (h.fi 1001 a24)]) C w (cc_X3_upTo N a21 h (h.fi 1001 a24) hk22 e27) (mo_X3_upTo N a21 h (h.fi 1001 a24) e27) (mb_X1_drawLooking_60 N k11 t0 _ _ _ _ _ _ m11 hJ) hz2 hk22 (by decide) rfl (fs := fs6 h a21) rfl rfl ⟨tw_3_56, tw_3_53, tw_3_54, tw_3_55, tw_1_22⟩ cd_X3_upTo ⟨by decide, by decide⟩ hl.1 (by first | exact Nat.le_of_ble_eq_true rfl | simp [rf_cat, cat_i, cat_l, cat_r]) rfl dX1_drawLooking_57 (fun H locs w1 => ?_)
      have hk28 := kd_keep w (mo_X3_upTo N a21 h (h.fi 1001 a24) e27) hk0 (by decide)
      have w := w1
      exact sb_X1_drawLooking_60 C hz2 N k11 t0 m11 i11 _ _ _ _ _ _ hJ hk28 w (lv_sub (l' := [(0, .ref t0), (1, .ref a24), (3, .int x3), (4, .int x4), (5, .ref a21)]) hl [1, 2, 3, 4, 0] rfl)
    · have hJ := it_neg c23 hJ
      refine lv_goto (tgt := 115) hx hb dX1_drawLooking_48 (by decide) ?_
      exact sb_X1_drawLooking_115 C hz2 N t0 _ hJ hk0 w (lv_sub (l' := [(0, .ref t0)]) hl [1] rfl)
def B_X1_drawLooking_20 (N : Nat) (k11 : Hp → (Option Nat) → Int32 → Int32 → Option (Hp × Unit)) (t0 : Nat) (h : Hp) (x1 : Option Nat) (x3 : Int32) (x4 : Int32) (y0 : Int32) (y1 : Int32) : Option (Hp × Unit) := if y1 ≤ y0 then (B_X1_drawLooking_115 N t0 h) else (dr h 8 (h.fr 400 t0) (fun a30 => (J_X5_chainAt N a30 h x4).bind (fun z => B_X1_drawLooking_32 N k11 t0 z.1 x1 x3 x4 z.2)))
theorem mb_X1_drawLooking_20 (N : Nat) (k11 : Hp → (Option Nat) → Int32 → Int32 → Option (Hp × Unit)) (t0 : Nat) (h : Hp) (x1 : Option Nat) (x3 : Int32) (x4 : Int32) (y0 : Int32) (y1 : Int32) (m11 : ∀ (h : Hp) (x1 : Option Nat) (x3 : Int32) (x4 : Int32), k11 h x1 x3 x4 = some (hz, ()) → Mo h hz) (hJ : B_X1_drawLooking_20 N k11 t0 h x1 x3 x4 y0 y1 = some (hz, ())) : Mo h hz := by
  unfold B_X1_drawLooking_20 at hJ
  by_cases c29 : y1 ≤ y0
  · have hJ := it_pos c29 hJ
    exact mb_X1_drawLooking_115 N t0 _ hJ
  · have hJ := it_neg c29 hJ
    obtain ⟨a30, ea30, -, hJ⟩ := dr_some hJ
    obtain ⟨⟨h31, r32⟩, e33, hJ⟩ := ob_some hJ
    exact (mo_X5_chainAt N a30 h x4 e33).tr (mb_X1_drawLooking_32 N k11 t0 _ _ _ _ _ m11 hJ)
set_option maxRecDepth 100000 in
set_option maxHeartbeats 4000000 in
theorem sb_X1_drawLooking_20 (C : Cx p s m args meth c cX1_drawLooking 8 none RX1 D cs A h0.se) (hz2 : hz.nx ≤ h0.nx + mc ∧ hz.su ≤ h0.su + ms) (N : Nat) (k11 : Hp → (Option Nat) → Int32 → Int32 → Option (Hp × Unit)) (t0 : Nat) (m11 : ∀ (h : Hp) (x1 : Option Nat) (x3 : Int32) (x4 : Int32), k11 h x1 x3 x4 = some (hz, ()) → Mo h hz) (i11 : ∀ (h : Hp) (x1 : Option Nat) (x3 : Int32) (x4 : Int32) (H : Heap) (locs : List Loc) (cells slots : Nat) (ls : Array Slot), k11 h x1 x3 x4 = some (hz, ()) → h.kd t0 = 4 → Wo D cs A s h0 h H locs cells slots → lv_has ls 8 [(0, .ref t0), (1, va_rf x1), (3, .int x3), (4, .int x4)] → W p l e { frames := 4, cells := mc, slots := ms, locals := 120 } s m args below meth c H locs cells slots (MQ below (Zv D cs A hz) args s mc ms A) (F0 m 11 ls [])) (h : Hp) (x1 : Option Nat) (x3 : Int32) (x4 : Int32) (y0 : Int32) (y1 : Int32) (hJ : B_X1_drawLooking_20 N k11 t0 h x1 x3 x4 y0 y1 = some (hz, ())) (hk0 : h.kd t0 = 4) {H : Heap} {locs : List Loc} {cells slots : Nat} (w : Wo D cs A s h0 h H locs cells slots) {ls : Array Slot} (hl : lv_has ls 8 [(0, .ref t0), (1, va_rf x1), (3, .int x3), (4, .int x4)]) : W p l e { frames := 4, cells := mc, slots := ms, locals := 120 } s m args below meth c H locs cells slots (MQ below (Zv D cs A hz) args s mc ms A) (F0 m 20 ls [.int y1, .int y0]) := by
  obtain ⟨hx, hb, hml, hown, hts, -⟩ := id C
  unfold B_X1_drawLooking_20 at hJ
  refine lv_icmp_ge (tgt := 115) hx hb dX1_drawLooking_20 (by decide) (fun c29 => ?_) (fun c29 => ?_)
  · have hJ := it_pos c29 hJ
    exact sb_X1_drawLooking_115 C hz2 N t0 _ hJ hk0 w (lv_sub (l' := [(0, .ref t0)]) hl [0] rfl)
  · have hJ := it_neg c29 hJ
    refine lv_aload_n hx hb dX1_drawLooking_23 rfl (lv_at hl 0 rfl) ?_
    refine fg_400 C w hk0 tw_3_13 dX1_drawLooking_24 ?_
    refine lv_iload hx hb dX1_drawLooking_27 (lv_at hl 3 rfl) ?_
    obtain ⟨a30, ea30, hka30, hJ⟩ := dr_some hJ
    rw [ea30]
    obtain ⟨⟨h31, r32⟩, e33, hJ⟩ := ob_some hJ
    refine jc_Vq (As := [.int x4]) C w (cc_X5_chainAt N a30 h x4 hka30 e33) (mo_X5_chainAt N a30 h x4 e33) (mb_X1_drawLooking_32 N k11 t0 _ _ _ _ _ m11 hJ) hz2 hka30 (by decide) rfl (fs := fs8 h a30) rfl rfl ⟨tw_2_212, tw_3_37, tw_2_210, tw_2_211, tw_1_2⟩ cd_X5_chainAt ⟨by decide, by decide⟩ hl.1 (by first | exact Nat.le_of_ble_eq_true rfl | simp [rf_cat, cat_i, cat_l, cat_r]) rfl dX1_drawLooking_29 (fun H locs w1 => ?_)
    have hk34 := kd_keep w (mo_X5_chainAt N a30 h x4 e33) hk0 (by decide)
    have w := w1
    exact sb_X1_drawLooking_32 C hz2 N k11 t0 m11 i11 _ _ _ _ _ hJ hk34 w hl
def B_X1_drawLooking_11 (N : Nat) (k11 : Hp → (Option Nat) → Int32 → Int32 → Option (Hp × Unit)) (t0 : Nat) (h : Hp) (x1 : Option Nat) (x3 : Int32) (x4 : Int32) : Option (Hp × Unit) := dr h 8 (h.fr 400 t0) (fun a35 => (J_X5_size N a35 h).bind (fun z => B_X1_drawLooking_20 N k11 t0 z.1 x1 x3 x4 x4 z.2))
theorem mb_X1_drawLooking_11 (N : Nat) (k11 : Hp → (Option Nat) → Int32 → Int32 → Option (Hp × Unit)) (t0 : Nat) (h : Hp) (x1 : Option Nat) (x3 : Int32) (x4 : Int32) (m11 : ∀ (h : Hp) (x1 : Option Nat) (x3 : Int32) (x4 : Int32), k11 h x1 x3 x4 = some (hz, ()) → Mo h hz) (hJ : B_X1_drawLooking_11 N k11 t0 h x1 x3 x4 = some (hz, ())) : Mo h hz := by
  unfold B_X1_drawLooking_11 at hJ
  obtain ⟨a35, ea35, -, hJ⟩ := dr_some hJ
  obtain ⟨⟨h36, r37⟩, e38, hJ⟩ := ob_some hJ
  exact (mo_X5_size N a35 h e38).tr (mb_X1_drawLooking_20 N k11 t0 _ _ _ _ _ _ m11 hJ)
set_option maxRecDepth 100000 in
set_option maxHeartbeats 4000000 in
theorem sb_X1_drawLooking_11 (C : Cx p s m args meth c cX1_drawLooking 8 none RX1 D cs A h0.se) (hz2 : hz.nx ≤ h0.nx + mc ∧ hz.su ≤ h0.su + ms) (N : Nat) (k11 : Hp → (Option Nat) → Int32 → Int32 → Option (Hp × Unit)) (t0 : Nat) (m11 : ∀ (h : Hp) (x1 : Option Nat) (x3 : Int32) (x4 : Int32), k11 h x1 x3 x4 = some (hz, ()) → Mo h hz) (i11 : ∀ (h : Hp) (x1 : Option Nat) (x3 : Int32) (x4 : Int32) (H : Heap) (locs : List Loc) (cells slots : Nat) (ls : Array Slot), k11 h x1 x3 x4 = some (hz, ()) → h.kd t0 = 4 → Wo D cs A s h0 h H locs cells slots → lv_has ls 8 [(0, .ref t0), (1, va_rf x1), (3, .int x3), (4, .int x4)] → W p l e { frames := 4, cells := mc, slots := ms, locals := 120 } s m args below meth c H locs cells slots (MQ below (Zv D cs A hz) args s mc ms A) (F0 m 11 ls [])) (h : Hp) (x1 : Option Nat) (x3 : Int32) (x4 : Int32) (hJ : B_X1_drawLooking_11 N k11 t0 h x1 x3 x4 = some (hz, ())) (hk0 : h.kd t0 = 4) {H : Heap} {locs : List Loc} {cells slots : Nat} (w : Wo D cs A s h0 h H locs cells slots) {ls : Array Slot} (hl : lv_has ls 8 [(0, .ref t0), (1, va_rf x1), (3, .int x3), (4, .int x4)]) : W p l e { frames := 4, cells := mc, slots := ms, locals := 120 } s m args below meth c H locs cells slots (MQ below (Zv D cs A hz) args s mc ms A) (F0 m 11 ls []) := by
  obtain ⟨hx, hb, hml, hown, hts, -⟩ := id C
  unfold B_X1_drawLooking_11 at hJ
  refine lv_iload hx hb dX1_drawLooking_11 (lv_at hl 3 rfl) ?_
  refine lv_aload_n hx hb dX1_drawLooking_13 rfl (lv_at hl 0 rfl) ?_
  refine fg_400 C w hk0 tw_3_13 dX1_drawLooking_14 ?_
  obtain ⟨a35, ea35, hka35, hJ⟩ := dr_some hJ
  rw [ea35]
  obtain ⟨⟨h36, r37⟩, e38, hJ⟩ := ob_some hJ
  refine jc_Vi (As := []) C w (cc_X5_size N a35 h hka35 e38) (mo_X5_size N a35 h e38) (mb_X1_drawLooking_20 N k11 t0 _ _ _ _ _ _ m11 hJ) hz2 hka35 (by decide) rfl (fs := fs8 h a35) rfl rfl ⟨tw_2_181, tw_3_36, tw_2_179, tw_2_180, tw_1_2⟩ cd_X5_size ⟨by decide, by decide⟩ hl.1 (by first | exact Nat.le_of_ble_eq_true rfl | simp [rf_cat, cat_i, cat_l, cat_r]) rfl dX1_drawLooking_17 (fun H locs w1 => ?_)
  have hk39 := kd_keep w (mo_X5_size N a35 h e38) hk0 (by decide)
  have w := w1
  exact sb_X1_drawLooking_20 C hz2 N k11 t0 m11 i11 _ _ _ _ _ _ hJ hk39 w hl
def L_X1_drawLooking_11 (N : Nat) (t0 : Nat) : Nat → Hp → (Option Nat) → Int32 → Int32 → Option (Hp × Unit)
  | 0 => fun _ _ _ _ => none
  | n + 1 => fun h x1 x3 x4 => B_X1_drawLooking_11 N (L_X1_drawLooking_11 N t0 n) t0 h x1 x3 x4
theorem ml_X1_drawLooking_11 (N : Nat) (t0 : Nat) : ∀ (n : Nat) (h : Hp) (x1 : Option Nat) (x3 : Int32) (x4 : Int32), L_X1_drawLooking_11 N t0 n h x1 x3 x4 = some (hz, ()) → Mo h hz := by
  intro n
  induction n with
  | zero => intro h x1 x3 x4 hJ; cases hJ
  | succ n ih => intro h x1 x3 x4 hJ; exact mb_X1_drawLooking_11 N (L_X1_drawLooking_11 N t0 n) t0 h x1 x3 x4 ih hJ
theorem sl_X1_drawLooking_11 (C : Cx p s m args meth c cX1_drawLooking 8 none RX1 D cs A h0.se) (hz2 : hz.nx ≤ h0.nx + mc ∧ hz.su ≤ h0.su + ms) (N : Nat) (t0 : Nat) : ∀ n : Nat, ∀ (h : Hp) (x1 : Option Nat) (x3 : Int32) (x4 : Int32) (H : Heap) (locs : List Loc) (cells slots : Nat) (ls : Array Slot), L_X1_drawLooking_11 N t0 n h x1 x3 x4 = some (hz, ()) → h.kd t0 = 4 → Wo D cs A s h0 h H locs cells slots → lv_has ls 8 [(0, .ref t0), (1, va_rf x1), (3, .int x3), (4, .int x4)] → W p l e { frames := 4, cells := mc, slots := ms, locals := 120 } s m args below meth c H locs cells slots (MQ below (Zv D cs A hz) args s mc ms A) (F0 m 11 ls []) := by
  intro n
  induction n with
  | zero => intro h x1 x3 x4 H locs cells slots ls hJ; cases hJ
  | succ n ih =>
    intro h x1 x3 x4 H locs cells slots ls hJ hk0 w hl
    exact sb_X1_drawLooking_11 C hz2 N (L_X1_drawLooking_11 N t0 n) t0 (ml_X1_drawLooking_11 N t0 n) ih h x1 x3 x4 hJ hk0 w hl
def B_X1_drawLooking_9 (N : Nat) (t0 : Nat) (h : Hp) (x1 : Option Nat) (x3 : Int32) (y0 : Int32) : Option (Hp × Unit) := L_X1_drawLooking_11 N t0 N h x1 x3 y0
theorem mb_X1_drawLooking_9 (N : Nat) (t0 : Nat) (h : Hp) (x1 : Option Nat) (x3 : Int32) (y0 : Int32) (hJ : B_X1_drawLooking_9 N t0 h x1 x3 y0 = some (hz, ())) : Mo h hz := by
  unfold B_X1_drawLooking_9 at hJ
  exact ml_X1_drawLooking_11 N t0 N _ _ _ _ hJ
set_option maxRecDepth 100000 in
set_option maxHeartbeats 4000000 in
theorem sb_X1_drawLooking_9 (C : Cx p s m args meth c cX1_drawLooking 8 none RX1 D cs A h0.se) (hz2 : hz.nx ≤ h0.nx + mc ∧ hz.su ≤ h0.su + ms) (N : Nat) (t0 : Nat) (h : Hp) (x1 : Option Nat) (x3 : Int32) (y0 : Int32) (hJ : B_X1_drawLooking_9 N t0 h x1 x3 y0 = some (hz, ())) (hk0 : h.kd t0 = 4) {H : Heap} {locs : List Loc} {cells slots : Nat} (w : Wo D cs A s h0 h H locs cells slots) {ls : Array Slot} (hl : lv_has ls 8 [(0, .ref t0), (1, va_rf x1), (3, .int x3)]) : W p l e { frames := 4, cells := mc, slots := ms, locals := 120 } s m args below meth c H locs cells slots (MQ below (Zv D cs A hz) args s mc ms A) (F0 m 9 ls [.int y0]) := by
  obtain ⟨hx, hb, hml, hown, hts, -⟩ := id C
  unfold B_X1_drawLooking_9 at hJ
  refine lv_istore (i := 4) (lv' := [(4, .int y0), (0, .ref t0), (1, va_rf x1), (3, .int x3)]) hx hb dX1_drawLooking_9 hl (by decide) rfl (fun ls hl => ?_)
  exact sl_X1_drawLooking_11 C hz2 N t0 N _ _ _ _ _ _ _ _ _ hJ hk0 w (lv_sub (l' := [(0, .ref t0), (1, va_rf x1), (3, .int x3), (4, .int y0)]) hl [1, 2, 3, 0] rfl)
def B_X1_drawLooking_0 (N : Nat) (t0 : Nat) (h : Hp) (x1 : Option Nat) (x2 : Int32) (x3 : Int32) : Option (Hp × Unit) := dr h 8 (h.fr 400 t0) (fun a40 => (J_X5_indexFrom N a40 h x2.toInt64).bind (fun z => B_X1_drawLooking_9 N t0 z.1 x1 x3 z.2))
theorem mb_X1_drawLooking_0 (N : Nat) (t0 : Nat) (h : Hp) (x1 : Option Nat) (x2 : Int32) (x3 : Int32) (hJ : B_X1_drawLooking_0 N t0 h x1 x2 x3 = some (hz, ())) : Mo h hz := by
  unfold B_X1_drawLooking_0 at hJ
  obtain ⟨a40, ea40, -, hJ⟩ := dr_some hJ
  obtain ⟨⟨h41, r42⟩, e43, hJ⟩ := ob_some hJ
  exact (mo_X5_indexFrom N a40 h x2.toInt64 e43).tr (mb_X1_drawLooking_9 N t0 _ _ _ _ hJ)
set_option maxRecDepth 100000 in
set_option maxHeartbeats 4000000 in
theorem sb_X1_drawLooking_0 (C : Cx p s m args meth c cX1_drawLooking 8 none RX1 D cs A h0.se) (hz2 : hz.nx ≤ h0.nx + mc ∧ hz.su ≤ h0.su + ms) (N : Nat) (t0 : Nat) (h : Hp) (x1 : Option Nat) (x2 : Int32) (x3 : Int32) (hJ : B_X1_drawLooking_0 N t0 h x1 x2 x3 = some (hz, ())) (hk0 : h.kd t0 = 4) {H : Heap} {locs : List Loc} {cells slots : Nat} (w : Wo D cs A s h0 h H locs cells slots) {ls : Array Slot} (hl : lv_has ls 8 [(0, .ref t0), (1, va_rf x1), (2, .int x2), (3, .int x3)]) : W p l e { frames := 4, cells := mc, slots := ms, locals := 120 } s m args below meth c H locs cells slots (MQ below (Zv D cs A hz) args s mc ms A) (F0 m 0 ls []) := by
  obtain ⟨hx, hb, hml, hown, hts, -⟩ := id C
  unfold B_X1_drawLooking_0 at hJ
  refine lv_aload_n hx hb dX1_drawLooking_0 rfl (lv_at hl 0 rfl) ?_
  refine fg_400 C w hk0 tw_3_13 dX1_drawLooking_1 ?_
  refine lv_iload_n hx hb dX1_drawLooking_4 rfl (lv_at hl 2 rfl) ?_
  refine lv_i2l hx hb dX1_drawLooking_5 rfl ?_
  obtain ⟨a40, ea40, hka40, hJ⟩ := dr_some hJ
  rw [ea40]
  obtain ⟨⟨h41, r42⟩, e43, hJ⟩ := ob_some hJ
  refine jc_Vi (As := [.long x2.toInt64]) C w (cc_X5_indexFrom N a40 h x2.toInt64 hka40 e43) (mo_X5_indexFrom N a40 h x2.toInt64 e43) (mb_X1_drawLooking_9 N t0 _ _ _ _ hJ) hz2 hka40 (by decide) rfl (fs := fs8 h a40) rfl rfl ⟨tw_2_206, tw_3_52, tw_2_204, tw_2_205, tw_1_2⟩ cd_X5_indexFrom ⟨by decide, by decide⟩ hl.1 (by first | exact Nat.le_of_ble_eq_true rfl | simp [rf_cat, cat_i, cat_l, cat_r]) rfl dX1_drawLooking_6 (fun H locs w1 => ?_)
  have hk44 := kd_keep w (mo_X5_indexFrom N a40 h x2.toInt64 e43) hk0 (by decide)
  have w := w1
  exact sb_X1_drawLooking_9 C hz2 N t0 _ _ _ _ hJ hk44 w (lv_sub (l' := [(0, .ref t0), (1, va_rf x1), (3, .int x3)]) hl [0, 1, 3] rfl)
def J_X1_drawLooking (N : Nat) (t0 : Nat) (h : Hp) (x1 : Option Nat) (x2 : Int32) (x3 : Int32) : Option (Hp × Unit) := B_X1_drawLooking_0 N t0 h x1 x2 x3
theorem mo_X1_drawLooking (N : Nat) (t0 : Nat) (h : Hp) (x1 : Option Nat) (x2 : Int32) (x3 : Int32) (hJ : J_X1_drawLooking N t0 h x1 x2 x3 = some (hz, ())) : Mo h hz := mb_X1_drawLooking_0 N t0 h x1 x2 x3 hJ
theorem cd_X1_drawLooking : Cd yX1_drawLooking 3 := ⟨by decide +kernel, by decide +kernel, by decide +kernel⟩
theorem cc_X1_drawLooking (N : Nat) (t0 : Nat) (h : Hp) (x1 : Option Nat) (x2 : Int32) (x3 : Int32) (hk0 : h.kd t0 = 4) (hJ : J_X1_drawLooking N t0 h x1 x2 x3 = some (hz, ())) : Cv l yX1_drawLooking cX1_drawLooking 8 none 4 120 D cs h hz [.ref t0, va_rf x1, .int x2, .int x3] := by
  intro mc ms g1 g2
  refine je_any (by decide) (by simp [lg_sl, rf_cat, cat_i, cat_l, cat_r]) ?_
  intro p e s m args below meth c C hin2 w ls hl
  have hl : lv_has ls 8 [(0, .ref t0), (1, va_rf x1), (2, .int x2), (3, .int x3)] := by simpa [lv_args, rf_cat, cat_i, cat_l, cat_r] using hl
  exact sb_X1_drawLooking_0 C ⟨g1, g2⟩ N t0 h x1 x2 x3 hJ hk0 w hl
end G_X1_drawLooking
section G_X1_drawLookings
variable {p : Program} {l : Launch} {e : Env} {s : State} {m : MethodId} {args : Array Value} {below : List Frame} {meth : Method} {c : Code} {D : va_G} {cs : C4} {A : Nat → Prop} {h0 hz : Hp} {mc ms : Nat}
def B_X1_drawLookings_58 (N : Nat) (k2 : Hp → Int32 → Option (Hp × Unit)) (k24 : Hp → Int32 → (Option Nat) → Int32 → Option (Hp × Unit)) (t0 : Nat) (h : Hp) (x1 : Int32) (x2 : Option Nat) (x3 : Int32) : Option (Hp × Unit) := k24 h x1 x2 (x3 + (1 : Int32))
theorem mb_X1_drawLookings_58 (N : Nat) (k2 : Hp → Int32 → Option (Hp × Unit)) (k24 : Hp → Int32 → (Option Nat) → Int32 → Option (Hp × Unit)) (t0 : Nat) (h : Hp) (x1 : Int32) (x2 : Option Nat) (x3 : Int32) (m2 : ∀ (h : Hp) (x1 : Int32), k2 h x1 = some (hz, ()) → Mo h hz) (m24 : ∀ (h : Hp) (x1 : Int32) (x2 : Option Nat) (x3 : Int32), k24 h x1 x2 x3 = some (hz, ()) → Mo h hz) (hJ : B_X1_drawLookings_58 N k2 k24 t0 h x1 x2 x3 = some (hz, ())) : Mo h hz := by
  unfold B_X1_drawLookings_58 at hJ
  exact m24 _ _ _ _ hJ
set_option maxRecDepth 100000 in
set_option maxHeartbeats 4000000 in
theorem sb_X1_drawLookings_58 (C : Cx p s m args meth c cX1_drawLookings 4 none RX1 D cs A h0.se) (hz2 : hz.nx ≤ h0.nx + mc ∧ hz.su ≤ h0.su + ms) (N : Nat) (k2 : Hp → Int32 → Option (Hp × Unit)) (k24 : Hp → Int32 → (Option Nat) → Int32 → Option (Hp × Unit)) (t0 : Nat) (m2 : ∀ (h : Hp) (x1 : Int32), k2 h x1 = some (hz, ()) → Mo h hz) (m24 : ∀ (h : Hp) (x1 : Int32) (x2 : Option Nat) (x3 : Int32), k24 h x1 x2 x3 = some (hz, ()) → Mo h hz) (i2 : ∀ (h : Hp) (x1 : Int32) (H : Heap) (locs : List Loc) (cells slots : Nat) (ls : Array Slot), k2 h x1 = some (hz, ()) → h.kd t0 = 4 → Wo D cs A s h0 h H locs cells slots → lv_has ls 4 [(0, .ref t0), (1, .int x1)] → W p l e { frames := 5, cells := mc, slots := ms, locals := 150 } s m args below meth c H locs cells slots (MQ below (Zv D cs A hz) args s mc ms A) (F0 m 2 ls [])) (i24 : ∀ (h : Hp) (x1 : Int32) (x2 : Option Nat) (x3 : Int32) (H : Heap) (locs : List Loc) (cells slots : Nat) (ls : Array Slot), k24 h x1 x2 x3 = some (hz, ()) → h.kd t0 = 4 → Wo D cs A s h0 h H locs cells slots → lv_has ls 4 [(0, .ref t0), (1, .int x1), (2, va_rf x2), (3, .int x3)] → W p l e { frames := 5, cells := mc, slots := ms, locals := 150 } s m args below meth c H locs cells slots (MQ below (Zv D cs A hz) args s mc ms A) (F0 m 24 ls [])) (h : Hp) (x1 : Int32) (x2 : Option Nat) (x3 : Int32) (hJ : B_X1_drawLookings_58 N k2 k24 t0 h x1 x2 x3 = some (hz, ())) (hk0 : h.kd t0 = 4) {H : Heap} {locs : List Loc} {cells slots : Nat} (w : Wo D cs A s h0 h H locs cells slots) {ls : Array Slot} (hl : lv_has ls 4 [(0, .ref t0), (1, .int x1), (2, va_rf x2), (3, .int x3)]) : W p l e { frames := 5, cells := mc, slots := ms, locals := 150 } s m args below meth c H locs cells slots (MQ below (Zv D cs A hz) args s mc ms A) (F0 m 58 ls []) := by
  obtain ⟨hx, hb, hml, hown, hts, -⟩ := id C
  unfold B_X1_drawLookings_58 at hJ
  refine lv_iinc (v := x3 + (1 : Int32)) (lv' := [(3, .int (x3 + (1 : Int32))), (0, .ref t0), (1, .int x1), (2, va_rf x2)]) hx hb dX1_drawLookings_58 hl (k := 3) rfl rfl (by decide) (by simp [List.filter, rf_cat, cat_i, cat_l, cat_r]) (fun ls hl => ?_)
  refine lv_goto (tgt := 24) hx hb dX1_drawLookings_61 (by decide) ?_
  exact i24 _ _ _ _ _ _ _ _ _ hJ hk0 w (lv_sub (l' := [(0, .ref t0), (1, .int x1), (2, va_rf x2), (3, .int (x3 + (1 : Int32)))]) hl [1, 2, 3, 0] rfl)
def B_X1_drawLookings_24 (N : Nat) (k2 : Hp → Int32 → Option (Hp × Unit)) (k24 : Hp → Int32 → (Option Nat) → Int32 → Option (Hp × Unit)) (t0 : Nat) (h : Hp) (x1 : Int32) (x2 : Option Nat) (x3 : Int32) : Option (Hp × Unit) := dr h 10 x2 (fun a1 => dr h 9 (h.fr 1003 a1) (fun a2 => if (h.fi 902 a2) ≤ x3 then (k2 h (x1 + (1 : Int32))) else (dr h 9 (h.fr 1003 a1) (fun a4 => dr h 20 (h.fr 900 a4) (fun a5 => ck (¬ (x3 < 0 ∨ h.al a5 ≤ x3.toNatClampNeg)) (dr h 9 (h.fr 1003 a1) (fun a7 => dr h 20 (h.fr 901 a7) (fun a8 => ck (¬ (x3 < 0 ∨ h.al a8 ≤ x3.toNatClampNeg)) ((J_X1_drawLooking N t0 h (some a1) (h.ai a5 x3.toNatClampNeg) (h.ai a8 x3.toNatClampNeg)).bind (fun z => B_X1_drawLookings_58 N k2 k24 t0 z.1 x1 (some a1) x3))))))))))
theorem mb_X1_drawLookings_24 (N : Nat) (k2 : Hp → Int32 → Option (Hp × Unit)) (k24 : Hp → Int32 → (Option Nat) → Int32 → Option (Hp × Unit)) (t0 : Nat) (h : Hp) (x1 : Int32) (x2 : Option Nat) (x3 : Int32) (m2 : ∀ (h : Hp) (x1 : Int32), k2 h x1 = some (hz, ()) → Mo h hz) (m24 : ∀ (h : Hp) (x1 : Int32) (x2 : Option Nat) (x3 : Int32), k24 h x1 x2 x3 = some (hz, ()) → Mo h hz) (hJ : B_X1_drawLookings_24 N k2 k24 t0 h x1 x2 x3 = some (hz, ())) : Mo h hz := by
  unfold B_X1_drawLookings_24 at hJ
  obtain ⟨a1, ea1, -, hJ⟩ := dr_some hJ
  obtain ⟨a2, ea2, -, hJ⟩ := dr_some hJ
  by_cases c3 : (h.fi 902 a2) ≤ x3
  · have hJ := it_pos c3 hJ
    exact m2 _ _ hJ
  · have hJ := it_neg c3 hJ
    obtain ⟨a4, ea4, -, hJ⟩ := dr_some hJ
    obtain ⟨a5, ea5, -, hJ⟩ := dr_some hJ
    obtain ⟨-, hJ⟩ := ck_some hJ
    obtain ⟨a7, ea7, -, hJ⟩ := dr_some hJ
    obtain ⟨a8, ea8, -, hJ⟩ := dr_some hJ
    obtain ⟨-, hJ⟩ := ck_some hJ
    obtain ⟨⟨h10, r11⟩, e12, hJ⟩ := ob_some hJ
    exact (mo_X1_drawLooking N t0 h (some a1) (h.ai a5 x3.toNatClampNeg) (h.ai a8 x3.toNatClampNeg) e12).tr (mb_X1_drawLookings_58 N k2 k24 t0 _ _ _ _ m2 m24 hJ)
set_option maxRecDepth 100000 in
set_option maxHeartbeats 4000000 in
theorem sb_X1_drawLookings_24 (C : Cx p s m args meth c cX1_drawLookings 4 none RX1 D cs A h0.se) (hz2 : hz.nx ≤ h0.nx + mc ∧ hz.su ≤ h0.su + ms) (N : Nat) (k2 : Hp → Int32 → Option (Hp × Unit)) (k24 : Hp → Int32 → (Option Nat) → Int32 → Option (Hp × Unit)) (t0 : Nat) (m2 : ∀ (h : Hp) (x1 : Int32), k2 h x1 = some (hz, ()) → Mo h hz) (m24 : ∀ (h : Hp) (x1 : Int32) (x2 : Option Nat) (x3 : Int32), k24 h x1 x2 x3 = some (hz, ()) → Mo h hz) (i2 : ∀ (h : Hp) (x1 : Int32) (H : Heap) (locs : List Loc) (cells slots : Nat) (ls : Array Slot), k2 h x1 = some (hz, ()) → h.kd t0 = 4 → Wo D cs A s h0 h H locs cells slots → lv_has ls 4 [(0, .ref t0), (1, .int x1)] → W p l e { frames := 5, cells := mc, slots := ms, locals := 150 } s m args below meth c H locs cells slots (MQ below (Zv D cs A hz) args s mc ms A) (F0 m 2 ls [])) (i24 : ∀ (h : Hp) (x1 : Int32) (x2 : Option Nat) (x3 : Int32) (H : Heap) (locs : List Loc) (cells slots : Nat) (ls : Array Slot), k24 h x1 x2 x3 = some (hz, ()) → h.kd t0 = 4 → Wo D cs A s h0 h H locs cells slots → lv_has ls 4 [(0, .ref t0), (1, .int x1), (2, va_rf x2), (3, .int x3)] → W p l e { frames := 5, cells := mc, slots := ms, locals := 150 } s m args below meth c H locs cells slots (MQ below (Zv D cs A hz) args s mc ms A) (F0 m 24 ls [])) (h : Hp) (x1 : Int32) (x2 : Option Nat) (x3 : Int32) (hJ : B_X1_drawLookings_24 N k2 k24 t0 h x1 x2 x3 = some (hz, ())) (hk0 : h.kd t0 = 4) {H : Heap} {locs : List Loc} {cells slots : Nat} (w : Wo D cs A s h0 h H locs cells slots) {ls : Array Slot} (hl : lv_has ls 4 [(0, .ref t0), (1, .int x1), (2, va_rf x2), (3, .int x3)]) : W p l e { frames := 5, cells := mc, slots := ms, locals := 150 } s m args below meth c H locs cells slots (MQ below (Zv D cs A hz) args s mc ms A) (F0 m 24 ls []) := by
  obtain ⟨hx, hb, hml, hown, hts, -⟩ := id C
  unfold B_X1_drawLookings_24 at hJ
  refine lv_iload_n hx hb dX1_drawLookings_24 rfl (lv_at hl 3 rfl) ?_
  refine jv_aload_n hx hb dX1_drawLookings_25 rfl (lv_at hl 2 rfl) ?_
  obtain ⟨a1, ea1, hka1, hJ⟩ := dr_some hJ
  rw [ea1] at hl
  rw [ea1]
  refine fg_1003 C w hka1 tw_2_18 dX1_drawLookings_26 ?_
  obtain ⟨a2, ea2, hka2, hJ⟩ := dr_some hJ
  rw [ea2]
  refine fg_902 C w hka2 tw_1_238 dX1_drawLookings_29 ?_
  refine lv_icmp_ge (tgt := 64) hx hb dX1_drawLookings_32 (by decide) (fun c3 => ?_) (fun c3 => ?_)
  · have hJ := it_pos c3 hJ
    refine lv_iinc (v := x1 + (1 : Int32)) (lv' := [(1, .int (x1 + (1 : Int32))), (0, .ref t0), (2, .ref a1), (3, .int x3)]) hx hb dX1_drawLookings_64 hl (k := 1) rfl rfl (by decide) rfl (fun ls hl => ?_)
    refine lv_goto (tgt := 2) hx hb dX1_drawLookings_67 (by decide) ?_
    exact i2 _ _ _ _ _ _ _ hJ hk0 w (lv_sub (l' := [(0, .ref t0), (1, .int (x1 + (1 : Int32)))]) hl [1, 0] rfl)
  · have hJ := it_neg c3 hJ
    refine lv_aload_n hx hb dX1_drawLookings_35 rfl (lv_at hl 0 rfl) ?_
    refine lv_aload_n hx hb dX1_drawLookings_36 rfl (lv_at hl 2 rfl) ?_
    refine lv_aload_n hx hb dX1_drawLookings_37 rfl (lv_at hl 2 rfl) ?_
    refine fg_1003 C w hka1 tw_2_18 dX1_drawLookings_38 ?_
    obtain ⟨a4, ea4, hka4, hJ⟩ := dr_some hJ
    rw [ea4]
    refine fg_900 C w hka4 tw_1_234 dX1_drawLookings_41 ?_
    refine lv_iload_n hx hb dX1_drawLookings_44 rfl (lv_at hl 3 rfl) ?_
    obtain ⟨a5, ea5, hka5, hJ⟩ := dr_some hJ
    rw [ea5]
    obtain ⟨hi6, hJ⟩ := ck_some hJ
    refine jr_iald C w hka5 hi6 dX1_drawLookings_45 ?_
    refine lv_aload_n hx hb dX1_drawLookings_46 rfl (lv_at hl 2 rfl) ?_
    refine fg_1003 C w hka1 tw_2_18 dX1_drawLookings_47 ?_
    obtain ⟨a7, ea7, hka7, hJ⟩ := dr_some hJ
    rw [ea7]
    refine fg_901 C w hka7 tw_1_236 dX1_drawLookings_50 ?_
    refine lv_iload_n hx hb dX1_drawLookings_53 rfl (lv_at hl 3 rfl) ?_
    obtain ⟨a8, ea8, hka8, hJ⟩ := dr_some hJ
    rw [ea8]
    obtain ⟨hi9, hJ⟩ := ck_some hJ
    refine jr_iald C w hka8 hi9 dX1_drawLookings_54 ?_
    obtain ⟨⟨h10, r11⟩, e12, hJ⟩ := ob_some hJ
    refine jc_Vv (As := [.ref a1, .int (h.ai a5 x3.toNatClampNeg), .int (h.ai a8 x3.toNatClampNeg)]) C w (cc_X1_drawLooking N t0 h (some a1) (h.ai a5 x3.toNatClampNeg) (h.ai a8 x3.toNatClampNeg) hk0 e12) (mo_X1_drawLooking N t0 h (some a1) (h.ai a5 x3.toNatClampNeg) (h.ai a8 x3.toNatClampNeg) e12) (mb_X1_drawLookings_58 N k2 k24 t0 _ _ _ _ m2 m24 hJ) hz2 hk0 (by decide) rfl (fs := fs4 h t0) rfl rfl ⟨tw_3_51, tw_3_48, tw_3_49, tw_3_50, tw_1_34⟩ cd_X1_drawLooking ⟨by decide, by decide⟩ hl.1 (by first | exact Nat.le_of_ble_eq_true rfl | simp [rf_cat, cat_i, cat_l, cat_r]) rfl dX1_drawLookings_55 (fun H locs w1 => ?_)
    have hk13 := kd_keep w (mo_X1_drawLooking N t0 h (some a1) (h.ai a5 x3.toNatClampNeg) (h.ai a8 x3.toNatClampNeg) e12) hk0 (by decide)
    have w := w1
    exact sb_X1_drawLookings_58 C hz2 N k2 k24 t0 m2 m24 i2 i24 _ _ _ _ hJ hk13 w hl
def L_X1_drawLookings_24 (N : Nat) (k2 : Hp → Int32 → Option (Hp × Unit)) (t0 : Nat) : Nat → Hp → Int32 → (Option Nat) → Int32 → Option (Hp × Unit)
  | 0 => fun _ _ _ _ => none
  | n + 1 => fun h x1 x2 x3 => B_X1_drawLookings_24 N k2 (L_X1_drawLookings_24 N k2 t0 n) t0 h x1 x2 x3
theorem ml_X1_drawLookings_24 (N : Nat) (k2 : Hp → Int32 → Option (Hp × Unit)) (t0 : Nat) (m2 : ∀ (h : Hp) (x1 : Int32), k2 h x1 = some (hz, ()) → Mo h hz) : ∀ (n : Nat) (h : Hp) (x1 : Int32) (x2 : Option Nat) (x3 : Int32), L_X1_drawLookings_24 N k2 t0 n h x1 x2 x3 = some (hz, ()) → Mo h hz := by
  intro n
  induction n with
  | zero => intro h x1 x2 x3 hJ; cases hJ
  | succ n ih => intro h x1 x2 x3 hJ; exact mb_X1_drawLookings_24 N k2 (L_X1_drawLookings_24 N k2 t0 n) t0 h x1 x2 x3 m2 ih hJ
theorem sl_X1_drawLookings_24 (C : Cx p s m args meth c cX1_drawLookings 4 none RX1 D cs A h0.se) (hz2 : hz.nx ≤ h0.nx + mc ∧ hz.su ≤ h0.su + ms) (N : Nat) (k2 : Hp → Int32 → Option (Hp × Unit)) (t0 : Nat) (m2 : ∀ (h : Hp) (x1 : Int32), k2 h x1 = some (hz, ()) → Mo h hz) (i2 : ∀ (h : Hp) (x1 : Int32) (H : Heap) (locs : List Loc) (cells slots : Nat) (ls : Array Slot), k2 h x1 = some (hz, ()) → h.kd t0 = 4 → Wo D cs A s h0 h H locs cells slots → lv_has ls 4 [(0, .ref t0), (1, .int x1)] → W p l e { frames := 5, cells := mc, slots := ms, locals := 150 } s m args below meth c H locs cells slots (MQ below (Zv D cs A hz) args s mc ms A) (F0 m 2 ls [])) : ∀ n : Nat, ∀ (h : Hp) (x1 : Int32) (x2 : Option Nat) (x3 : Int32) (H : Heap) (locs : List Loc) (cells slots : Nat) (ls : Array Slot), L_X1_drawLookings_24 N k2 t0 n h x1 x2 x3 = some (hz, ()) → h.kd t0 = 4 → Wo D cs A s h0 h H locs cells slots → lv_has ls 4 [(0, .ref t0), (1, .int x1), (2, va_rf x2), (3, .int x3)] → W p l e { frames := 5, cells := mc, slots := ms, locals := 150 } s m args below meth c H locs cells slots (MQ below (Zv D cs A hz) args s mc ms A) (F0 m 24 ls []) := by
  intro n
  induction n with
  | zero => intro h x1 x2 x3 H locs cells slots ls hJ; cases hJ
  | succ n ih =>
    intro h x1 x2 x3 H locs cells slots ls hJ hk0 w hl
    exact sb_X1_drawLookings_24 C hz2 N k2 (L_X1_drawLookings_24 N k2 t0 n) t0 m2 (ml_X1_drawLookings_24 N k2 t0 m2 n) i2 ih h x1 x2 x3 hJ hk0 w hl
def B_X1_drawLookings_18 (N : Nat) (k2 : Hp → Int32 → Option (Hp × Unit)) (t0 : Nat) (h : Hp) (x1 : Int32) (y0 : Option Nat) : Option (Hp × Unit) := dr h 10 y0 (fun a14 => L_X1_drawLookings_24 N k2 t0 N h x1 (some a14) (0 : Int32))
theorem mb_X1_drawLookings_18 (N : Nat) (k2 : Hp → Int32 → Option (Hp × Unit)) (t0 : Nat) (h : Hp) (x1 : Int32) (y0 : Option Nat) (m2 : ∀ (h : Hp) (x1 : Int32), k2 h x1 = some (hz, ()) → Mo h hz) (hJ : B_X1_drawLookings_18 N k2 t0 h x1 y0 = some (hz, ())) : Mo h hz := by
  unfold B_X1_drawLookings_18 at hJ
  obtain ⟨a14, ea14, -, hJ⟩ := dr_some hJ
  exact ml_X1_drawLookings_24 N k2 t0 m2 N _ _ _ _ hJ
set_option maxRecDepth 100000 in
set_option maxHeartbeats 4000000 in
theorem sb_X1_drawLookings_18 (C : Cx p s m args meth c cX1_drawLookings 4 none RX1 D cs A h0.se) (hz2 : hz.nx ≤ h0.nx + mc ∧ hz.su ≤ h0.su + ms) (N : Nat) (k2 : Hp → Int32 → Option (Hp × Unit)) (t0 : Nat) (m2 : ∀ (h : Hp) (x1 : Int32), k2 h x1 = some (hz, ()) → Mo h hz) (i2 : ∀ (h : Hp) (x1 : Int32) (H : Heap) (locs : List Loc) (cells slots : Nat) (ls : Array Slot), k2 h x1 = some (hz, ()) → h.kd t0 = 4 → Wo D cs A s h0 h H locs cells slots → lv_has ls 4 [(0, .ref t0), (1, .int x1)] → W p l e { frames := 5, cells := mc, slots := ms, locals := 150 } s m args below meth c H locs cells slots (MQ below (Zv D cs A hz) args s mc ms A) (F0 m 2 ls [])) (h : Hp) (x1 : Int32) (y0 : Option Nat) (hJ : B_X1_drawLookings_18 N k2 t0 h x1 y0 = some (hz, ())) (hk0 : h.kd t0 = 4) {H : Heap} {locs : List Loc} {cells slots : Nat} (w : Wo D cs A s h0 h H locs cells slots) {ls : Array Slot} (hl : lv_has ls 4 [(0, .ref t0), (1, .int x1)]) : W p l e { frames := 5, cells := mc, slots := ms, locals := 150 } s m args below meth c H locs cells slots (MQ below (Zv D cs A hz) args s mc ms A) (F0 m 18 ls [va_rf y0]) := by
  obtain ⟨hx, hb, hml, hown, hts, -⟩ := id C
  unfold B_X1_drawLookings_18 at hJ
  obtain ⟨a14, ea14, hka14, hJ⟩ := dr_some hJ
  rw [ea14]
  refine va_castS hx hb hown (hts _ tw_3_47) (C.2.2.2.2.2.1.1 10 _ rfl).2 (recv_at C w hka14 (by decide) rfl (fs := fs10 h a14) rfl) dX1_drawLookings_18 ?_
  refine lv_astore_n (i := 2) (lv' := [(2, .ref a14), (0, .ref t0), (1, .int x1)]) hx hb dX1_drawLookings_21 rfl hl (by decide) rfl (fun ls hl => ?_)
  refine lv_iconst (v := (0 : Int32)) hx hb dX1_drawLookings_22 (by decide) ?_
  refine lv_istore_n (i := 3) (lv' := [(3, .int (0 : Int32)), (2, .ref a14), (0, .ref t0), (1, .int x1)]) hx hb dX1_drawLookings_23 rfl hl (by decide) rfl (fun ls hl => ?_)
  exact sl_X1_drawLookings_24 C hz2 N k2 t0 m2 i2 N _ _ _ _ _ _ _ _ _ hJ hk0 w (lv_sub (l' := [(0, .ref t0), (1, .int x1), (2, .ref a14), (3, .int (0 : Int32))]) hl [2, 3, 1, 0] rfl)
def B_X1_drawLookings_2 (N : Nat) (k2 : Hp → Int32 → Option (Hp × Unit)) (t0 : Nat) (h : Hp) (x1 : Int32) : Option (Hp × Unit) := if (h.fi 402 t0) ≤ x1 then (some (h, ())) else (dr h 2 (h.fr 401 t0) (fun a16 => (J_Jx4a65c_get_915e3 N a16 h x1).bind (fun z => B_X1_drawLookings_18 N k2 t0 z.1 x1 z.2)))
theorem mb_X1_drawLookings_2 (N : Nat) (k2 : Hp → Int32 → Option (Hp × Unit)) (t0 : Nat) (h : Hp) (x1 : Int32) (m2 : ∀ (h : Hp) (x1 : Int32), k2 h x1 = some (hz, ()) → Mo h hz) (hJ : B_X1_drawLookings_2 N k2 t0 h x1 = some (hz, ())) : Mo h hz := by
  unfold B_X1_drawLookings_2 at hJ
  by_cases c15 : (h.fi 402 t0) ≤ x1
  · have hJ := it_pos c15 hJ
    obtain ⟨rfl, -⟩ := rs2 hJ
    exact ⟨fun _ _ => rfl, Nat.le_refl _, Nat.le_refl _, rfl, fun _ _ => rfl⟩
  · have hJ := it_neg c15 hJ
    obtain ⟨a16, ea16, -, hJ⟩ := dr_some hJ
    obtain ⟨⟨h17, r18⟩, e19, hJ⟩ := ob_some hJ
    exact (mo_Jx4a65c_get_915e3 N a16 h x1 e19).tr (mb_X1_drawLookings_18 N k2 t0 _ _ _ m2 hJ)
set_option maxRecDepth 100000 in
set_option maxHeartbeats 4000000 in
theorem sb_X1_drawLookings_2 (C : Cx p s m args meth c cX1_drawLookings 4 none RX1 D cs A h0.se) (hz2 : hz.nx ≤ h0.nx + mc ∧ hz.su ≤ h0.su + ms) (N : Nat) (k2 : Hp → Int32 → Option (Hp × Unit)) (t0 : Nat) (m2 : ∀ (h : Hp) (x1 : Int32), k2 h x1 = some (hz, ()) → Mo h hz) (i2 : ∀ (h : Hp) (x1 : Int32) (H : Heap) (locs : List Loc) (cells slots : Nat) (ls : Array Slot), k2 h x1 = some (hz, ()) → h.kd t0 = 4 → Wo D cs A s h0 h H locs cells slots → lv_has ls 4 [(0, .ref t0), (1, .int x1)] → W p l e { frames := 5, cells := mc, slots := ms, locals := 150 } s m args below meth c H locs cells slots (MQ below (Zv D cs A hz) args s mc ms A) (F0 m 2 ls [])) (h : Hp) (x1 : Int32) (hJ : B_X1_drawLookings_2 N k2 t0 h x1 = some (hz, ())) (hk0 : h.kd t0 = 4) {H : Heap} {locs : List Loc} {cells slots : Nat} (w : Wo D cs A s h0 h H locs cells slots) {ls : Array Slot} (hl : lv_has ls 4 [(0, .ref t0), (1, .int x1)]) : W p l e { frames := 5, cells := mc, slots := ms, locals := 150 } s m args below meth c H locs cells slots (MQ below (Zv D cs A hz) args s mc ms A) (F0 m 2 ls []) := by
  obtain ⟨hx, hb, hml, hown, hts, -⟩ := id C
  unfold B_X1_drawLookings_2 at hJ
  refine lv_iload_n hx hb dX1_drawLookings_2 rfl (lv_at hl 1 rfl) ?_
  refine lv_aload_n hx hb dX1_drawLookings_3 rfl (lv_at hl 0 rfl) ?_
  refine fg_402 C w hk0 tw_3_15 dX1_drawLookings_4 ?_
  refine lv_icmp_ge (tgt := 70) hx hb dX1_drawLookings_7 (by decide) (fun c15 => ?_) (fun c15 => ?_)
  · have hJ := it_pos c15 hJ
    obtain ⟨rfl, -⟩ := rs2 hJ
    exact jr_vret C w hz2 dX1_drawLookings_70
  · have hJ := it_neg c15 hJ
    refine lv_aload_n hx hb dX1_drawLookings_10 rfl (lv_at hl 0 rfl) ?_
    refine fg_401 C w hk0 tw_3_14 dX1_drawLookings_11 ?_
    refine lv_iload_n hx hb dX1_drawLookings_14 rfl (lv_at hl 1 rfl) ?_
    obtain ⟨a16, ea16, hka16, hJ⟩ := dr_some hJ
    rw [ea16]
    obtain ⟨⟨h17, r18⟩, e19, hJ⟩ := ob_some hJ
    refine jc_Vq (As := [.int x1]) C w (cc_Jx4a65c_get_915e3 N a16 h x1 hka16 e19) (mo_Jx4a65c_get_915e3 N a16 h x1 e19) (mb_X1_drawLookings_18 N k2 t0 _ _ _ m2 hJ) hz2 hka16 (by decide) rfl (fs := fs2 h a16) rfl rfl ⟨tw_2_65, tw_3_46, tw_2_63, tw_2_64, tw_1_5⟩ cd_Jx4a65c_get_915e3 ⟨by decide, by decide⟩ hl.1 (by first | exact Nat.le_of_ble_eq_true rfl | simp [rf_cat, cat_i, cat_l, cat_r]) rfl dX1_drawLookings_15 (fun H locs w1 => ?_)
    have hk20 := kd_keep w (mo_Jx4a65c_get_915e3 N a16 h x1 e19) hk0 (by decide)
    have w := w1
    exact sb_X1_drawLookings_18 C hz2 N k2 t0 m2 i2 _ _ _ hJ hk20 w hl
def L_X1_drawLookings_2 (N : Nat) (t0 : Nat) : Nat → Hp → Int32 → Option (Hp × Unit)
  | 0 => fun _ _ => none
  | n + 1 => fun h x1 => B_X1_drawLookings_2 N (L_X1_drawLookings_2 N t0 n) t0 h x1
theorem ml_X1_drawLookings_2 (N : Nat) (t0 : Nat) : ∀ (n : Nat) (h : Hp) (x1 : Int32), L_X1_drawLookings_2 N t0 n h x1 = some (hz, ()) → Mo h hz := by
  intro n
  induction n with
  | zero => intro h x1 hJ; cases hJ
  | succ n ih => intro h x1 hJ; exact mb_X1_drawLookings_2 N (L_X1_drawLookings_2 N t0 n) t0 h x1 ih hJ
theorem sl_X1_drawLookings_2 (C : Cx p s m args meth c cX1_drawLookings 4 none RX1 D cs A h0.se) (hz2 : hz.nx ≤ h0.nx + mc ∧ hz.su ≤ h0.su + ms) (N : Nat) (t0 : Nat) : ∀ n : Nat, ∀ (h : Hp) (x1 : Int32) (H : Heap) (locs : List Loc) (cells slots : Nat) (ls : Array Slot), L_X1_drawLookings_2 N t0 n h x1 = some (hz, ()) → h.kd t0 = 4 → Wo D cs A s h0 h H locs cells slots → lv_has ls 4 [(0, .ref t0), (1, .int x1)] → W p l e { frames := 5, cells := mc, slots := ms, locals := 150 } s m args below meth c H locs cells slots (MQ below (Zv D cs A hz) args s mc ms A) (F0 m 2 ls []) := by
  intro n
  induction n with
  | zero => intro h x1 H locs cells slots ls hJ; cases hJ
  | succ n ih =>
    intro h x1 H locs cells slots ls hJ hk0 w hl
    exact sb_X1_drawLookings_2 C hz2 N (L_X1_drawLookings_2 N t0 n) t0 (ml_X1_drawLookings_2 N t0 n) ih h x1 hJ hk0 w hl
def B_X1_drawLookings_0 (N : Nat) (t0 : Nat) (h : Hp) : Option (Hp × Unit) := L_X1_drawLookings_2 N t0 N h (0 : Int32)
theorem mb_X1_drawLookings_0 (N : Nat) (t0 : Nat) (h : Hp) (hJ : B_X1_drawLookings_0 N t0 h = some (hz, ())) : Mo h hz := by
  unfold B_X1_drawLookings_0 at hJ
  exact ml_X1_drawLookings_2 N t0 N _ _ hJ
set_option maxRecDepth 100000 in
set_option maxHeartbeats 4000000 in
theorem sb_X1_drawLookings_0 (C : Cx p s m args meth c cX1_drawLookings 4 none RX1 D cs A h0.se) (hz2 : hz.nx ≤ h0.nx + mc ∧ hz.su ≤ h0.su + ms) (N : Nat) (t0 : Nat) (h : Hp) (hJ : B_X1_drawLookings_0 N t0 h = some (hz, ())) (hk0 : h.kd t0 = 4) {H : Heap} {locs : List Loc} {cells slots : Nat} (w : Wo D cs A s h0 h H locs cells slots) {ls : Array Slot} (hl : lv_has ls 4 [(0, .ref t0)]) : W p l e { frames := 5, cells := mc, slots := ms, locals := 150 } s m args below meth c H locs cells slots (MQ below (Zv D cs A hz) args s mc ms A) (F0 m 0 ls []) := by
  obtain ⟨hx, hb, hml, hown, hts, -⟩ := id C
  unfold B_X1_drawLookings_0 at hJ
  refine lv_iconst (v := (0 : Int32)) hx hb dX1_drawLookings_0 (by decide) ?_
  refine lv_istore_n (i := 1) (lv' := [(1, .int (0 : Int32)), (0, .ref t0)]) hx hb dX1_drawLookings_1 rfl hl (by decide) rfl (fun ls hl => ?_)
  exact sl_X1_drawLookings_2 C hz2 N t0 N _ _ _ _ _ _ _ hJ hk0 w (lv_sub (l' := [(0, .ref t0), (1, .int (0 : Int32))]) hl [1, 0] rfl)
def J_X1_drawLookings (N : Nat) (t0 : Nat) (h : Hp) : Option (Hp × Unit) := B_X1_drawLookings_0 N t0 h
theorem mo_X1_drawLookings (N : Nat) (t0 : Nat) (h : Hp) (hJ : J_X1_drawLookings N t0 h = some (hz, ())) : Mo h hz := mb_X1_drawLookings_0 N t0 h hJ
theorem cd_X1_drawLookings : Cd yX1_drawLookings 0 := ⟨by decide +kernel, by decide +kernel, by decide +kernel⟩
theorem cc_X1_drawLookings (N : Nat) (t0 : Nat) (h : Hp) (hk0 : h.kd t0 = 4) (hJ : J_X1_drawLookings N t0 h = some (hz, ())) : Cv l yX1_drawLookings cX1_drawLookings 4 none 5 150 D cs h hz [.ref t0] := by
  intro mc ms g1 g2
  refine je_any (by decide) (by simp [lg_sl, rf_cat, cat_i, cat_l, cat_r]) ?_
  intro p e s m args below meth c C hin2 w ls hl
  have hl : lv_has ls 4 [(0, .ref t0)] := hl
  exact sb_X1_drawLookings_0 C ⟨g1, g2⟩ N t0 h hJ hk0 w hl
end G_X1_drawLookings
section G_X1_isDone
variable {p : Program} {l : Launch} {e : Env} {s : State} {m : MethodId} {args : Array Value} {below : List Frame} {meth : Method} {c : Code} {D : va_G} {cs : C4} {A : Nat → Prop} {h0 hz : Hp} {mc ms : Nat} {rz : Int32}
def B_X1_isDone_23 (N : Nat) (t0 : Nat) (h : Hp) (y0 : Int32) : Option (Hp × Int32) := ck (y0 = 0 ∨ y0 = 1) (some (h, y0))
theorem mb_X1_isDone_23 (N : Nat) (t0 : Nat) (h : Hp) (y0 : Int32) (hJ : B_X1_isDone_23 N t0 h y0 = some (hz, rz)) : Mo h hz := by
  unfold B_X1_isDone_23 at hJ
  obtain ⟨-, hJ⟩ := ck_some hJ
  obtain ⟨rfl, -⟩ := rs2 hJ
  exact ⟨fun _ _ => rfl, Nat.le_refl _, Nat.le_refl _, rfl, fun _ _ => rfl⟩
set_option maxRecDepth 100000 in
set_option maxHeartbeats 4000000 in
theorem sb_X1_isDone_23 (C : Cx p s m args meth c cX1_isDone 3 (some .boolean) RX1 D cs A h0.se) (hz2 : hz.nx ≤ h0.nx + mc ∧ hz.su ≤ h0.su + ms) (N : Nat) (t0 : Nat) (h : Hp) (y0 : Int32) (hJ : B_X1_isDone_23 N t0 h y0 = some (hz, rz)) (hk0 : h.kd t0 = 4) {H : Heap} {locs : List Loc} {cells slots : Nat} (w : Wo D cs A s h0 h H locs cells slots) {ls : Array Slot} (hl : lv_has ls 3 [(0, .ref t0)]) : W p l e { frames := 0, cells := mc, slots := ms, locals := 0 } s m args below meth c H locs cells slots (MQ below (Zi D cs A hz rz) args s mc ms A) (F0 m 23 ls [.int y0]) := by
  obtain ⟨hx, hb, hml, hown, hts, -⟩ := id C
  unfold B_X1_isDone_23 at hJ
  obtain ⟨hzo1, hJ⟩ := ck_some hJ
  obtain ⟨rfl, rfl⟩ := rs2 hJ
  exact jr_zret C w hzo1 hz2 dX1_isDone_23
def B_X1_isDone_0 (N : Nat) (t0 : Nat) (h : Hp) (x1 : Int32) (x2 : Option Nat) : Option (Hp × Int32) := dr h 21 x2 (fun a2 => ck (¬ ((x1.toUInt32 >>> ((6 : Int32).toUInt32 &&& Int32.toUInt32 31)).toInt32 < 0 ∨ h.al a2 ≤ ((x1.toUInt32 >>> ((6 : Int32).toUInt32 &&& Int32.toUInt32 31)).toInt32).toNatClampNeg)) (if (lg_cmp ((((h.aw a2 ((x1.toUInt32 >>> ((6 : Int32).toUInt32 &&& Int32.toUInt32 31)).toInt32).toNatClampNeg).toUInt64 >>> ((x1 &&& (63 : Int32)).toInt64.toUInt64 &&& Int64.toUInt64 63)).toInt64) &&& (1 : Int64)) (0 : Int64)) = 0 then (B_X1_isDone_23 N t0 h (0 : Int32)) else (B_X1_isDone_23 N t0 h (1 : Int32))))
theorem mb_X1_isDone_0 (N : Nat) (t0 : Nat) (h : Hp) (x1 : Int32) (x2 : Option Nat) (hJ : B_X1_isDone_0 N t0 h x1 x2 = some (hz, rz)) : Mo h hz := by
  unfold B_X1_isDone_0 at hJ
  obtain ⟨a2, ea2, -, hJ⟩ := dr_some hJ
  obtain ⟨-, hJ⟩ := ck_some hJ
  by_cases c4 : (lg_cmp ((((h.aw a2 ((x1.toUInt32 >>> ((6 : Int32).toUInt32 &&& Int32.toUInt32 31)).toInt32).toNatClampNeg).toUInt64 >>> ((x1 &&& (63 : Int32)).toInt64.toUInt64 &&& Int64.toUInt64 63)).toInt64) &&& (1 : Int64)) (0 : Int64)) = 0
  · have hJ := it_pos c4 hJ
    exact mb_X1_isDone_23 N t0 _ _ hJ
  · have hJ := it_neg c4 hJ
    exact mb_X1_isDone_23 N t0 _ _ hJ
set_option maxRecDepth 100000 in
set_option maxHeartbeats 4000000 in
theorem sb_X1_isDone_0 (C : Cx p s m args meth c cX1_isDone 3 (some .boolean) RX1 D cs A h0.se) (hz2 : hz.nx ≤ h0.nx + mc ∧ hz.su ≤ h0.su + ms) (N : Nat) (t0 : Nat) (h : Hp) (x1 : Int32) (x2 : Option Nat) (hJ : B_X1_isDone_0 N t0 h x1 x2 = some (hz, rz)) (hk0 : h.kd t0 = 4) {H : Heap} {locs : List Loc} {cells slots : Nat} (w : Wo D cs A s h0 h H locs cells slots) {ls : Array Slot} (hl : lv_has ls 3 [(0, .ref t0), (1, .int x1), (2, va_rf x2)]) : W p l e { frames := 0, cells := mc, slots := ms, locals := 0 } s m args below meth c H locs cells slots (MQ below (Zi D cs A hz rz) args s mc ms A) (F0 m 0 ls []) := by
  obtain ⟨hx, hb, hml, hown, hts, -⟩ := id C
  unfold B_X1_isDone_0 at hJ
  refine jv_aload_n hx hb dX1_isDone_0 rfl (lv_at hl 2 rfl) ?_
  refine lv_iload_n hx hb dX1_isDone_1 rfl (lv_at hl 1 rfl) ?_
  refine lv_bipush (v := (6 : Int32)) hx hb dX1_isDone_2 (by decide) ?_
  refine lv_iushr hx hb dX1_isDone_4 rfl ?_
  obtain ⟨a2, ea2, hka2, hJ⟩ := dr_some hJ
  rw [ea2] at hl
  rw [ea2]
  obtain ⟨hi3, hJ⟩ := ck_some hJ
  refine jr_lald C w hka2 hi3 dX1_isDone_5 ?_
  refine lv_iload_n hx hb dX1_isDone_6 rfl (lv_at hl 1 rfl) ?_
  refine lv_bipush (v := (63 : Int32)) hx hb dX1_isDone_7 (by decide) ?_
  refine lv_iand hx hb dX1_isDone_9 ?_
  refine lv_lushr hx hb dX1_isDone_10 rfl ?_
  refine lv_lconst (v := (1 : Int64)) hx hb dX1_isDone_11 (by decide) ?_
  refine lv_land hx hb dX1_isDone_12 ?_
  refine lv_lconst (v := (0 : Int64)) hx hb dX1_isDone_13 (by decide) ?_
  refine W.lcmp hx hb dX1_isDone_14 ?_
  refine lv_if_eq (tgt := 22) hx hb dX1_isDone_15 (by decide) (fun c4 => ?_) (fun c4 => ?_)
  · have hJ := it_pos c4 hJ
    refine lv_iconst (v := (0 : Int32)) hx hb dX1_isDone_22 (by decide) ?_
    exact sb_X1_isDone_23 C hz2 N t0 _ _ hJ hk0 w (lv_sub (l' := [(0, .ref t0)]) hl [0] rfl)
  · have hJ := it_neg c4 hJ
    refine lv_iconst (v := (1 : Int32)) hx hb dX1_isDone_18 (by decide) ?_
    refine lv_goto (tgt := 23) hx hb dX1_isDone_19 (by decide) ?_
    exact sb_X1_isDone_23 C hz2 N t0 _ _ hJ hk0 w (lv_sub (l' := [(0, .ref t0)]) hl [0] rfl)
def J_X1_isDone (N : Nat) (t0 : Nat) (h : Hp) (x1 : Int32) (x2 : Option Nat) : Option (Hp × Int32) := B_X1_isDone_0 N t0 h x1 x2
theorem mo_X1_isDone (N : Nat) (t0 : Nat) (h : Hp) (x1 : Int32) (x2 : Option Nat) (hJ : J_X1_isDone N t0 h x1 x2 = some (hz, rz)) : Mo h hz := mb_X1_isDone_0 N t0 h x1 x2 hJ
theorem cd_X1_isDone : Cd yX1_isDone 2 := ⟨by decide +kernel, by decide +kernel, by decide +kernel⟩
theorem cc_X1_isDone (N : Nat) (t0 : Nat) (h : Hp) (x1 : Int32) (x2 : Option Nat) (hk0 : h.kd t0 = 4) (hJ : J_X1_isDone N t0 h x1 x2 = some (hz, rz)) : Ci l yX1_isDone cX1_isDone 3 (some .boolean) 0 0 D cs h hz [.ref t0, .int x1, va_rf x2] rz := by
  intro mc ms g1 g2
  refine je_any (by decide) (by simp [lg_sl, rf_cat, cat_i, cat_l, cat_r]) ?_
  intro p e s m args below meth c C hin2 w ls hl
  have hl : lv_has ls 3 [(0, .ref t0), (1, .int x1), (2, va_rf x2)] := by simpa [lv_args, rf_cat, cat_i, cat_l, cat_r] using hl
  exact sb_X1_isDone_0 C ⟨g1, g2⟩ N t0 h x1 x2 hJ hk0 w hl
end G_X1_isDone
section G_X1_isReady
variable {p : Program} {l : Launch} {e : Env} {s : State} {m : MethodId} {args : Array Value} {below : List Frame} {meth : Method} {c : Code} {D : va_G} {cs : C4} {A : Nat → Prop} {h0 hz : Hp} {mc ms : Nat} {rz : Int32}
def B_X1_isReady_2 (N : Nat) (k2 : Hp → Int32 → (Option Nat) → Int32 → Option (Hp × Int32)) (t0 : Nat) (h : Hp) (x1 : Int32) (x2 : Option Nat) (x3 : Int32) : Option (Hp × Int32) := if (h.fi 403 t0) ≤ x3 then (some (h, (1 : Int32))) else (dr h 21 (h.fr 404 t0) (fun a2 => ck (¬ ((x1 * (h.fi 403 t0)) + x3 < 0 ∨ h.al a2 ≤ ((x1 * (h.fi 403 t0)) + x3).toNatClampNeg)) (dr h 21 x2 (fun a4 => ck (¬ (x3 < 0 ∨ h.al a4 ≤ x3.toNatClampNeg)) (if (lg_cmp ((h.aw a2 ((x1 * (h.fi 403 t0)) + x3).toNatClampNeg) &&& ((h.aw a4 x3.toNatClampNeg) ^^^ (-1 : Int64))) (0 : Int64)) = 0 then (k2 h x1 (some a4) (x3 + (1 : Int32))) else (some (h, (0 : Int32))))))))
theorem mb_X1_isReady_2 (N : Nat) (k2 : Hp → Int32 → (Option Nat) → Int32 → Option (Hp × Int32)) (t0 : Nat) (h : Hp) (x1 : Int32) (x2 : Option Nat) (x3 : Int32) (m2 : ∀ (h : Hp) (x1 : Int32) (x2 : Option Nat) (x3 : Int32), k2 h x1 x2 x3 = some (hz, rz) → Mo h hz) (hJ : B_X1_isReady_2 N k2 t0 h x1 x2 x3 = some (hz, rz)) : Mo h hz := by
  unfold B_X1_isReady_2 at hJ
  by_cases c1 : (h.fi 403 t0) ≤ x3
  · have hJ := it_pos c1 hJ
    obtain ⟨rfl, -⟩ := rs2 hJ
    exact ⟨fun _ _ => rfl, Nat.le_refl _, Nat.le_refl _, rfl, fun _ _ => rfl⟩
  · have hJ := it_neg c1 hJ
    obtain ⟨a2, ea2, -, hJ⟩ := dr_some hJ
    obtain ⟨-, hJ⟩ := ck_some hJ
    obtain ⟨a4, ea4, -, hJ⟩ := dr_some hJ
    obtain ⟨-, hJ⟩ := ck_some hJ
    by_cases c6 : (lg_cmp ((h.aw a2 ((x1 * (h.fi 403 t0)) + x3).toNatClampNeg) &&& ((h.aw a4 x3.toNatClampNeg) ^^^ (-1 : Int64))) (0 : Int64)) = 0
    · have hJ := it_pos c6 hJ
      exact m2 _ _ _ _ hJ
    · have hJ := it_neg c6 hJ
      obtain ⟨rfl, -⟩ := rs2 hJ
      exact ⟨fun _ _ => rfl, Nat.le_refl _, Nat.le_refl _, rfl, fun _ _ => rfl⟩
set_option maxRecDepth 100000 in
set_option maxHeartbeats 4000000 in
theorem sb_X1_isReady_2 (C : Cx p s m args meth c cX1_isReady 4 (some .boolean) RX1 D cs A h0.se) (hz2 : hz.nx ≤ h0.nx + mc ∧ hz.su ≤ h0.su + ms) (N : Nat) (k2 : Hp → Int32 → (Option Nat) → Int32 → Option (Hp × Int32)) (t0 : Nat) (m2 : ∀ (h : Hp) (x1 : Int32) (x2 : Option Nat) (x3 : Int32), k2 h x1 x2 x3 = some (hz, rz) → Mo h hz) (i2 : ∀ (h : Hp) (x1 : Int32) (x2 : Option Nat) (x3 : Int32) (H : Heap) (locs : List Loc) (cells slots : Nat) (ls : Array Slot), k2 h x1 x2 x3 = some (hz, rz) → h.kd t0 = 4 → Wo D cs A s h0 h H locs cells slots → lv_has ls 4 [(0, .ref t0), (1, .int x1), (2, va_rf x2), (3, .int x3)] → W p l e { frames := 0, cells := mc, slots := ms, locals := 0 } s m args below meth c H locs cells slots (MQ below (Zi D cs A hz rz) args s mc ms A) (F0 m 2 ls [])) (h : Hp) (x1 : Int32) (x2 : Option Nat) (x3 : Int32) (hJ : B_X1_isReady_2 N k2 t0 h x1 x2 x3 = some (hz, rz)) (hk0 : h.kd t0 = 4) {H : Heap} {locs : List Loc} {cells slots : Nat} (w : Wo D cs A s h0 h H locs cells slots) {ls : Array Slot} (hl : lv_has ls 4 [(0, .ref t0), (1, .int x1), (2, va_rf x2), (3, .int x3)]) : W p l e { frames := 0, cells := mc, slots := ms, locals := 0 } s m args below meth c H locs cells slots (MQ below (Zi D cs A hz rz) args s mc ms A) (F0 m 2 ls []) := by
  obtain ⟨hx, hb, hml, hown, hts, -⟩ := id C
  unfold B_X1_isReady_2 at hJ
  refine lv_iload_n hx hb dX1_isReady_2 rfl (lv_at hl 3 rfl) ?_
  refine lv_aload_n hx hb dX1_isReady_3 rfl (lv_at hl 0 rfl) ?_
  refine fg_403 C w hk0 tw_3_16 dX1_isReady_4 ?_
  refine lv_icmp_ge (tgt := 44) hx hb dX1_isReady_7 (by decide) (fun c1 => ?_) (fun c1 => ?_)
  · have hJ := it_pos c1 hJ
    refine lv_iconst (v := (1 : Int32)) hx hb dX1_isReady_44 (by decide) ?_
    obtain ⟨rfl, rfl⟩ := rs2 hJ
    exact jr_zret C w (Or.inr rfl) hz2 dX1_isReady_45
  · have hJ := it_neg c1 hJ
    refine lv_aload_n hx hb dX1_isReady_10 rfl (lv_at hl 0 rfl) ?_
    refine fg_404 C w hk0 tw_3_17 dX1_isReady_11 ?_
    refine lv_iload_n hx hb dX1_isReady_14 rfl (lv_at hl 1 rfl) ?_
    refine lv_aload_n hx hb dX1_isReady_15 rfl (lv_at hl 0 rfl) ?_
    refine fg_403 C w hk0 tw_3_16 dX1_isReady_16 ?_
    refine lv_imul hx hb dX1_isReady_19 ?_
    refine lv_iload_n hx hb dX1_isReady_20 rfl (lv_at hl 3 rfl) ?_
    refine lv_iadd hx hb dX1_isReady_21 ?_
    obtain ⟨a2, ea2, hka2, hJ⟩ := dr_some hJ
    rw [ea2]
    obtain ⟨hi3, hJ⟩ := ck_some hJ
    refine jr_lald C w hka2 hi3 dX1_isReady_22 ?_
    refine jv_aload_n hx hb dX1_isReady_23 rfl (lv_at hl 2 rfl) ?_
    refine lv_iload_n hx hb dX1_isReady_24 rfl (lv_at hl 3 rfl) ?_
    obtain ⟨a4, ea4, hka4, hJ⟩ := dr_some hJ
    rw [ea4] at hl
    rw [ea4]
    obtain ⟨hi5, hJ⟩ := ck_some hJ
    refine jr_lald C w hka4 hi5 dX1_isReady_25 ?_
    refine lv_ldc2 (v := (-1 : Int64)) hx hb hown (hts _ tw_3_73) dX1_isReady_26 ?_
    refine lv_lxor hx hb dX1_isReady_29 ?_
    refine lv_land hx hb dX1_isReady_30 ?_
    refine lv_lconst (v := (0 : Int64)) hx hb dX1_isReady_31 (by decide) ?_
    refine W.lcmp hx hb dX1_isReady_32 ?_
    refine lv_if_eq (tgt := 38) hx hb dX1_isReady_33 (by decide) (fun c6 => ?_) (fun c6 => ?_)
    · have hJ := it_pos c6 hJ
      refine lv_iinc (v := x3 + (1 : Int32)) (lv' := [(3, .int (x3 + (1 : Int32))), (0, .ref t0), (1, .int x1), (2, .ref a4)]) hx hb dX1_isReady_38 hl (k := 3) rfl rfl (by decide) rfl (fun ls hl => ?_)
      refine lv_goto (tgt := 2) hx hb dX1_isReady_41 (by decide) ?_
      exact i2 _ _ _ _ _ _ _ _ _ hJ hk0 w (lv_sub (l' := [(0, .ref t0), (1, .int x1), (2, .ref a4), (3, .int (x3 + (1 : Int32)))]) hl [1, 2, 3, 0] rfl)
    · have hJ := it_neg c6 hJ
      refine lv_iconst (v := (0 : Int32)) hx hb dX1_isReady_36 (by decide) ?_
      obtain ⟨rfl, rfl⟩ := rs2 hJ
      exact jr_zret C w (Or.inl rfl) hz2 dX1_isReady_37
def L_X1_isReady_2 (N : Nat) (t0 : Nat) : Nat → Hp → Int32 → (Option Nat) → Int32 → Option (Hp × Int32)
  | 0 => fun _ _ _ _ => none
  | n + 1 => fun h x1 x2 x3 => B_X1_isReady_2 N (L_X1_isReady_2 N t0 n) t0 h x1 x2 x3
theorem ml_X1_isReady_2 (N : Nat) (t0 : Nat) : ∀ (n : Nat) (h : Hp) (x1 : Int32) (x2 : Option Nat) (x3 : Int32), L_X1_isReady_2 N t0 n h x1 x2 x3 = some (hz, rz) → Mo h hz := by
  intro n
  induction n with
  | zero => intro h x1 x2 x3 hJ; cases hJ
  | succ n ih => intro h x1 x2 x3 hJ; exact mb_X1_isReady_2 N (L_X1_isReady_2 N t0 n) t0 h x1 x2 x3 ih hJ
theorem sl_X1_isReady_2 (C : Cx p s m args meth c cX1_isReady 4 (some .boolean) RX1 D cs A h0.se) (hz2 : hz.nx ≤ h0.nx + mc ∧ hz.su ≤ h0.su + ms) (N : Nat) (t0 : Nat) : ∀ n : Nat, ∀ (h : Hp) (x1 : Int32) (x2 : Option Nat) (x3 : Int32) (H : Heap) (locs : List Loc) (cells slots : Nat) (ls : Array Slot), L_X1_isReady_2 N t0 n h x1 x2 x3 = some (hz, rz) → h.kd t0 = 4 → Wo D cs A s h0 h H locs cells slots → lv_has ls 4 [(0, .ref t0), (1, .int x1), (2, va_rf x2), (3, .int x3)] → W p l e { frames := 0, cells := mc, slots := ms, locals := 0 } s m args below meth c H locs cells slots (MQ below (Zi D cs A hz rz) args s mc ms A) (F0 m 2 ls []) := by
  intro n
  induction n with
  | zero => intro h x1 x2 x3 H locs cells slots ls hJ; cases hJ
  | succ n ih =>
    intro h x1 x2 x3 H locs cells slots ls hJ hk0 w hl
    exact sb_X1_isReady_2 C hz2 N (L_X1_isReady_2 N t0 n) t0 (ml_X1_isReady_2 N t0 n) ih h x1 x2 x3 hJ hk0 w hl
def B_X1_isReady_0 (N : Nat) (t0 : Nat) (h : Hp) (x1 : Int32) (x2 : Option Nat) : Option (Hp × Int32) := L_X1_isReady_2 N t0 N h x1 x2 (0 : Int32)
theorem mb_X1_isReady_0 (N : Nat) (t0 : Nat) (h : Hp) (x1 : Int32) (x2 : Option Nat) (hJ : B_X1_isReady_0 N t0 h x1 x2 = some (hz, rz)) : Mo h hz := by
  unfold B_X1_isReady_0 at hJ
  exact ml_X1_isReady_2 N t0 N _ _ _ _ hJ
set_option maxRecDepth 100000 in
set_option maxHeartbeats 4000000 in
theorem sb_X1_isReady_0 (C : Cx p s m args meth c cX1_isReady 4 (some .boolean) RX1 D cs A h0.se) (hz2 : hz.nx ≤ h0.nx + mc ∧ hz.su ≤ h0.su + ms) (N : Nat) (t0 : Nat) (h : Hp) (x1 : Int32) (x2 : Option Nat) (hJ : B_X1_isReady_0 N t0 h x1 x2 = some (hz, rz)) (hk0 : h.kd t0 = 4) {H : Heap} {locs : List Loc} {cells slots : Nat} (w : Wo D cs A s h0 h H locs cells slots) {ls : Array Slot} (hl : lv_has ls 4 [(0, .ref t0), (1, .int x1), (2, va_rf x2)]) : W p l e { frames := 0, cells := mc, slots := ms, locals := 0 } s m args below meth c H locs cells slots (MQ below (Zi D cs A hz rz) args s mc ms A) (F0 m 0 ls []) := by
  obtain ⟨hx, hb, hml, hown, hts, -⟩ := id C
  unfold B_X1_isReady_0 at hJ
  refine lv_iconst (v := (0 : Int32)) hx hb dX1_isReady_0 (by decide) ?_
  refine lv_istore_n (i := 3) (lv' := [(3, .int (0 : Int32)), (0, .ref t0), (1, .int x1), (2, va_rf x2)]) hx hb dX1_isReady_1 rfl hl (by decide) (by simp [List.filter, rf_cat, cat_i, cat_l, cat_r]) (fun ls hl => ?_)
  exact sl_X1_isReady_2 C hz2 N t0 N _ _ _ _ _ _ _ _ _ hJ hk0 w (lv_sub (l' := [(0, .ref t0), (1, .int x1), (2, va_rf x2), (3, .int (0 : Int32))]) hl [1, 2, 3, 0] rfl)
def J_X1_isReady (N : Nat) (t0 : Nat) (h : Hp) (x1 : Int32) (x2 : Option Nat) : Option (Hp × Int32) := B_X1_isReady_0 N t0 h x1 x2
theorem mo_X1_isReady (N : Nat) (t0 : Nat) (h : Hp) (x1 : Int32) (x2 : Option Nat) (hJ : J_X1_isReady N t0 h x1 x2 = some (hz, rz)) : Mo h hz := mb_X1_isReady_0 N t0 h x1 x2 hJ
theorem cd_X1_isReady : Cd yX1_isReady 2 := ⟨by decide +kernel, by decide +kernel, by decide +kernel⟩
theorem cc_X1_isReady (N : Nat) (t0 : Nat) (h : Hp) (x1 : Int32) (x2 : Option Nat) (hk0 : h.kd t0 = 4) (hJ : J_X1_isReady N t0 h x1 x2 = some (hz, rz)) : Ci l yX1_isReady cX1_isReady 4 (some .boolean) 0 0 D cs h hz [.ref t0, .int x1, va_rf x2] rz := by
  intro mc ms g1 g2
  refine je_any (by decide) (by simp [lg_sl, rf_cat, cat_i, cat_l, cat_r]) ?_
  intro p e s m args below meth c C hin2 w ls hl
  have hl : lv_has ls 4 [(0, .ref t0), (1, .int x1), (2, va_rf x2)] := by simpa [lv_args, rf_cat, cat_i, cat_l, cat_r] using hl
  exact sb_X1_isReady_0 C ⟨g1, g2⟩ N t0 h x1 x2 hJ hk0 w hl
end G_X1_isReady
section G_X1_lineUp
variable {p : Program} {l : Launch} {e : Env} {s : State} {m : MethodId} {args : Array Value} {below : List Frame} {meth : Method} {c : Code} {D : va_G} {cs : C4} {A : Nat → Prop} {h0 hz : Hp} {mc ms : Nat} {rz : Int32}
def B_X1_lineUp_74 (N : Nat) (k11 : Hp → (Option Nat) → Int32 → Int32 → Option (Hp × Int32)) (k45 : Hp → (Option Nat) → Int32 → Int32 → Int32 → Option (Hp × Int32)) (t0 : Nat) (h : Hp) (x1 : Option Nat) (x2 : Int32) (x3 : Int32) (x4 : Int32) : Option (Hp × Int32) := k45 h x1 x2 x3 (x4 + (1 : Int32))
theorem mb_X1_lineUp_74 (N : Nat) (k11 : Hp → (Option Nat) → Int32 → Int32 → Option (Hp × Int32)) (k45 : Hp → (Option Nat) → Int32 → Int32 → Int32 → Option (Hp × Int32)) (t0 : Nat) (h : Hp) (x1 : Option Nat) (x2 : Int32) (x3 : Int32) (x4 : Int32) (m11 : ∀ (h : Hp) (x1 : Option Nat) (x2 : Int32) (x3 : Int32), k11 h x1 x2 x3 = some (hz, rz) → Mo h hz) (m45 : ∀ (h : Hp) (x1 : Option Nat) (x2 : Int32) (x3 : Int32) (x4 : Int32), k45 h x1 x2 x3 x4 = some (hz, rz) → Mo h hz) (hJ : B_X1_lineUp_74 N k11 k45 t0 h x1 x2 x3 x4 = some (hz, rz)) : Mo h hz := by
  unfold B_X1_lineUp_74 at hJ
  exact m45 _ _ _ _ _ hJ
set_option maxRecDepth 100000 in
set_option maxHeartbeats 4000000 in
theorem sb_X1_lineUp_74 (C : Cx p s m args meth c cX1_lineUp 5 (some .boolean) RX1 D cs A h0.se) (hz2 : hz.nx ≤ h0.nx + mc ∧ hz.su ≤ h0.su + ms) (N : Nat) (k11 : Hp → (Option Nat) → Int32 → Int32 → Option (Hp × Int32)) (k45 : Hp → (Option Nat) → Int32 → Int32 → Int32 → Option (Hp × Int32)) (t0 : Nat) (m11 : ∀ (h : Hp) (x1 : Option Nat) (x2 : Int32) (x3 : Int32), k11 h x1 x2 x3 = some (hz, rz) → Mo h hz) (m45 : ∀ (h : Hp) (x1 : Option Nat) (x2 : Int32) (x3 : Int32) (x4 : Int32), k45 h x1 x2 x3 x4 = some (hz, rz) → Mo h hz) (i11 : ∀ (h : Hp) (x1 : Option Nat) (x2 : Int32) (x3 : Int32) (H : Heap) (locs : List Loc) (cells slots : Nat) (ls : Array Slot), k11 h x1 x2 x3 = some (hz, rz) → h.kd t0 = 4 → Wo D cs A s h0 h H locs cells slots → lv_has ls 5 [(0, .ref t0), (1, va_rf x1), (2, .int x2), (3, .int x3)] → W p l e { frames := 1, cells := mc, slots := ms, locals := 30 } s m args below meth c H locs cells slots (MQ below (Zi D cs A hz rz) args s mc ms A) (F0 m 11 ls [])) (i45 : ∀ (h : Hp) (x1 : Option Nat) (x2 : Int32) (x3 : Int32) (x4 : Int32) (H : Heap) (locs : List Loc) (cells slots : Nat) (ls : Array Slot), k45 h x1 x2 x3 x4 = some (hz, rz) → h.kd t0 = 4 → Wo D cs A s h0 h H locs cells slots → lv_has ls 5 [(0, .ref t0), (1, va_rf x1), (2, .int x2), (3, .int x3), (4, .int x4)] → W p l e { frames := 1, cells := mc, slots := ms, locals := 30 } s m args below meth c H locs cells slots (MQ below (Zi D cs A hz rz) args s mc ms A) (F0 m 45 ls [])) (h : Hp) (x1 : Option Nat) (x2 : Int32) (x3 : Int32) (x4 : Int32) (hJ : B_X1_lineUp_74 N k11 k45 t0 h x1 x2 x3 x4 = some (hz, rz)) (hk0 : h.kd t0 = 4) {H : Heap} {locs : List Loc} {cells slots : Nat} (w : Wo D cs A s h0 h H locs cells slots) {ls : Array Slot} (hl : lv_has ls 5 [(0, .ref t0), (1, va_rf x1), (2, .int x2), (3, .int x3), (4, .int x4)]) : W p l e { frames := 1, cells := mc, slots := ms, locals := 30 } s m args below meth c H locs cells slots (MQ below (Zi D cs A hz rz) args s mc ms A) (F0 m 74 ls []) := by
  obtain ⟨hx, hb, hml, hown, hts, -⟩ := id C
  unfold B_X1_lineUp_74 at hJ
  refine lv_iinc (v := x4 + (1 : Int32)) (lv' := [(4, .int (x4 + (1 : Int32))), (0, .ref t0), (1, va_rf x1), (2, .int x2), (3, .int x3)]) hx hb dX1_lineUp_74 hl (k := 4) rfl rfl (by decide) rfl (fun ls hl => ?_)
  refine lv_goto (tgt := 45) hx hb dX1_lineUp_77 (by decide) ?_
  exact i45 _ _ _ _ _ _ _ _ _ _ hJ hk0 w (lv_sub (l' := [(0, .ref t0), (1, va_rf x1), (2, .int x2), (3, .int x3), (4, .int (x4 + (1 : Int32)))]) hl [1, 2, 3, 4, 0] rfl)
def B_X1_lineUp_80 (N : Nat) (k11 : Hp → (Option Nat) → Int32 → Int32 → Option (Hp × Int32)) (t0 : Nat) (h : Hp) (x1 : Option Nat) (x2 : Int32) (x3 : Int32) (x4 : Int32) : Option (Hp × Int32) := if x4 < (h.fi 402 t0) then (dr h 21 x1 (fun a2 => ck (¬ ((x4.toUInt32 >>> ((6 : Int32).toUInt32 &&& Int32.toUInt32 31)).toInt32 < 0 ∨ h.al a2 ≤ ((x4.toUInt32 >>> ((6 : Int32).toUInt32 &&& Int32.toUInt32 31)).toInt32).toNatClampNeg)) (ck (¬ ((x4.toUInt32 >>> ((6 : Int32).toUInt32 &&& Int32.toUInt32 31)).toInt32 < 0 ∨ h.al a2 ≤ ((x4.toUInt32 >>> ((6 : Int32).toUInt32 &&& Int32.toUInt32 31)).toInt32).toNatClampNeg)) (dr (h.saw a2 ((x4.toUInt32 >>> ((6 : Int32).toUInt32 &&& Int32.toUInt32 31)).toInt32).toNatClampNeg ((h.aw a2 ((x4.toUInt32 >>> ((6 : Int32).toUInt32 &&& Int32.toUInt32 31)).toInt32).toNatClampNeg) ||| ((1 : Int64) <<< ((x4 &&& (63 : Int32)).toInt64 &&& 63)))) 20 ((h.saw a2 ((x4.toUInt32 >>> ((6 : Int32).toUInt32 &&& Int32.toUInt32 31)).toInt32).toNatClampNeg ((h.aw a2 ((x4.toUInt32 >>> ((6 : Int32).toUInt32 &&& Int32.toUInt32 31)).toInt32).toNatClampNeg) ||| ((1 : Int64) <<< ((x4 &&& (63 : Int32)).toInt64 &&& 63)))).fr 405 t0) (fun a5 => ck (¬ (x3 < 0 ∨ (h.saw a2 ((x4.toUInt32 >>> ((6 : Int32).toUInt32 &&& Int32.toUInt32 31)).toInt32).toNatClampNeg ((h.aw a2 ((x4.toUInt32 >>> ((6 : Int32).toUInt32 &&& Int32.toUInt32 31)).toInt32).toNatClampNeg) ||| ((1 : Int64) <<< ((x4 &&& (63 : Int32)).toInt64 &&& 63)))).al a5 ≤ x3.toNatClampNeg)) (k11 ((h.saw a2 ((x4.toUInt32 >>> ((6 : Int32).toUInt32 &&& Int32.toUInt32 31)).toInt32).toNatClampNeg ((h.aw a2 ((x4.toUInt32 >>> ((6 : Int32).toUInt32 &&& Int32.toUInt32 31)).toInt32).toNatClampNeg) ||| ((1 : Int64) <<< ((x4 &&& (63 : Int32)).toInt64 &&& 63)))).sai a5 x3.toNatClampNeg x4) (some a2) x2 (x3 + (1 : Int32)))))))) else (some (h, (0 : Int32)))
theorem mb_X1_lineUp_80 (N : Nat) (k11 : Hp → (Option Nat) → Int32 → Int32 → Option (Hp × Int32)) (t0 : Nat) (h : Hp) (x1 : Option Nat) (x2 : Int32) (x3 : Int32) (x4 : Int32) (m11 : ∀ (h : Hp) (x1 : Option Nat) (x2 : Int32) (x3 : Int32), k11 h x1 x2 x3 = some (hz, rz) → Mo h hz) (hJ : B_X1_lineUp_80 N k11 t0 h x1 x2 x3 x4 = some (hz, rz)) : Mo h hz := by
  unfold B_X1_lineUp_80 at hJ
  by_cases c1 : x4 < (h.fi 402 t0)
  · have hJ := it_pos c1 hJ
    obtain ⟨a2, ea2, -, hJ⟩ := dr_some hJ
    obtain ⟨-, hJ⟩ := ck_some hJ
    obtain ⟨-, hJ⟩ := ck_some hJ
    obtain ⟨a5, ea5, -, hJ⟩ := dr_some hJ
    obtain ⟨-, hJ⟩ := ck_some hJ
    exact (Mo.tr (show Mo h ((h.saw a2 ((x4.toUInt32 >>> ((6 : Int32).toUInt32 &&& Int32.toUInt32 31)).toInt32).toNatClampNeg ((h.aw a2 ((x4.toUInt32 >>> ((6 : Int32).toUInt32 &&& Int32.toUInt32 31)).toInt32).toNatClampNeg) ||| ((1 : Int64) <<< ((x4 &&& (63 : Int32)).toInt64 &&& 63)))).sai a5 x3.toNatClampNeg x4) from ⟨fun _ _ => rfl, Nat.le_refl _, Nat.le_refl _, rfl, fun _ _ => rfl⟩) (m11 _ _ _ _ hJ))
  · have hJ := it_neg c1 hJ
    obtain ⟨rfl, -⟩ := rs2 hJ
    exact ⟨fun _ _ => rfl, Nat.le_refl _, Nat.le_refl _, rfl, fun _ _ => rfl⟩
set_option maxRecDepth 100000 in
set_option maxHeartbeats 4000000 in
theorem sb_X1_lineUp_80 (C : Cx p s m args meth c cX1_lineUp 5 (some .boolean) RX1 D cs A h0.se) (hz2 : hz.nx ≤ h0.nx + mc ∧ hz.su ≤ h0.su + ms) (N : Nat) (k11 : Hp → (Option Nat) → Int32 → Int32 → Option (Hp × Int32)) (t0 : Nat) (m11 : ∀ (h : Hp) (x1 : Option Nat) (x2 : Int32) (x3 : Int32), k11 h x1 x2 x3 = some (hz, rz) → Mo h hz) (i11 : ∀ (h : Hp) (x1 : Option Nat) (x2 : Int32) (x3 : Int32) (H : Heap) (locs : List Loc) (cells slots : Nat) (ls : Array Slot), k11 h x1 x2 x3 = some (hz, rz) → h.kd t0 = 4 → Wo D cs A s h0 h H locs cells slots → lv_has ls 5 [(0, .ref t0), (1, va_rf x1), (2, .int x2), (3, .int x3)] → W p l e { frames := 1, cells := mc, slots := ms, locals := 30 } s m args below meth c H locs cells slots (MQ below (Zi D cs A hz rz) args s mc ms A) (F0 m 11 ls [])) (h : Hp) (x1 : Option Nat) (x2 : Int32) (x3 : Int32) (x4 : Int32) (hJ : B_X1_lineUp_80 N k11 t0 h x1 x2 x3 x4 = some (hz, rz)) (hk0 : h.kd t0 = 4) {H : Heap} {locs : List Loc} {cells slots : Nat} (w : Wo D cs A s h0 h H locs cells slots) {ls : Array Slot} (hl : lv_has ls 5 [(0, .ref t0), (1, va_rf x1), (2, .int x2), (3, .int x3), (4, .int x4)]) : W p l e { frames := 1, cells := mc, slots := ms, locals := 30 } s m args below meth c H locs cells slots (MQ below (Zi D cs A hz rz) args s mc ms A) (F0 m 80 ls []) := by
  obtain ⟨hx, hb, hml, hown, hts, -⟩ := id C
  unfold B_X1_lineUp_80 at hJ
  refine lv_iload hx hb dX1_lineUp_80 (lv_at hl 4 rfl) ?_
  refine lv_aload_n hx hb dX1_lineUp_82 rfl (lv_at hl 0 rfl) ?_
  refine fg_402 C w hk0 tw_3_15 dX1_lineUp_83 ?_
  refine lv_icmp_lt (tgt := 91) hx hb dX1_lineUp_86 (by decide) (fun c1 => ?_) (fun c1 => ?_)
  · have hJ := it_pos c1 hJ
    refine jv_aload_n hx hb dX1_lineUp_91 rfl (lv_at hl 1 rfl) ?_
    refine lv_iload hx hb dX1_lineUp_92 (lv_at hl 4 rfl) ?_
    refine lv_bipush (v := (6 : Int32)) hx hb dX1_lineUp_94 (by decide) ?_
    refine lv_iushr hx hb dX1_lineUp_96 rfl ?_
    refine lv_dup2_11 hx hb dX1_lineUp_97 rfl (rf_cat _) ?_
    obtain ⟨a2, ea2, hka2, hJ⟩ := dr_some hJ
    rw [ea2] at hl
    rw [ea2]
    obtain ⟨hi3, hJ⟩ := ck_some hJ
    refine jr_lald C w hka2 hi3 dX1_lineUp_98 ?_
    refine lv_lconst (v := (1 : Int64)) hx hb dX1_lineUp_99 (by decide) ?_
    refine lv_iload hx hb dX1_lineUp_100 (lv_at hl 4 rfl) ?_
    refine lv_bipush (v := (63 : Int32)) hx hb dX1_lineUp_102 (by decide) ?_
    refine lv_iand hx hb dX1_lineUp_104 ?_
    refine lv_lshl hx hb dX1_lineUp_105 rfl ?_
    refine lv_lor hx hb dX1_lineUp_106 ?_
    obtain ⟨hi4, hJ⟩ := ck_some hJ
    refine jr_last C w hka2 hi4 dX1_lineUp_107 (fun H locs w => ?_)
    refine lv_aload_n hx hb dX1_lineUp_108 rfl (lv_at hl 0 rfl) ?_
    refine fg_405 C w hk0 tw_3_18 dX1_lineUp_109 ?_
    refine lv_iload_n hx hb dX1_lineUp_112 rfl (lv_at hl 3 rfl) ?_
    refine lv_iload hx hb dX1_lineUp_113 (lv_at hl 4 rfl) ?_
    obtain ⟨a5, ea5, hka5, hJ⟩ := dr_some hJ
    rw [ea5]
    obtain ⟨hi6, hJ⟩ := ck_some hJ
    refine jr_iast C w hka5 hi6 dX1_lineUp_115 (fun H locs w => ?_)
    refine lv_iinc (v := x3 + (1 : Int32)) (lv' := [(3, .int (x3 + (1 : Int32))), (0, .ref t0), (1, .ref a2), (2, .int x2), (4, .int x4)]) hx hb dX1_lineUp_116 hl (k := 3) rfl rfl (by decide) rfl (fun ls hl => ?_)
    refine lv_goto (tgt := 11) hx hb dX1_lineUp_119 (by decide) ?_
    exact i11 _ _ _ _ _ _ _ _ _ hJ hk0 w (lv_sub (l' := [(0, .ref t0), (1, .ref a2), (2, .int x2), (3, .int (x3 + (1 : Int32)))]) hl [1, 2, 3, 0] rfl)
  · have hJ := it_neg c1 hJ
    refine lv_iconst (v := (0 : Int32)) hx hb dX1_lineUp_89 (by decide) ?_
    obtain ⟨rfl, rfl⟩ := rs2 hJ
    exact jr_zret C w (Or.inl rfl) hz2 dX1_lineUp_90
def B_X1_lineUp_71 (N : Nat) (k11 : Hp → (Option Nat) → Int32 → Int32 → Option (Hp × Int32)) (k45 : Hp → (Option Nat) → Int32 → Int32 → Int32 → Option (Hp × Int32)) (t0 : Nat) (h : Hp) (x1 : Option Nat) (x2 : Int32) (x3 : Int32) (x4 : Int32) (y0 : Int32) : Option (Hp × Int32) := if y0 = 0 then (B_X1_lineUp_74 N k11 k45 t0 h x1 x2 x3 x4) else (B_X1_lineUp_80 N k11 t0 h x1 x2 x3 x4)
theorem mb_X1_lineUp_71 (N : Nat) (k11 : Hp → (Option Nat) → Int32 → Int32 → Option (Hp × Int32)) (k45 : Hp → (Option Nat) → Int32 → Int32 → Int32 → Option (Hp × Int32)) (t0 : Nat) (h : Hp) (x1 : Option Nat) (x2 : Int32) (x3 : Int32) (x4 : Int32) (y0 : Int32) (m11 : ∀ (h : Hp) (x1 : Option Nat) (x2 : Int32) (x3 : Int32), k11 h x1 x2 x3 = some (hz, rz) → Mo h hz) (m45 : ∀ (h : Hp) (x1 : Option Nat) (x2 : Int32) (x3 : Int32) (x4 : Int32), k45 h x1 x2 x3 x4 = some (hz, rz) → Mo h hz) (hJ : B_X1_lineUp_71 N k11 k45 t0 h x1 x2 x3 x4 y0 = some (hz, rz)) : Mo h hz := by
  unfold B_X1_lineUp_71 at hJ
  by_cases c7 : y0 = 0
  · have hJ := it_pos c7 hJ
    exact mb_X1_lineUp_74 N k11 k45 t0 _ _ _ _ _ m11 m45 hJ
  · have hJ := it_neg c7 hJ
    exact mb_X1_lineUp_80 N k11 t0 _ _ _ _ _ m11 hJ
set_option maxRecDepth 100000 in
set_option maxHeartbeats 4000000 in
theorem sb_X1_lineUp_71 (C : Cx p s m args meth c cX1_lineUp 5 (some .boolean) RX1 D cs A h0.se) (hz2 : hz.nx ≤ h0.nx + mc ∧ hz.su ≤ h0.su + ms) (N : Nat) (k11 : Hp → (Option Nat) → Int32 → Int32 → Option (Hp × Int32)) (k45 : Hp → (Option Nat) → Int32 → Int32 → Int32 → Option (Hp × Int32)) (t0 : Nat) (m11 : ∀ (h : Hp) (x1 : Option Nat) (x2 : Int32) (x3 : Int32), k11 h x1 x2 x3 = some (hz, rz) → Mo h hz) (m45 : ∀ (h : Hp) (x1 : Option Nat) (x2 : Int32) (x3 : Int32) (x4 : Int32), k45 h x1 x2 x3 x4 = some (hz, rz) → Mo h hz) (i11 : ∀ (h : Hp) (x1 : Option Nat) (x2 : Int32) (x3 : Int32) (H : Heap) (locs : List Loc) (cells slots : Nat) (ls : Array Slot), k11 h x1 x2 x3 = some (hz, rz) → h.kd t0 = 4 → Wo D cs A s h0 h H locs cells slots → lv_has ls 5 [(0, .ref t0), (1, va_rf x1), (2, .int x2), (3, .int x3)] → W p l e { frames := 1, cells := mc, slots := ms, locals := 30 } s m args below meth c H locs cells slots (MQ below (Zi D cs A hz rz) args s mc ms A) (F0 m 11 ls [])) (i45 : ∀ (h : Hp) (x1 : Option Nat) (x2 : Int32) (x3 : Int32) (x4 : Int32) (H : Heap) (locs : List Loc) (cells slots : Nat) (ls : Array Slot), k45 h x1 x2 x3 x4 = some (hz, rz) → h.kd t0 = 4 → Wo D cs A s h0 h H locs cells slots → lv_has ls 5 [(0, .ref t0), (1, va_rf x1), (2, .int x2), (3, .int x3), (4, .int x4)] → W p l e { frames := 1, cells := mc, slots := ms, locals := 30 } s m args below meth c H locs cells slots (MQ below (Zi D cs A hz rz) args s mc ms A) (F0 m 45 ls [])) (h : Hp) (x1 : Option Nat) (x2 : Int32) (x3 : Int32) (x4 : Int32) (y0 : Int32) (hJ : B_X1_lineUp_71 N k11 k45 t0 h x1 x2 x3 x4 y0 = some (hz, rz)) (hk0 : h.kd t0 = 4) {H : Heap} {locs : List Loc} {cells slots : Nat} (w : Wo D cs A s h0 h H locs cells slots) {ls : Array Slot} (hl : lv_has ls 5 [(0, .ref t0), (1, va_rf x1), (2, .int x2), (3, .int x3), (4, .int x4)]) : W p l e { frames := 1, cells := mc, slots := ms, locals := 30 } s m args below meth c H locs cells slots (MQ below (Zi D cs A hz rz) args s mc ms A) (F0 m 71 ls [.int y0]) := by
  obtain ⟨hx, hb, hml, hown, hts, -⟩ := id C
  unfold B_X1_lineUp_71 at hJ
  refine lv_if_ne (tgt := 80) hx hb dX1_lineUp_71 (by decide) (fun c7 => ?_) (fun c7 => ?_)
  · have hJ := it_neg c7 hJ
    exact sb_X1_lineUp_80 C hz2 N k11 t0 m11 i11 _ _ _ _ _ hJ hk0 w hl
  · have hJ := it_pos c7 hJ
    exact sb_X1_lineUp_74 C hz2 N k11 k45 t0 m11 m45 i11 i45 _ _ _ _ _ hJ hk0 w hl
def B_X1_lineUp_61 (N : Nat) (k11 : Hp → (Option Nat) → Int32 → Int32 → Option (Hp × Int32)) (k45 : Hp → (Option Nat) → Int32 → Int32 → Int32 → Option (Hp × Int32)) (t0 : Nat) (h : Hp) (x1 : Option Nat) (x2 : Int32) (x3 : Int32) (x4 : Int32) (y0 : Int32) : Option (Hp × Int32) := if y0 = 0 then ((J_X1_isReady N t0 h x4 x1).bind (fun z => B_X1_lineUp_71 N k11 k45 t0 z.1 x1 x2 x3 x4 z.2)) else (B_X1_lineUp_74 N k11 k45 t0 h x1 x2 x3 x4)
theorem mb_X1_lineUp_61 (N : Nat) (k11 : Hp → (Option Nat) → Int32 → Int32 → Option (Hp × Int32)) (k45 : Hp → (Option Nat) → Int32 → Int32 → Int32 → Option (Hp × Int32)) (t0 : Nat) (h : Hp) (x1 : Option Nat) (x2 : Int32) (x3 : Int32) (x4 : Int32) (y0 : Int32) (m11 : ∀ (h : Hp) (x1 : Option Nat) (x2 : Int32) (x3 : Int32), k11 h x1 x2 x3 = some (hz, rz) → Mo h hz) (m45 : ∀ (h : Hp) (x1 : Option Nat) (x2 : Int32) (x3 : Int32) (x4 : Int32), k45 h x1 x2 x3 x4 = some (hz, rz) → Mo h hz) (hJ : B_X1_lineUp_61 N k11 k45 t0 h x1 x2 x3 x4 y0 = some (hz, rz)) : Mo h hz := by
  unfold B_X1_lineUp_61 at hJ
  by_cases c8 : y0 = 0
  · have hJ := it_pos c8 hJ
    obtain ⟨⟨h9, r10⟩, e11, hJ⟩ := ob_some hJ
    exact (mo_X1_isReady N t0 h x4 x1 e11).tr (mb_X1_lineUp_71 N k11 k45 t0 _ _ _ _ _ _ m11 m45 hJ)
  · have hJ := it_neg c8 hJ
    exact mb_X1_lineUp_74 N k11 k45 t0 _ _ _ _ _ m11 m45 hJ
set_option maxRecDepth 100000 in
set_option maxHeartbeats 4000000 in
theorem sb_X1_lineUp_61 (C : Cx p s m args meth c cX1_lineUp 5 (some .boolean) RX1 D cs A h0.se) (hz2 : hz.nx ≤ h0.nx + mc ∧ hz.su ≤ h0.su + ms) (N : Nat) (k11 : Hp → (Option Nat) → Int32 → Int32 → Option (Hp × Int32)) (k45 : Hp → (Option Nat) → Int32 → Int32 → Int32 → Option (Hp × Int32)) (t0 : Nat) (m11 : ∀ (h : Hp) (x1 : Option Nat) (x2 : Int32) (x3 : Int32), k11 h x1 x2 x3 = some (hz, rz) → Mo h hz) (m45 : ∀ (h : Hp) (x1 : Option Nat) (x2 : Int32) (x3 : Int32) (x4 : Int32), k45 h x1 x2 x3 x4 = some (hz, rz) → Mo h hz) (i11 : ∀ (h : Hp) (x1 : Option Nat) (x2 : Int32) (x3 : Int32) (H : Heap) (locs : List Loc) (cells slots : Nat) (ls : Array Slot), k11 h x1 x2 x3 = some (hz, rz) → h.kd t0 = 4 → Wo D cs A s h0 h H locs cells slots → lv_has ls 5 [(0, .ref t0), (1, va_rf x1), (2, .int x2), (3, .int x3)] → W p l e { frames := 1, cells := mc, slots := ms, locals := 30 } s m args below meth c H locs cells slots (MQ below (Zi D cs A hz rz) args s mc ms A) (F0 m 11 ls [])) (i45 : ∀ (h : Hp) (x1 : Option Nat) (x2 : Int32) (x3 : Int32) (x4 : Int32) (H : Heap) (locs : List Loc) (cells slots : Nat) (ls : Array Slot), k45 h x1 x2 x3 x4 = some (hz, rz) → h.kd t0 = 4 → Wo D cs A s h0 h H locs cells slots → lv_has ls 5 [(0, .ref t0), (1, va_rf x1), (2, .int x2), (3, .int x3), (4, .int x4)] → W p l e { frames := 1, cells := mc, slots := ms, locals := 30 } s m args below meth c H locs cells slots (MQ below (Zi D cs A hz rz) args s mc ms A) (F0 m 45 ls [])) (h : Hp) (x1 : Option Nat) (x2 : Int32) (x3 : Int32) (x4 : Int32) (y0 : Int32) (hJ : B_X1_lineUp_61 N k11 k45 t0 h x1 x2 x3 x4 y0 = some (hz, rz)) (hk0 : h.kd t0 = 4) {H : Heap} {locs : List Loc} {cells slots : Nat} (w : Wo D cs A s h0 h H locs cells slots) {ls : Array Slot} (hl : lv_has ls 5 [(0, .ref t0), (1, va_rf x1), (2, .int x2), (3, .int x3), (4, .int x4)]) : W p l e { frames := 1, cells := mc, slots := ms, locals := 30 } s m args below meth c H locs cells slots (MQ below (Zi D cs A hz rz) args s mc ms A) (F0 m 61 ls [.int y0]) := by
  obtain ⟨hx, hb, hml, hown, hts, -⟩ := id C
  unfold B_X1_lineUp_61 at hJ
  refine lv_if_ne (tgt := 74) hx hb dX1_lineUp_61 (by decide) (fun c8 => ?_) (fun c8 => ?_)
  · have hJ := it_neg c8 hJ
    exact sb_X1_lineUp_74 C hz2 N k11 k45 t0 m11 m45 i11 i45 _ _ _ _ _ hJ hk0 w hl
  · have hJ := it_pos c8 hJ
    refine lv_aload_n hx hb dX1_lineUp_64 rfl (lv_at hl 0 rfl) ?_
    refine lv_iload hx hb dX1_lineUp_65 (lv_at hl 4 rfl) ?_
    refine jv_aload_n hx hb dX1_lineUp_67 rfl (lv_at hl 1 rfl) ?_
    obtain ⟨⟨h9, r10⟩, e11, hJ⟩ := ob_some hJ
    refine jc_Vi (As := [.int x4, va_rf x1]) C w (cc_X1_isReady N t0 h x4 x1 hk0 e11) (mo_X1_isReady N t0 h x4 x1 e11) (mb_X1_lineUp_71 N k11 k45 t0 _ _ _ _ _ _ m11 m45 hJ) hz2 hk0 (by decide) rfl (fs := fs4 h t0) rfl rfl ⟨tw_3_72, tw_3_69, tw_3_70, tw_3_71, tw_1_34⟩ cd_X1_isReady ⟨by decide, by decide⟩ hl.1 (by first | exact Nat.le_of_ble_eq_true rfl | simp [rf_cat, cat_i, cat_l, cat_r]) rfl dX1_lineUp_68 (fun H locs w1 => ?_)
    have hk12 := kd_keep w (mo_X1_isReady N t0 h x4 x1 e11) hk0 (by decide)
    have w := w1
    exact sb_X1_lineUp_71 C hz2 N k11 k45 t0 m11 m45 i11 i45 _ _ _ _ _ _ hJ hk12 w hl
def B_X1_lineUp_45 (N : Nat) (k11 : Hp → (Option Nat) → Int32 → Int32 → Option (Hp × Int32)) (k45 : Hp → (Option Nat) → Int32 → Int32 → Int32 → Option (Hp × Int32)) (t0 : Nat) (h : Hp) (x1 : Option Nat) (x2 : Int32) (x3 : Int32) (x4 : Int32) : Option (Hp × Int32) := if (h.fi 402 t0) ≤ x4 then (B_X1_lineUp_80 N k11 t0 h x1 x2 x3 x4) else ((J_X1_isDone N t0 h x4 x1).bind (fun z => B_X1_lineUp_61 N k11 k45 t0 z.1 x1 x2 x3 x4 z.2))
theorem mb_X1_lineUp_45 (N : Nat) (k11 : Hp → (Option Nat) → Int32 → Int32 → Option (Hp × Int32)) (k45 : Hp → (Option Nat) → Int32 → Int32 → Int32 → Option (Hp × Int32)) (t0 : Nat) (h : Hp) (x1 : Option Nat) (x2 : Int32) (x3 : Int32) (x4 : Int32) (m11 : ∀ (h : Hp) (x1 : Option Nat) (x2 : Int32) (x3 : Int32), k11 h x1 x2 x3 = some (hz, rz) → Mo h hz) (m45 : ∀ (h : Hp) (x1 : Option Nat) (x2 : Int32) (x3 : Int32) (x4 : Int32), k45 h x1 x2 x3 x4 = some (hz, rz) → Mo h hz) (hJ : B_X1_lineUp_45 N k11 k45 t0 h x1 x2 x3 x4 = some (hz, rz)) : Mo h hz := by
  unfold B_X1_lineUp_45 at hJ
  by_cases c13 : (h.fi 402 t0) ≤ x4
  · have hJ := it_pos c13 hJ
    exact mb_X1_lineUp_80 N k11 t0 _ _ _ _ _ m11 hJ
  · have hJ := it_neg c13 hJ
    obtain ⟨⟨h14, r15⟩, e16, hJ⟩ := ob_some hJ
    exact (mo_X1_isDone N t0 h x4 x1 e16).tr (mb_X1_lineUp_61 N k11 k45 t0 _ _ _ _ _ _ m11 m45 hJ)
set_option maxRecDepth 100000 in
set_option maxHeartbeats 4000000 in
theorem sb_X1_lineUp_45 (C : Cx p s m args meth c cX1_lineUp 5 (some .boolean) RX1 D cs A h0.se) (hz2 : hz.nx ≤ h0.nx + mc ∧ hz.su ≤ h0.su + ms) (N : Nat) (k11 : Hp → (Option Nat) → Int32 → Int32 → Option (Hp × Int32)) (k45 : Hp → (Option Nat) → Int32 → Int32 → Int32 → Option (Hp × Int32)) (t0 : Nat) (m11 : ∀ (h : Hp) (x1 : Option Nat) (x2 : Int32) (x3 : Int32), k11 h x1 x2 x3 = some (hz, rz) → Mo h hz) (m45 : ∀ (h : Hp) (x1 : Option Nat) (x2 : Int32) (x3 : Int32) (x4 : Int32), k45 h x1 x2 x3 x4 = some (hz, rz) → Mo h hz) (i11 : ∀ (h : Hp) (x1 : Option Nat) (x2 : Int32) (x3 : Int32) (H : Heap) (locs : List Loc) (cells slots : Nat) (ls : Array Slot), k11 h x1 x2 x3 = some (hz, rz) → h.kd t0 = 4 → Wo D cs A s h0 h H locs cells slots → lv_has ls 5 [(0, .ref t0), (1, va_rf x1), (2, .int x2), (3, .int x3)] → W p l e { frames := 1, cells := mc, slots := ms, locals := 30 } s m args below meth c H locs cells slots (MQ below (Zi D cs A hz rz) args s mc ms A) (F0 m 11 ls [])) (i45 : ∀ (h : Hp) (x1 : Option Nat) (x2 : Int32) (x3 : Int32) (x4 : Int32) (H : Heap) (locs : List Loc) (cells slots : Nat) (ls : Array Slot), k45 h x1 x2 x3 x4 = some (hz, rz) → h.kd t0 = 4 → Wo D cs A s h0 h H locs cells slots → lv_has ls 5 [(0, .ref t0), (1, va_rf x1), (2, .int x2), (3, .int x3), (4, .int x4)] → W p l e { frames := 1, cells := mc, slots := ms, locals := 30 } s m args below meth c H locs cells slots (MQ below (Zi D cs A hz rz) args s mc ms A) (F0 m 45 ls [])) (h : Hp) (x1 : Option Nat) (x2 : Int32) (x3 : Int32) (x4 : Int32) (hJ : B_X1_lineUp_45 N k11 k45 t0 h x1 x2 x3 x4 = some (hz, rz)) (hk0 : h.kd t0 = 4) {H : Heap} {locs : List Loc} {cells slots : Nat} (w : Wo D cs A s h0 h H locs cells slots) {ls : Array Slot} (hl : lv_has ls 5 [(0, .ref t0), (1, va_rf x1), (2, .int x2), (3, .int x3), (4, .int x4)]) : W p l e { frames := 1, cells := mc, slots := ms, locals := 30 } s m args below meth c H locs cells slots (MQ below (Zi D cs A hz rz) args s mc ms A) (F0 m 45 ls []) := by
  obtain ⟨hx, hb, hml, hown, hts, -⟩ := id C
  unfold B_X1_lineUp_45 at hJ
  refine lv_iload hx hb dX1_lineUp_45 (lv_at hl 4 rfl) ?_
  refine lv_aload_n hx hb dX1_lineUp_47 rfl (lv_at hl 0 rfl) ?_
  refine fg_402 C w hk0 tw_3_15 dX1_lineUp_48 ?_
  refine lv_icmp_ge (tgt := 80) hx hb dX1_lineUp_51 (by decide) (fun c13 => ?_) (fun c13 => ?_)
  · have hJ := it_pos c13 hJ
    exact sb_X1_lineUp_80 C hz2 N k11 t0 m11 i11 _ _ _ _ _ hJ hk0 w hl
  · have hJ := it_neg c13 hJ
    refine lv_aload_n hx hb dX1_lineUp_54 rfl (lv_at hl 0 rfl) ?_
    refine lv_iload hx hb dX1_lineUp_55 (lv_at hl 4 rfl) ?_
    refine jv_aload_n hx hb dX1_lineUp_57 rfl (lv_at hl 1 rfl) ?_
    obtain ⟨⟨h14, r15⟩, e16, hJ⟩ := ob_some hJ
    refine jc_Vi (As := [.int x4, va_rf x1]) C w (cc_X1_isDone N t0 h x4 x1 hk0 e16) (mo_X1_isDone N t0 h x4 x1 e16) (mb_X1_lineUp_61 N k11 k45 t0 _ _ _ _ _ _ m11 m45 hJ) hz2 hk0 (by decide) rfl (fs := fs4 h t0) rfl rfl ⟨tw_3_68, tw_3_65, tw_3_66, tw_3_67, tw_1_34⟩ cd_X1_isDone ⟨by decide, by decide⟩ hl.1 (by first | exact Nat.le_of_ble_eq_true rfl | simp [rf_cat, cat_i, cat_l, cat_r]) rfl dX1_lineUp_58 (fun H locs w1 => ?_)
    have hk17 := kd_keep w (mo_X1_isDone N t0 h x4 x1 e16) hk0 (by decide)
    have w := w1
    exact sb_X1_lineUp_61 C hz2 N k11 k45 t0 m11 m45 i11 i45 _ _ _ _ _ _ hJ hk17 w hl
def L_X1_lineUp_45 (N : Nat) (k11 : Hp → (Option Nat) → Int32 → Int32 → Option (Hp × Int32)) (t0 : Nat) : Nat → Hp → (Option Nat) → Int32 → Int32 → Int32 → Option (Hp × Int32)
  | 0 => fun _ _ _ _ _ => none
  | n + 1 => fun h x1 x2 x3 x4 => B_X1_lineUp_45 N k11 (L_X1_lineUp_45 N k11 t0 n) t0 h x1 x2 x3 x4
theorem ml_X1_lineUp_45 (N : Nat) (k11 : Hp → (Option Nat) → Int32 → Int32 → Option (Hp × Int32)) (t0 : Nat) (m11 : ∀ (h : Hp) (x1 : Option Nat) (x2 : Int32) (x3 : Int32), k11 h x1 x2 x3 = some (hz, rz) → Mo h hz) : ∀ (n : Nat) (h : Hp) (x1 : Option Nat) (x2 : Int32) (x3 : Int32) (x4 : Int32), L_X1_lineUp_45 N k11 t0 n h x1 x2 x3 x4 = some (hz, rz) → Mo h hz := by
  intro n
  induction n with
  | zero => intro h x1 x2 x3 x4 hJ; cases hJ
  | succ n ih => intro h x1 x2 x3 x4 hJ; exact mb_X1_lineUp_45 N k11 (L_X1_lineUp_45 N k11 t0 n) t0 h x1 x2 x3 x4 m11 ih hJ
theorem sl_X1_lineUp_45 (C : Cx p s m args meth c cX1_lineUp 5 (some .boolean) RX1 D cs A h0.se) (hz2 : hz.nx ≤ h0.nx + mc ∧ hz.su ≤ h0.su + ms) (N : Nat) (k11 : Hp → (Option Nat) → Int32 → Int32 → Option (Hp × Int32)) (t0 : Nat) (m11 : ∀ (h : Hp) (x1 : Option Nat) (x2 : Int32) (x3 : Int32), k11 h x1 x2 x3 = some (hz, rz) → Mo h hz) (i11 : ∀ (h : Hp) (x1 : Option Nat) (x2 : Int32) (x3 : Int32) (H : Heap) (locs : List Loc) (cells slots : Nat) (ls : Array Slot), k11 h x1 x2 x3 = some (hz, rz) → h.kd t0 = 4 → Wo D cs A s h0 h H locs cells slots → lv_has ls 5 [(0, .ref t0), (1, va_rf x1), (2, .int x2), (3, .int x3)] → W p l e { frames := 1, cells := mc, slots := ms, locals := 30 } s m args below meth c H locs cells slots (MQ below (Zi D cs A hz rz) args s mc ms A) (F0 m 11 ls [])) : ∀ n : Nat, ∀ (h : Hp) (x1 : Option Nat) (x2 : Int32) (x3 : Int32) (x4 : Int32) (H : Heap) (locs : List Loc) (cells slots : Nat) (ls : Array Slot), L_X1_lineUp_45 N k11 t0 n h x1 x2 x3 x4 = some (hz, rz) → h.kd t0 = 4 → Wo D cs A s h0 h H locs cells slots → lv_has ls 5 [(0, .ref t0), (1, va_rf x1), (2, .int x2), (3, .int x3), (4, .int x4)] → W p l e { frames := 1, cells := mc, slots := ms, locals := 30 } s m args below meth c H locs cells slots (MQ below (Zi D cs A hz rz) args s mc ms A) (F0 m 45 ls []) := by
  intro n
  induction n with
  | zero => intro h x1 x2 x3 x4 H locs cells slots ls hJ; cases hJ
  | succ n ih =>
    intro h x1 x2 x3 x4 H locs cells slots ls hJ hk0 w hl
    exact sb_X1_lineUp_45 C hz2 N k11 (L_X1_lineUp_45 N k11 t0 n) t0 m11 (ml_X1_lineUp_45 N k11 t0 m11 n) i11 ih h x1 x2 x3 x4 hJ hk0 w hl
def B_X1_lineUp_42 (N : Nat) (k11 : Hp → (Option Nat) → Int32 → Int32 → Option (Hp × Int32)) (t0 : Nat) (h : Hp) (x1 : Option Nat) (x2 : Int32) (x3 : Int32) : Option (Hp × Int32) := L_X1_lineUp_45 N k11 t0 N h x1 x2 x3 x2
theorem mb_X1_lineUp_42 (N : Nat) (k11 : Hp → (Option Nat) → Int32 → Int32 → Option (Hp × Int32)) (t0 : Nat) (h : Hp) (x1 : Option Nat) (x2 : Int32) (x3 : Int32) (m11 : ∀ (h : Hp) (x1 : Option Nat) (x2 : Int32) (x3 : Int32), k11 h x1 x2 x3 = some (hz, rz) → Mo h hz) (hJ : B_X1_lineUp_42 N k11 t0 h x1 x2 x3 = some (hz, rz)) : Mo h hz := by
  unfold B_X1_lineUp_42 at hJ
  exact ml_X1_lineUp_45 N k11 t0 m11 N _ _ _ _ _ hJ
set_option maxRecDepth 100000 in
set_option maxHeartbeats 4000000 in
theorem sb_X1_lineUp_42 (C : Cx p s m args meth c cX1_lineUp 5 (some .boolean) RX1 D cs A h0.se) (hz2 : hz.nx ≤ h0.nx + mc ∧ hz.su ≤ h0.su + ms) (N : Nat) (k11 : Hp → (Option Nat) → Int32 → Int32 → Option (Hp × Int32)) (t0 : Nat) (m11 : ∀ (h : Hp) (x1 : Option Nat) (x2 : Int32) (x3 : Int32), k11 h x1 x2 x3 = some (hz, rz) → Mo h hz) (i11 : ∀ (h : Hp) (x1 : Option Nat) (x2 : Int32) (x3 : Int32) (H : Heap) (locs : List Loc) (cells slots : Nat) (ls : Array Slot), k11 h x1 x2 x3 = some (hz, rz) → h.kd t0 = 4 → Wo D cs A s h0 h H locs cells slots → lv_has ls 5 [(0, .ref t0), (1, va_rf x1), (2, .int x2), (3, .int x3)] → W p l e { frames := 1, cells := mc, slots := ms, locals := 30 } s m args below meth c H locs cells slots (MQ below (Zi D cs A hz rz) args s mc ms A) (F0 m 11 ls [])) (h : Hp) (x1 : Option Nat) (x2 : Int32) (x3 : Int32) (hJ : B_X1_lineUp_42 N k11 t0 h x1 x2 x3 = some (hz, rz)) (hk0 : h.kd t0 = 4) {H : Heap} {locs : List Loc} {cells slots : Nat} (w : Wo D cs A s h0 h H locs cells slots) {ls : Array Slot} (hl : lv_has ls 5 [(0, .ref t0), (1, va_rf x1), (2, .int x2), (3, .int x3)]) : W p l e { frames := 1, cells := mc, slots := ms, locals := 30 } s m args below meth c H locs cells slots (MQ below (Zi D cs A hz rz) args s mc ms A) (F0 m 42 ls []) := by
  obtain ⟨hx, hb, hml, hown, hts, -⟩ := id C
  unfold B_X1_lineUp_42 at hJ
  refine lv_iload_n hx hb dX1_lineUp_42 rfl (lv_at hl 2 rfl) ?_
  refine lv_istore (i := 4) (lv' := [(4, .int x2), (0, .ref t0), (1, va_rf x1), (2, .int x2), (3, .int x3)]) hx hb dX1_lineUp_43 hl (by decide) rfl (fun ls hl => ?_)
  exact sl_X1_lineUp_45 C hz2 N k11 t0 m11 i11 N _ _ _ _ _ _ _ _ _ _ hJ hk0 w (lv_sub (l' := [(0, .ref t0), (1, va_rf x1), (2, .int x2), (3, .int x3), (4, .int x2)]) hl [1, 2, 3, 4, 0] rfl)
def B_X1_lineUp_33 (N : Nat) (k11 : Hp → (Option Nat) → Int32 → Int32 → Option (Hp × Int32)) (k19 : Hp → (Option Nat) → Int32 → Int32 → Option (Hp × Int32)) (t0 : Nat) (h : Hp) (x1 : Option Nat) (x2 : Int32) (x3 : Int32) (y0 : Int32) : Option (Hp × Int32) := if y0 = 0 then (B_X1_lineUp_42 N k11 t0 h x1 x2 x3) else (k19 h x1 (x2 + (1 : Int32)) x3)
theorem mb_X1_lineUp_33 (N : Nat) (k11 : Hp → (Option Nat) → Int32 → Int32 → Option (Hp × Int32)) (k19 : Hp → (Option Nat) → Int32 → Int32 → Option (Hp × Int32)) (t0 : Nat) (h : Hp) (x1 : Option Nat) (x2 : Int32) (x3 : Int32) (y0 : Int32) (m11 : ∀ (h : Hp) (x1 : Option Nat) (x2 : Int32) (x3 : Int32), k11 h x1 x2 x3 = some (hz, rz) → Mo h hz) (m19 : ∀ (h : Hp) (x1 : Option Nat) (x2 : Int32) (x3 : Int32), k19 h x1 x2 x3 = some (hz, rz) → Mo h hz) (hJ : B_X1_lineUp_33 N k11 k19 t0 h x1 x2 x3 y0 = some (hz, rz)) : Mo h hz := by
  unfold B_X1_lineUp_33 at hJ
  by_cases c18 : y0 = 0
  · have hJ := it_pos c18 hJ
    exact mb_X1_lineUp_42 N k11 t0 _ _ _ _ m11 hJ
  · have hJ := it_neg c18 hJ
    exact m19 _ _ _ _ hJ
set_option maxRecDepth 100000 in
set_option maxHeartbeats 4000000 in
theorem sb_X1_lineUp_33 (C : Cx p s m args meth c cX1_lineUp 5 (some .boolean) RX1 D cs A h0.se) (hz2 : hz.nx ≤ h0.nx + mc ∧ hz.su ≤ h0.su + ms) (N : Nat) (k11 : Hp → (Option Nat) → Int32 → Int32 → Option (Hp × Int32)) (k19 : Hp → (Option Nat) → Int32 → Int32 → Option (Hp × Int32)) (t0 : Nat) (m11 : ∀ (h : Hp) (x1 : Option Nat) (x2 : Int32) (x3 : Int32), k11 h x1 x2 x3 = some (hz, rz) → Mo h hz) (m19 : ∀ (h : Hp) (x1 : Option Nat) (x2 : Int32) (x3 : Int32), k19 h x1 x2 x3 = some (hz, rz) → Mo h hz) (i11 : ∀ (h : Hp) (x1 : Option Nat) (x2 : Int32) (x3 : Int32) (H : Heap) (locs : List Loc) (cells slots : Nat) (ls : Array Slot), k11 h x1 x2 x3 = some (hz, rz) → h.kd t0 = 4 → Wo D cs A s h0 h H locs cells slots → lv_has ls 5 [(0, .ref t0), (1, va_rf x1), (2, .int x2), (3, .int x3)] → W p l e { frames := 1, cells := mc, slots := ms, locals := 30 } s m args below meth c H locs cells slots (MQ below (Zi D cs A hz rz) args s mc ms A) (F0 m 11 ls [])) (i19 : ∀ (h : Hp) (x1 : Option Nat) (x2 : Int32) (x3 : Int32) (H : Heap) (locs : List Loc) (cells slots : Nat) (ls : Array Slot), k19 h x1 x2 x3 = some (hz, rz) → h.kd t0 = 4 → Wo D cs A s h0 h H locs cells slots → lv_has ls 5 [(0, .ref t0), (1, va_rf x1), (2, .int x2), (3, .int x3)] → W p l e { frames := 1, cells := mc, slots := ms, locals := 30 } s m args below meth c H locs cells slots (MQ below (Zi D cs A hz rz) args s mc ms A) (F0 m 19 ls [])) (h : Hp) (x1 : Option Nat) (x2 : Int32) (x3 : Int32) (y0 : Int32) (hJ : B_X1_lineUp_33 N k11 k19 t0 h x1 x2 x3 y0 = some (hz, rz)) (hk0 : h.kd t0 = 4) {H : Heap} {locs : List Loc} {cells slots : Nat} (w : Wo D cs A s h0 h H locs cells slots) {ls : Array Slot} (hl : lv_has ls 5 [(0, .ref t0), (1, va_rf x1), (2, .int x2), (3, .int x3)]) : W p l e { frames := 1, cells := mc, slots := ms, locals := 30 } s m args below meth c H locs cells slots (MQ below (Zi D cs A hz rz) args s mc ms A) (F0 m 33 ls [.int y0]) := by
  obtain ⟨hx, hb, hml, hown, hts, -⟩ := id C
  unfold B_X1_lineUp_33 at hJ
  refine lv_if_eq (tgt := 42) hx hb dX1_lineUp_33 (by decide) (fun c18 => ?_) (fun c18 => ?_)
  · have hJ := it_pos c18 hJ
    exact sb_X1_lineUp_42 C hz2 N k11 t0 m11 i11 _ _ _ _ hJ hk0 w hl
  · have hJ := it_neg c18 hJ
    refine lv_iinc (v := x2 + (1 : Int32)) (lv' := [(2, .int (x2 + (1 : Int32))), (0, .ref t0), (1, va_rf x1), (3, .int x3)]) hx hb dX1_lineUp_36 hl (k := 2) rfl rfl (by decide) (by simp [List.filter, rf_cat, cat_i, cat_l, cat_r]) (fun ls hl => ?_)
    refine lv_goto (tgt := 19) hx hb dX1_lineUp_39 (by decide) ?_
    exact i19 _ _ _ _ _ _ _ _ _ hJ hk0 w (lv_sub (l' := [(0, .ref t0), (1, va_rf x1), (2, .int (x2 + (1 : Int32))), (3, .int x3)]) hl [1, 2, 0, 3] rfl)
def B_X1_lineUp_19 (N : Nat) (k11 : Hp → (Option Nat) → Int32 → Int32 → Option (Hp × Int32)) (k19 : Hp → (Option Nat) → Int32 → Int32 → Option (Hp × Int32)) (t0 : Nat) (h : Hp) (x1 : Option Nat) (x2 : Int32) (x3 : Int32) : Option (Hp × Int32) := if (h.fi 402 t0) ≤ x2 then (B_X1_lineUp_42 N k11 t0 h x1 x2 x3) else ((J_X1_isDone N t0 h x2 x1).bind (fun z => B_X1_lineUp_33 N k11 k19 t0 z.1 x1 x2 x3 z.2))
theorem mb_X1_lineUp_19 (N : Nat) (k11 : Hp → (Option Nat) → Int32 → Int32 → Option (Hp × Int32)) (k19 : Hp → (Option Nat) → Int32 → Int32 → Option (Hp × Int32)) (t0 : Nat) (h : Hp) (x1 : Option Nat) (x2 : Int32) (x3 : Int32) (m11 : ∀ (h : Hp) (x1 : Option Nat) (x2 : Int32) (x3 : Int32), k11 h x1 x2 x3 = some (hz, rz) → Mo h hz) (m19 : ∀ (h : Hp) (x1 : Option Nat) (x2 : Int32) (x3 : Int32), k19 h x1 x2 x3 = some (hz, rz) → Mo h hz) (hJ : B_X1_lineUp_19 N k11 k19 t0 h x1 x2 x3 = some (hz, rz)) : Mo h hz := by
  unfold B_X1_lineUp_19 at hJ
  by_cases c19 : (h.fi 402 t0) ≤ x2
  · have hJ := it_pos c19 hJ
    exact mb_X1_lineUp_42 N k11 t0 _ _ _ _ m11 hJ
  · have hJ := it_neg c19 hJ
    obtain ⟨⟨h20, r21⟩, e22, hJ⟩ := ob_some hJ
    exact (mo_X1_isDone N t0 h x2 x1 e22).tr (mb_X1_lineUp_33 N k11 k19 t0 _ _ _ _ _ m11 m19 hJ)
set_option maxRecDepth 100000 in
set_option maxHeartbeats 4000000 in
theorem sb_X1_lineUp_19 (C : Cx p s m args meth c cX1_lineUp 5 (some .boolean) RX1 D cs A h0.se) (hz2 : hz.nx ≤ h0.nx + mc ∧ hz.su ≤ h0.su + ms) (N : Nat) (k11 : Hp → (Option Nat) → Int32 → Int32 → Option (Hp × Int32)) (k19 : Hp → (Option Nat) → Int32 → Int32 → Option (Hp × Int32)) (t0 : Nat) (m11 : ∀ (h : Hp) (x1 : Option Nat) (x2 : Int32) (x3 : Int32), k11 h x1 x2 x3 = some (hz, rz) → Mo h hz) (m19 : ∀ (h : Hp) (x1 : Option Nat) (x2 : Int32) (x3 : Int32), k19 h x1 x2 x3 = some (hz, rz) → Mo h hz) (i11 : ∀ (h : Hp) (x1 : Option Nat) (x2 : Int32) (x3 : Int32) (H : Heap) (locs : List Loc) (cells slots : Nat) (ls : Array Slot), k11 h x1 x2 x3 = some (hz, rz) → h.kd t0 = 4 → Wo D cs A s h0 h H locs cells slots → lv_has ls 5 [(0, .ref t0), (1, va_rf x1), (2, .int x2), (3, .int x3)] → W p l e { frames := 1, cells := mc, slots := ms, locals := 30 } s m args below meth c H locs cells slots (MQ below (Zi D cs A hz rz) args s mc ms A) (F0 m 11 ls [])) (i19 : ∀ (h : Hp) (x1 : Option Nat) (x2 : Int32) (x3 : Int32) (H : Heap) (locs : List Loc) (cells slots : Nat) (ls : Array Slot), k19 h x1 x2 x3 = some (hz, rz) → h.kd t0 = 4 → Wo D cs A s h0 h H locs cells slots → lv_has ls 5 [(0, .ref t0), (1, va_rf x1), (2, .int x2), (3, .int x3)] → W p l e { frames := 1, cells := mc, slots := ms, locals := 30 } s m args below meth c H locs cells slots (MQ below (Zi D cs A hz rz) args s mc ms A) (F0 m 19 ls [])) (h : Hp) (x1 : Option Nat) (x2 : Int32) (x3 : Int32) (hJ : B_X1_lineUp_19 N k11 k19 t0 h x1 x2 x3 = some (hz, rz)) (hk0 : h.kd t0 = 4) {H : Heap} {locs : List Loc} {cells slots : Nat} (w : Wo D cs A s h0 h H locs cells slots) {ls : Array Slot} (hl : lv_has ls 5 [(0, .ref t0), (1, va_rf x1), (2, .int x2), (3, .int x3)]) : W p l e { frames := 1, cells := mc, slots := ms, locals := 30 } s m args below meth c H locs cells slots (MQ below (Zi D cs A hz rz) args s mc ms A) (F0 m 19 ls []) := by
  obtain ⟨hx, hb, hml, hown, hts, -⟩ := id C
  unfold B_X1_lineUp_19 at hJ
  refine lv_iload_n hx hb dX1_lineUp_19 rfl (lv_at hl 2 rfl) ?_
  refine lv_aload_n hx hb dX1_lineUp_20 rfl (lv_at hl 0 rfl) ?_
  refine fg_402 C w hk0 tw_3_15 dX1_lineUp_21 ?_
  refine lv_icmp_ge (tgt := 42) hx hb dX1_lineUp_24 (by decide) (fun c19 => ?_) (fun c19 => ?_)
  · have hJ := it_pos c19 hJ
    exact sb_X1_lineUp_42 C hz2 N k11 t0 m11 i11 _ _ _ _ hJ hk0 w hl
  · have hJ := it_neg c19 hJ
    refine lv_aload_n hx hb dX1_lineUp_27 rfl (lv_at hl 0 rfl) ?_
    refine lv_iload_n hx hb dX1_lineUp_28 rfl (lv_at hl 2 rfl) ?_
    refine jv_aload_n hx hb dX1_lineUp_29 rfl (lv_at hl 1 rfl) ?_
    obtain ⟨⟨h20, r21⟩, e22, hJ⟩ := ob_some hJ
    refine jc_Vi (As := [.int x2, va_rf x1]) C w (cc_X1_isDone N t0 h x2 x1 hk0 e22) (mo_X1_isDone N t0 h x2 x1 e22) (mb_X1_lineUp_33 N k11 k19 t0 _ _ _ _ _ m11 m19 hJ) hz2 hk0 (by decide) rfl (fs := fs4 h t0) rfl rfl ⟨tw_3_68, tw_3_65, tw_3_66, tw_3_67, tw_1_34⟩ cd_X1_isDone ⟨by decide, by decide⟩ hl.1 (by first | exact Nat.le_of_ble_eq_true rfl | simp [rf_cat, cat_i, cat_l, cat_r]) rfl dX1_lineUp_30 (fun H locs w1 => ?_)
    have hk23 := kd_keep w (mo_X1_isDone N t0 h x2 x1 e22) hk0 (by decide)
    have w := w1
    exact sb_X1_lineUp_33 C hz2 N k11 k19 t0 m11 m19 i11 i19 _ _ _ _ _ hJ hk23 w hl
def L_X1_lineUp_19 (N : Nat) (k11 : Hp → (Option Nat) → Int32 → Int32 → Option (Hp × Int32)) (t0 : Nat) : Nat → Hp → (Option Nat) → Int32 → Int32 → Option (Hp × Int32)
  | 0 => fun _ _ _ _ => none
  | n + 1 => fun h x1 x2 x3 => B_X1_lineUp_19 N k11 (L_X1_lineUp_19 N k11 t0 n) t0 h x1 x2 x3
theorem ml_X1_lineUp_19 (N : Nat) (k11 : Hp → (Option Nat) → Int32 → Int32 → Option (Hp × Int32)) (t0 : Nat) (m11 : ∀ (h : Hp) (x1 : Option Nat) (x2 : Int32) (x3 : Int32), k11 h x1 x2 x3 = some (hz, rz) → Mo h hz) : ∀ (n : Nat) (h : Hp) (x1 : Option Nat) (x2 : Int32) (x3 : Int32), L_X1_lineUp_19 N k11 t0 n h x1 x2 x3 = some (hz, rz) → Mo h hz := by
  intro n
  induction n with
  | zero => intro h x1 x2 x3 hJ; cases hJ
  | succ n ih => intro h x1 x2 x3 hJ; exact mb_X1_lineUp_19 N k11 (L_X1_lineUp_19 N k11 t0 n) t0 h x1 x2 x3 m11 ih hJ
theorem sl_X1_lineUp_19 (C : Cx p s m args meth c cX1_lineUp 5 (some .boolean) RX1 D cs A h0.se) (hz2 : hz.nx ≤ h0.nx + mc ∧ hz.su ≤ h0.su + ms) (N : Nat) (k11 : Hp → (Option Nat) → Int32 → Int32 → Option (Hp × Int32)) (t0 : Nat) (m11 : ∀ (h : Hp) (x1 : Option Nat) (x2 : Int32) (x3 : Int32), k11 h x1 x2 x3 = some (hz, rz) → Mo h hz) (i11 : ∀ (h : Hp) (x1 : Option Nat) (x2 : Int32) (x3 : Int32) (H : Heap) (locs : List Loc) (cells slots : Nat) (ls : Array Slot), k11 h x1 x2 x3 = some (hz, rz) → h.kd t0 = 4 → Wo D cs A s h0 h H locs cells slots → lv_has ls 5 [(0, .ref t0), (1, va_rf x1), (2, .int x2), (3, .int x3)] → W p l e { frames := 1, cells := mc, slots := ms, locals := 30 } s m args below meth c H locs cells slots (MQ below (Zi D cs A hz rz) args s mc ms A) (F0 m 11 ls [])) : ∀ n : Nat, ∀ (h : Hp) (x1 : Option Nat) (x2 : Int32) (x3 : Int32) (H : Heap) (locs : List Loc) (cells slots : Nat) (ls : Array Slot), L_X1_lineUp_19 N k11 t0 n h x1 x2 x3 = some (hz, rz) → h.kd t0 = 4 → Wo D cs A s h0 h H locs cells slots → lv_has ls 5 [(0, .ref t0), (1, va_rf x1), (2, .int x2), (3, .int x3)] → W p l e { frames := 1, cells := mc, slots := ms, locals := 30 } s m args below meth c H locs cells slots (MQ below (Zi D cs A hz rz) args s mc ms A) (F0 m 19 ls []) := by
  intro n
  induction n with
  | zero => intro h x1 x2 x3 H locs cells slots ls hJ; cases hJ
  | succ n ih =>
    intro h x1 x2 x3 H locs cells slots ls hJ hk0 w hl
    exact sb_X1_lineUp_19 C hz2 N k11 (L_X1_lineUp_19 N k11 t0 n) t0 m11 (ml_X1_lineUp_19 N k11 t0 m11 n) i11 ih h x1 x2 x3 hJ hk0 w hl
def B_X1_lineUp_11 (N : Nat) (k11 : Hp → (Option Nat) → Int32 → Int32 → Option (Hp × Int32)) (t0 : Nat) (h : Hp) (x1 : Option Nat) (x2 : Int32) (x3 : Int32) : Option (Hp × Int32) := if (h.fi 402 t0) ≤ x3 then (some (h, (1 : Int32))) else (L_X1_lineUp_19 N k11 t0 N h x1 x2 x3)
theorem mb_X1_lineUp_11 (N : Nat) (k11 : Hp → (Option Nat) → Int32 → Int32 → Option (Hp × Int32)) (t0 : Nat) (h : Hp) (x1 : Option Nat) (x2 : Int32) (x3 : Int32) (m11 : ∀ (h : Hp) (x1 : Option Nat) (x2 : Int32) (x3 : Int32), k11 h x1 x2 x3 = some (hz, rz) → Mo h hz) (hJ : B_X1_lineUp_11 N k11 t0 h x1 x2 x3 = some (hz, rz)) : Mo h hz := by
  unfold B_X1_lineUp_11 at hJ
  by_cases c24 : (h.fi 402 t0) ≤ x3
  · have hJ := it_pos c24 hJ
    obtain ⟨rfl, -⟩ := rs2 hJ
    exact ⟨fun _ _ => rfl, Nat.le_refl _, Nat.le_refl _, rfl, fun _ _ => rfl⟩
  · have hJ := it_neg c24 hJ
    exact ml_X1_lineUp_19 N k11 t0 m11 N _ _ _ _ hJ
set_option maxRecDepth 100000 in
set_option maxHeartbeats 4000000 in
theorem sb_X1_lineUp_11 (C : Cx p s m args meth c cX1_lineUp 5 (some .boolean) RX1 D cs A h0.se) (hz2 : hz.nx ≤ h0.nx + mc ∧ hz.su ≤ h0.su + ms) (N : Nat) (k11 : Hp → (Option Nat) → Int32 → Int32 → Option (Hp × Int32)) (t0 : Nat) (m11 : ∀ (h : Hp) (x1 : Option Nat) (x2 : Int32) (x3 : Int32), k11 h x1 x2 x3 = some (hz, rz) → Mo h hz) (i11 : ∀ (h : Hp) (x1 : Option Nat) (x2 : Int32) (x3 : Int32) (H : Heap) (locs : List Loc) (cells slots : Nat) (ls : Array Slot), k11 h x1 x2 x3 = some (hz, rz) → h.kd t0 = 4 → Wo D cs A s h0 h H locs cells slots → lv_has ls 5 [(0, .ref t0), (1, va_rf x1), (2, .int x2), (3, .int x3)] → W p l e { frames := 1, cells := mc, slots := ms, locals := 30 } s m args below meth c H locs cells slots (MQ below (Zi D cs A hz rz) args s mc ms A) (F0 m 11 ls [])) (h : Hp) (x1 : Option Nat) (x2 : Int32) (x3 : Int32) (hJ : B_X1_lineUp_11 N k11 t0 h x1 x2 x3 = some (hz, rz)) (hk0 : h.kd t0 = 4) {H : Heap} {locs : List Loc} {cells slots : Nat} (w : Wo D cs A s h0 h H locs cells slots) {ls : Array Slot} (hl : lv_has ls 5 [(0, .ref t0), (1, va_rf x1), (2, .int x2), (3, .int x3)]) : W p l e { frames := 1, cells := mc, slots := ms, locals := 30 } s m args below meth c H locs cells slots (MQ below (Zi D cs A hz rz) args s mc ms A) (F0 m 11 ls []) := by
  obtain ⟨hx, hb, hml, hown, hts, -⟩ := id C
  unfold B_X1_lineUp_11 at hJ
  refine lv_iload_n hx hb dX1_lineUp_11 rfl (lv_at hl 3 rfl) ?_
  refine lv_aload_n hx hb dX1_lineUp_12 rfl (lv_at hl 0 rfl) ?_
  refine fg_402 C w hk0 tw_3_15 dX1_lineUp_13 ?_
  refine lv_icmp_ge (tgt := 122) hx hb dX1_lineUp_16 (by decide) (fun c24 => ?_) (fun c24 => ?_)
  · have hJ := it_pos c24 hJ
    refine lv_iconst (v := (1 : Int32)) hx hb dX1_lineUp_122 (by decide) ?_
    obtain ⟨rfl, rfl⟩ := rs2 hJ
    exact jr_zret C w (Or.inr rfl) hz2 dX1_lineUp_123
  · have hJ := it_neg c24 hJ
    exact sl_X1_lineUp_19 C hz2 N k11 t0 m11 i11 N _ _ _ _ _ _ _ _ _ hJ hk0 w hl
def L_X1_lineUp_11 (N : Nat) (t0 : Nat) : Nat → Hp → (Option Nat) → Int32 → Int32 → Option (Hp × Int32)
  | 0 => fun _ _ _ _ => none
  | n + 1 => fun h x1 x2 x3 => B_X1_lineUp_11 N (L_X1_lineUp_11 N t0 n) t0 h x1 x2 x3
theorem ml_X1_lineUp_11 (N : Nat) (t0 : Nat) : ∀ (n : Nat) (h : Hp) (x1 : Option Nat) (x2 : Int32) (x3 : Int32), L_X1_lineUp_11 N t0 n h x1 x2 x3 = some (hz, rz) → Mo h hz := by
  intro n
  induction n with
  | zero => intro h x1 x2 x3 hJ; cases hJ
  | succ n ih => intro h x1 x2 x3 hJ; exact mb_X1_lineUp_11 N (L_X1_lineUp_11 N t0 n) t0 h x1 x2 x3 ih hJ
theorem sl_X1_lineUp_11 (C : Cx p s m args meth c cX1_lineUp 5 (some .boolean) RX1 D cs A h0.se) (hz2 : hz.nx ≤ h0.nx + mc ∧ hz.su ≤ h0.su + ms) (N : Nat) (t0 : Nat) : ∀ n : Nat, ∀ (h : Hp) (x1 : Option Nat) (x2 : Int32) (x3 : Int32) (H : Heap) (locs : List Loc) (cells slots : Nat) (ls : Array Slot), L_X1_lineUp_11 N t0 n h x1 x2 x3 = some (hz, rz) → h.kd t0 = 4 → Wo D cs A s h0 h H locs cells slots → lv_has ls 5 [(0, .ref t0), (1, va_rf x1), (2, .int x2), (3, .int x3)] → W p l e { frames := 1, cells := mc, slots := ms, locals := 30 } s m args below meth c H locs cells slots (MQ below (Zi D cs A hz rz) args s mc ms A) (F0 m 11 ls []) := by
  intro n
  induction n with
  | zero => intro h x1 x2 x3 H locs cells slots ls hJ; cases hJ
  | succ n ih =>
    intro h x1 x2 x3 H locs cells slots ls hJ hk0 w hl
    exact sb_X1_lineUp_11 C hz2 N (L_X1_lineUp_11 N t0 n) t0 (ml_X1_lineUp_11 N t0 n) ih h x1 x2 x3 hJ hk0 w hl
def B_X1_lineUp_6 (N : Nat) (t0 : Nat) (h : Hp) (y0 : Option Nat) : Option (Hp × Int32) := L_X1_lineUp_11 N t0 N h y0 (0 : Int32) (0 : Int32)
theorem mb_X1_lineUp_6 (N : Nat) (t0 : Nat) (h : Hp) (y0 : Option Nat) (hJ : B_X1_lineUp_6 N t0 h y0 = some (hz, rz)) : Mo h hz := by
  unfold B_X1_lineUp_6 at hJ
  exact ml_X1_lineUp_11 N t0 N _ _ _ _ hJ
set_option maxRecDepth 100000 in
set_option maxHeartbeats 4000000 in
theorem sb_X1_lineUp_6 (C : Cx p s m args meth c cX1_lineUp 5 (some .boolean) RX1 D cs A h0.se) (hz2 : hz.nx ≤ h0.nx + mc ∧ hz.su ≤ h0.su + ms) (N : Nat) (t0 : Nat) (h : Hp) (y0 : Option Nat) (hJ : B_X1_lineUp_6 N t0 h y0 = some (hz, rz)) (hk0 : h.kd t0 = 4) {H : Heap} {locs : List Loc} {cells slots : Nat} (w : Wo D cs A s h0 h H locs cells slots) {ls : Array Slot} (hl : lv_has ls 5 [(0, .ref t0)]) : W p l e { frames := 1, cells := mc, slots := ms, locals := 30 } s m args below meth c H locs cells slots (MQ below (Zi D cs A hz rz) args s mc ms A) (F0 m 6 ls [va_rf y0]) := by
  obtain ⟨hx, hb, hml, hown, hts, -⟩ := id C
  unfold B_X1_lineUp_6 at hJ
  refine jv_astore_n (i := 1) (lv' := [(1, va_rf y0), (0, .ref t0)]) hx hb dX1_lineUp_6 rfl hl (by decide) rfl (fun ls hl => ?_)
  refine lv_iconst (v := (0 : Int32)) hx hb dX1_lineUp_7 (by decide) ?_
  refine lv_istore_n (i := 2) (lv' := [(2, .int (0 : Int32)), (1, va_rf y0), (0, .ref t0)]) hx hb dX1_lineUp_8 rfl hl (by decide) (by simp [List.filter, rf_cat, cat_i, cat_l, cat_r]) (fun ls hl => ?_)
  refine lv_iconst (v := (0 : Int32)) hx hb dX1_lineUp_9 (by decide) ?_
  refine lv_istore_n (i := 3) (lv' := [(3, .int (0 : Int32)), (2, .int (0 : Int32)), (1, va_rf y0), (0, .ref t0)]) hx hb dX1_lineUp_10 rfl hl (by decide) rfl (fun ls hl => ?_)
  exact sl_X1_lineUp_11 C hz2 N t0 N _ _ _ _ _ _ _ _ _ hJ hk0 w (lv_sub (l' := [(0, .ref t0), (1, va_rf y0), (2, .int (0 : Int32)), (3, .int (0 : Int32))]) hl [3, 2, 1, 0] rfl)
def B_X1_lineUp_0 (N : Nat) (t0 : Nat) (h : Hp) : Option (Hp × Int32) := ck (¬ (h.fi 403 t0) < 0 ∧ (h.fi 403 t0).toNatClampNeg ≤ 67108864) (B_X1_lineUp_6 N t0 (h.new 21 ((h.fi 403 t0).toNatClampNeg) ((h.fi 403 t0).toNatClampNeg)) (some h.nx))
theorem mb_X1_lineUp_0 (N : Nat) (t0 : Nat) (h : Hp) (hJ : B_X1_lineUp_0 N t0 h = some (hz, rz)) : Mo h hz := by
  unfold B_X1_lineUp_0 at hJ
  obtain ⟨-, hJ⟩ := ck_some hJ
  exact (Mo.new h _ _ _).tr (mb_X1_lineUp_6 N t0 _ _ hJ)
set_option maxRecDepth 100000 in
set_option maxHeartbeats 4000000 in
theorem sb_X1_lineUp_0 (C : Cx p s m args meth c cX1_lineUp 5 (some .boolean) RX1 D cs A h0.se) (hz2 : hz.nx ≤ h0.nx + mc ∧ hz.su ≤ h0.su + ms) (N : Nat) (t0 : Nat) (h : Hp) (hJ : B_X1_lineUp_0 N t0 h = some (hz, rz)) (hk0 : h.kd t0 = 4) {H : Heap} {locs : List Loc} {cells slots : Nat} (w : Wo D cs A s h0 h H locs cells slots) {ls : Array Slot} (hl : lv_has ls 5 [(0, .ref t0)]) : W p l e { frames := 1, cells := mc, slots := ms, locals := 30 } s m args below meth c H locs cells slots (MQ below (Zi D cs A hz rz) args s mc ms A) (F0 m 0 ls []) := by
  obtain ⟨hx, hb, hml, hown, hts, -⟩ := id C
  unfold B_X1_lineUp_0 at hJ
  refine lv_aload_n hx hb dX1_lineUp_0 rfl (lv_at hl 0 rfl) ?_
  refine fg_403 C w hk0 tw_3_16 dX1_lineUp_1 ?_
  obtain ⟨hn25, hJ⟩ := ck_some hJ
  have w0 := w
  refine fa_21 C w hn25 (mb_X1_lineUp_6 N t0 _ _ hJ) hz2 dX1_lineUp_4 (fun H w => ?_)
  have hk26 := kd_new (k := 21) (n := (h.fi 403 t0).toNatClampNeg) (sl := (h.fi 403 t0).toNatClampNeg) w0 hk0 (by decide)
  exact sb_X1_lineUp_6 C hz2 N t0 _ _ hJ hk26 w hl
def J_X1_lineUp (N : Nat) (t0 : Nat) (h : Hp) : Option (Hp × Int32) := B_X1_lineUp_0 N t0 h
theorem mo_X1_lineUp (N : Nat) (t0 : Nat) (h : Hp) (hJ : J_X1_lineUp N t0 h = some (hz, rz)) : Mo h hz := mb_X1_lineUp_0 N t0 h hJ
theorem cd_X1_lineUp : Cd yX1_lineUp 0 := ⟨by decide +kernel, by decide +kernel, by decide +kernel⟩
theorem cc_X1_lineUp (N : Nat) (t0 : Nat) (h : Hp) (hk0 : h.kd t0 = 4) (hJ : J_X1_lineUp N t0 h = some (hz, rz)) : Ci l yX1_lineUp cX1_lineUp 5 (some .boolean) 1 30 D cs h hz [.ref t0] rz := by
  intro mc ms g1 g2
  refine je_any (by decide) (by simp [lg_sl, rf_cat, cat_i, cat_l, cat_r]) ?_
  intro p e s m args below meth c C hin2 w ls hl
  have hl : lv_has ls 5 [(0, .ref t0)] := hl
  exact sb_X1_lineUp_0 C ⟨g1, g2⟩ N t0 h hJ hk0 w hl
end G_X1_lineUp
section G_X1_otherKeys
variable {p : Program} {l : Launch} {e : Env} {s : State} {m : MethodId} {args : Array Value} {below : List Frame} {meth : Method} {c : Code} {D : va_G} {cs : C4} {A : Nat → Prop} {h0 hz : Hp} {mc ms : Nat} {rz : Int32}
def B_X1_otherKeys_151 (N : Nat) (k4 : Hp → (Option Nat) → Int32 → Int32 → Option (Hp × Int32)) (t0 : Nat) (h : Hp) (x1 : Option Nat) (x2 : Int32) (x3 : Int32) : Option (Hp × Int32) := k4 h x1 x2 (x3 + (1 : Int32))
theorem mb_X1_otherKeys_151 (N : Nat) (k4 : Hp → (Option Nat) → Int32 → Int32 → Option (Hp × Int32)) (t0 : Nat) (h : Hp) (x1 : Option Nat) (x2 : Int32) (x3 : Int32) (m4 : ∀ (h : Hp) (x1 : Option Nat) (x2 : Int32) (x3 : Int32), k4 h x1 x2 x3 = some (hz, rz) → Mo h hz) (hJ : B_X1_otherKeys_151 N k4 t0 h x1 x2 x3 = some (hz, rz)) : Mo h hz := by
  unfold B_X1_otherKeys_151 at hJ
  exact m4 _ _ _ _ hJ
set_option maxRecDepth 100000 in
set_option maxHeartbeats 4000000 in
theorem sb_X1_otherKeys_151 (C : Cx p s m args meth c cX1_otherKeys 10 (some .int) RX1 D cs A h0.se) (hz2 : hz.nx ≤ h0.nx + mc ∧ hz.su ≤ h0.su + ms) (N : Nat) (k4 : Hp → (Option Nat) → Int32 → Int32 → Option (Hp × Int32)) (t0 : Nat) (m4 : ∀ (h : Hp) (x1 : Option Nat) (x2 : Int32) (x3 : Int32), k4 h x1 x2 x3 = some (hz, rz) → Mo h hz) (i4 : ∀ (h : Hp) (x1 : Option Nat) (x2 : Int32) (x3 : Int32) (H : Heap) (locs : List Loc) (cells slots : Nat) (ls : Array Slot), k4 h x1 x2 x3 = some (hz, rz) → h.kd t0 = 4 → Wo D cs A s h0 h H locs cells slots → lv_has ls 10 [(0, .ref t0), (1, va_rf x1), (2, .int x2), (3, .int x3)] → W p l e { frames := 5, cells := mc, slots := ms, locals := 150 } s m args below meth c H locs cells slots (MQ below (Zi D cs A hz rz) args s mc ms A) (F0 m 4 ls [])) (h : Hp) (x1 : Option Nat) (x2 : Int32) (x3 : Int32) (hJ : B_X1_otherKeys_151 N k4 t0 h x1 x2 x3 = some (hz, rz)) (hk0 : h.kd t0 = 4) {H : Heap} {locs : List Loc} {cells slots : Nat} (w : Wo D cs A s h0 h H locs cells slots) {ls : Array Slot} (hl : lv_has ls 10 [(0, .ref t0), (1, va_rf x1), (2, .int x2), (3, .int x3)]) : W p l e { frames := 5, cells := mc, slots := ms, locals := 150 } s m args below meth c H locs cells slots (MQ below (Zi D cs A hz rz) args s mc ms A) (F0 m 151 ls []) := by
  obtain ⟨hx, hb, hml, hown, hts, -⟩ := id C
  unfold B_X1_otherKeys_151 at hJ
  refine lv_iinc (v := x3 + (1 : Int32)) (lv' := [(3, .int (x3 + (1 : Int32))), (0, .ref t0), (1, va_rf x1), (2, .int x2)]) hx hb dX1_otherKeys_151 hl (k := 3) rfl rfl (by decide) rfl (fun ls hl => ?_)
  refine lv_goto (tgt := 4) hx hb dX1_otherKeys_154 (by decide) ?_
  exact i4 _ _ _ _ _ _ _ _ _ hJ hk0 w (lv_sub (l' := [(0, .ref t0), (1, va_rf x1), (2, .int x2), (3, .int (x3 + (1 : Int32)))]) hl [1, 2, 3, 0] rfl)
def B_X1_otherKeys_148 (N : Nat) (k4 : Hp → (Option Nat) → Int32 → Int32 → Option (Hp × Int32)) (t0 : Nat) (h : Hp) (x1 : Option Nat) (x2 : Int32) (x3 : Int32) : Option (Hp × Int32) := B_X1_otherKeys_151 N k4 t0 h x1 (x2 + (1 : Int32)) x3
theorem mb_X1_otherKeys_148 (N : Nat) (k4 : Hp → (Option Nat) → Int32 → Int32 → Option (Hp × Int32)) (t0 : Nat) (h : Hp) (x1 : Option Nat) (x2 : Int32) (x3 : Int32) (m4 : ∀ (h : Hp) (x1 : Option Nat) (x2 : Int32) (x3 : Int32), k4 h x1 x2 x3 = some (hz, rz) → Mo h hz) (hJ : B_X1_otherKeys_148 N k4 t0 h x1 x2 x3 = some (hz, rz)) : Mo h hz := by
  unfold B_X1_otherKeys_148 at hJ
  exact mb_X1_otherKeys_151 N k4 t0 _ _ _ _ m4 hJ
set_option maxRecDepth 100000 in
set_option maxHeartbeats 4000000 in
theorem sb_X1_otherKeys_148 (C : Cx p s m args meth c cX1_otherKeys 10 (some .int) RX1 D cs A h0.se) (hz2 : hz.nx ≤ h0.nx + mc ∧ hz.su ≤ h0.su + ms) (N : Nat) (k4 : Hp → (Option Nat) → Int32 → Int32 → Option (Hp × Int32)) (t0 : Nat) (m4 : ∀ (h : Hp) (x1 : Option Nat) (x2 : Int32) (x3 : Int32), k4 h x1 x2 x3 = some (hz, rz) → Mo h hz) (i4 : ∀ (h : Hp) (x1 : Option Nat) (x2 : Int32) (x3 : Int32) (H : Heap) (locs : List Loc) (cells slots : Nat) (ls : Array Slot), k4 h x1 x2 x3 = some (hz, rz) → h.kd t0 = 4 → Wo D cs A s h0 h H locs cells slots → lv_has ls 10 [(0, .ref t0), (1, va_rf x1), (2, .int x2), (3, .int x3)] → W p l e { frames := 5, cells := mc, slots := ms, locals := 150 } s m args below meth c H locs cells slots (MQ below (Zi D cs A hz rz) args s mc ms A) (F0 m 4 ls [])) (h : Hp) (x1 : Option Nat) (x2 : Int32) (x3 : Int32) (hJ : B_X1_otherKeys_148 N k4 t0 h x1 x2 x3 = some (hz, rz)) (hk0 : h.kd t0 = 4) {H : Heap} {locs : List Loc} {cells slots : Nat} (w : Wo D cs A s h0 h H locs cells slots) {ls : Array Slot} (hl : lv_has ls 10 [(0, .ref t0), (1, va_rf x1), (2, .int x2), (3, .int x3)]) : W p l e { frames := 5, cells := mc, slots := ms, locals := 150 } s m args below meth c H locs cells slots (MQ below (Zi D cs A hz rz) args s mc ms A) (F0 m 148 ls []) := by
  obtain ⟨hx, hb, hml, hown, hts, -⟩ := id C
  unfold B_X1_otherKeys_148 at hJ
  refine lv_iinc (v := x2 + (1 : Int32)) (lv' := [(2, .int (x2 + (1 : Int32))), (0, .ref t0), (1, va_rf x1), (3, .int x3)]) hx hb dX1_otherKeys_148 hl (k := 2) rfl rfl (by decide) (by simp [List.filter, rf_cat, cat_i, cat_l, cat_r]) (fun ls hl => ?_)
  exact sb_X1_otherKeys_151 C hz2 N k4 t0 m4 i4 _ _ _ _ hJ hk0 w (lv_sub (l' := [(0, .ref t0), (1, va_rf x1), (2, .int (x2 + (1 : Int32))), (3, .int x3)]) hl [1, 2, 0, 3] rfl)
def B_X1_otherKeys_115 (N : Nat) (k4 : Hp → (Option Nat) → Int32 → Int32 → Option (Hp × Int32)) (t0 : Nat) (h : Hp) (x1 : Option Nat) (x2 : Int32) (x3 : Int32) (x6 : Option Nat) (x7 : Option Nat) (x8 : Int32) (y0 : Int32) : Option (Hp × Int32) := if x8 = y0 then (if x8 = 0 then (B_X1_otherKeys_151 N k4 t0 h x1 x2 x3) else (if y0 = 0 then (B_X1_otherKeys_151 N k4 t0 h x1 x2 x3) else (dr h 7 x6 (fun a4 => dr h 7 x7 (fun a5 => if (lg_cmp (h.fl 703 a4) (h.fl 703 a5)) = 0 then (B_X1_otherKeys_151 N k4 t0 h x1 x2 x3) else (B_X1_otherKeys_148 N k4 t0 h x1 x2 x3)))))) else (B_X1_otherKeys_148 N k4 t0 h x1 x2 x3)
theorem mb_X1_otherKeys_115 (N : Nat) (k4 : Hp → (Option Nat) → Int32 → Int32 → Option (Hp × Int32)) (t0 : Nat) (h : Hp) (x1 : Option Nat) (x2 : Int32) (x3 : Int32) (x6 : Option Nat) (x7 : Option Nat) (x8 : Int32) (y0 : Int32) (m4 : ∀ (h : Hp) (x1 : Option Nat) (x2 : Int32) (x3 : Int32), k4 h x1 x2 x3 = some (hz, rz) → Mo h hz) (hJ : B_X1_otherKeys_115 N k4 t0 h x1 x2 x3 x6 x7 x8 y0 = some (hz, rz)) : Mo h hz := by
  unfold B_X1_otherKeys_115 at hJ
  by_cases c1 : x8 = y0
  · have hJ := it_pos c1 hJ
    by_cases c2 : x8 = 0
    · have hJ := it_pos c2 hJ
      exact mb_X1_otherKeys_151 N k4 t0 _ _ _ _ m4 hJ
    · have hJ := it_neg c2 hJ
      by_cases c3 : y0 = 0
      · have hJ := it_pos c3 hJ
        exact mb_X1_otherKeys_151 N k4 t0 _ _ _ _ m4 hJ
      · have hJ := it_neg c3 hJ
        obtain ⟨a4, ea4, -, hJ⟩ := dr_some hJ
        obtain ⟨a5, ea5, -, hJ⟩ := dr_some hJ
        by_cases c6 : (lg_cmp (h.fl 703 a4) (h.fl 703 a5)) = 0
        · have hJ := it_pos c6 hJ
          exact mb_X1_otherKeys_151 N k4 t0 _ _ _ _ m4 hJ
        · have hJ := it_neg c6 hJ
          exact mb_X1_otherKeys_148 N k4 t0 _ _ _ _ m4 hJ
  · have hJ := it_neg c1 hJ
    exact mb_X1_otherKeys_148 N k4 t0 _ _ _ _ m4 hJ
set_option maxRecDepth 100000 in
set_option maxHeartbeats 4000000 in
theorem sb_X1_otherKeys_115 (C : Cx p s m args meth c cX1_otherKeys 10 (some .int) RX1 D cs A h0.se) (hz2 : hz.nx ≤ h0.nx + mc ∧ hz.su ≤ h0.su + ms) (N : Nat) (k4 : Hp → (Option Nat) → Int32 → Int32 → Option (Hp × Int32)) (t0 : Nat) (m4 : ∀ (h : Hp) (x1 : Option Nat) (x2 : Int32) (x3 : Int32), k4 h x1 x2 x3 = some (hz, rz) → Mo h hz) (i4 : ∀ (h : Hp) (x1 : Option Nat) (x2 : Int32) (x3 : Int32) (H : Heap) (locs : List Loc) (cells slots : Nat) (ls : Array Slot), k4 h x1 x2 x3 = some (hz, rz) → h.kd t0 = 4 → Wo D cs A s h0 h H locs cells slots → lv_has ls 10 [(0, .ref t0), (1, va_rf x1), (2, .int x2), (3, .int x3)] → W p l e { frames := 5, cells := mc, slots := ms, locals := 150 } s m args below meth c H locs cells slots (MQ below (Zi D cs A hz rz) args s mc ms A) (F0 m 4 ls [])) (h : Hp) (x1 : Option Nat) (x2 : Int32) (x3 : Int32) (x6 : Option Nat) (x7 : Option Nat) (x8 : Int32) (y0 : Int32) (hJ : B_X1_otherKeys_115 N k4 t0 h x1 x2 x3 x6 x7 x8 y0 = some (hz, rz)) (hk0 : h.kd t0 = 4) {H : Heap} {locs : List Loc} {cells slots : Nat} (w : Wo D cs A s h0 h H locs cells slots) {ls : Array Slot} (hl : lv_has ls 10 [(0, .ref t0), (1, va_rf x1), (2, .int x2), (3, .int x3), (6, va_rf x6), (7, va_rf x7), (8, .int x8)]) : W p l e { frames := 5, cells := mc, slots := ms, locals := 150 } s m args below meth c H locs cells slots (MQ below (Zi D cs A hz rz) args s mc ms A) (F0 m 115 ls [.int y0]) := by
  obtain ⟨hx, hb, hml, hown, hts, -⟩ := id C
  unfold B_X1_otherKeys_115 at hJ
  refine lv_istore (i := 9) (lv' := [(9, .int y0), (0, .ref t0), (1, va_rf x1), (2, .int x2), (3, .int x3), (6, va_rf x6), (7, va_rf x7), (8, .int x8)]) hx hb dX1_otherKeys_115 hl (by decide) rfl (fun ls hl => ?_)
  refine lv_iload hx hb dX1_otherKeys_117 (lv_at hl 7 rfl) ?_
  refine lv_iload hx hb dX1_otherKeys_119 (lv_at hl 0 rfl) ?_
  refine lv_icmp_ne (tgt := 148) hx hb dX1_otherKeys_121 (by decide) (fun c1 => ?_) (fun c1 => ?_)
  · have hJ := it_neg c1 hJ
    exact sb_X1_otherKeys_148 C hz2 N k4 t0 m4 i4 _ _ _ _ hJ hk0 w (lv_sub (l' := [(0, .ref t0), (1, va_rf x1), (2, .int x2), (3, .int x3)]) hl [1, 2, 3, 4] rfl)
  · have hJ := it_pos c1 hJ
    refine lv_iload hx hb dX1_otherKeys_124 (lv_at hl 7 rfl) ?_
    refine lv_if_eq (tgt := 151) hx hb dX1_otherKeys_126 (by decide) (fun c2 => ?_) (fun c2 => ?_)
    · have hJ := it_pos c2 hJ
      exact sb_X1_otherKeys_151 C hz2 N k4 t0 m4 i4 _ _ _ _ hJ hk0 w (lv_sub (l' := [(0, .ref t0), (1, va_rf x1), (2, .int x2), (3, .int x3)]) hl [1, 2, 3, 4] rfl)
    · have hJ := it_neg c2 hJ
      refine lv_iload hx hb dX1_otherKeys_129 (lv_at hl 0 rfl) ?_
      refine lv_if_eq (tgt := 151) hx hb dX1_otherKeys_131 (by decide) (fun c3 => ?_) (fun c3 => ?_)
      · have hJ := it_pos c3 hJ
        exact sb_X1_otherKeys_151 C hz2 N k4 t0 m4 i4 _ _ _ _ hJ hk0 w (lv_sub (l' := [(0, .ref t0), (1, va_rf x1), (2, .int x2), (3, .int x3)]) hl [1, 2, 3, 4] rfl)
      · have hJ := it_neg c3 hJ
        refine jv_aload hx hb dX1_otherKeys_134 (lv_at hl 5 rfl) ?_
        obtain ⟨a4, ea4, hka4, hJ⟩ := dr_some hJ
        rw [ea4] at hl
        rw [ea4]
        refine fg_703 C w hka4 tw_5_27 dX1_otherKeys_136 ?_
        refine jv_aload hx hb dX1_otherKeys_139 (lv_at hl 6 rfl) ?_
        obtain ⟨a5, ea5, hka5, hJ⟩ := dr_some hJ
        rw [ea5] at hl
        rw [ea5]
        refine fg_703 C w hka5 tw_5_27 dX1_otherKeys_141 ?_
        refine W.lcmp hx hb dX1_otherKeys_144 ?_
        refine lv_if_eq (tgt := 151) hx hb dX1_otherKeys_145 (by decide) (fun c6 => ?_) (fun c6 => ?_)
        · have hJ := it_pos c6 hJ
          exact sb_X1_otherKeys_151 C hz2 N k4 t0 m4 i4 _ _ _ _ hJ hk0 w (lv_sub (l' := [(0, .ref t0), (1, va_rf x1), (2, .int x2), (3, .int x3)]) hl [1, 2, 3, 4] rfl)
        · have hJ := it_neg c6 hJ
          exact sb_X1_otherKeys_148 C hz2 N k4 t0 m4 i4 _ _ _ _ hJ hk0 w (lv_sub (l' := [(0, .ref t0), (1, va_rf x1), (2, .int x2), (3, .int x3)]) hl [1, 2, 3, 4] rfl)
def B_X1_otherKeys_114 (N : Nat) (k4 : Hp → (Option Nat) → Int32 → Int32 → Option (Hp × Int32)) (t0 : Nat) (h : Hp) (x1 : Option Nat) (x2 : Int32) (x3 : Int32) (x6 : Option Nat) (x7 : Option Nat) (x8 : Int32) : Option (Hp × Int32) := B_X1_otherKeys_115 N k4 t0 h x1 x2 x3 x6 x7 x8 (0 : Int32)
theorem mb_X1_otherKeys_114 (N : Nat) (k4 : Hp → (Option Nat) → Int32 → Int32 → Option (Hp × Int32)) (t0 : Nat) (h : Hp) (x1 : Option Nat) (x2 : Int32) (x3 : Int32) (x6 : Option Nat) (x7 : Option Nat) (x8 : Int32) (m4 : ∀ (h : Hp) (x1 : Option Nat) (x2 : Int32) (x3 : Int32), k4 h x1 x2 x3 = some (hz, rz) → Mo h hz) (hJ : B_X1_otherKeys_114 N k4 t0 h x1 x2 x3 x6 x7 x8 = some (hz, rz)) : Mo h hz := by
  unfold B_X1_otherKeys_114 at hJ
  exact mb_X1_otherKeys_115 N k4 t0 _ _ _ _ _ _ _ _ m4 hJ
set_option maxRecDepth 100000 in
set_option maxHeartbeats 4000000 in
theorem sb_X1_otherKeys_114 (C : Cx p s m args meth c cX1_otherKeys 10 (some .int) RX1 D cs A h0.se) (hz2 : hz.nx ≤ h0.nx + mc ∧ hz.su ≤ h0.su + ms) (N : Nat) (k4 : Hp → (Option Nat) → Int32 → Int32 → Option (Hp × Int32)) (t0 : Nat) (m4 : ∀ (h : Hp) (x1 : Option Nat) (x2 : Int32) (x3 : Int32), k4 h x1 x2 x3 = some (hz, rz) → Mo h hz) (i4 : ∀ (h : Hp) (x1 : Option Nat) (x2 : Int32) (x3 : Int32) (H : Heap) (locs : List Loc) (cells slots : Nat) (ls : Array Slot), k4 h x1 x2 x3 = some (hz, rz) → h.kd t0 = 4 → Wo D cs A s h0 h H locs cells slots → lv_has ls 10 [(0, .ref t0), (1, va_rf x1), (2, .int x2), (3, .int x3)] → W p l e { frames := 5, cells := mc, slots := ms, locals := 150 } s m args below meth c H locs cells slots (MQ below (Zi D cs A hz rz) args s mc ms A) (F0 m 4 ls [])) (h : Hp) (x1 : Option Nat) (x2 : Int32) (x3 : Int32) (x6 : Option Nat) (x7 : Option Nat) (x8 : Int32) (hJ : B_X1_otherKeys_114 N k4 t0 h x1 x2 x3 x6 x7 x8 = some (hz, rz)) (hk0 : h.kd t0 = 4) {H : Heap} {locs : List Loc} {cells slots : Nat} (w : Wo D cs A s h0 h H locs cells slots) {ls : Array Slot} (hl : lv_has ls 10 [(0, .ref t0), (1, va_rf x1), (2, .int x2), (3, .int x3), (6, va_rf x6), (7, va_rf x7), (8, .int x8)]) : W p l e { frames := 5, cells := mc, slots := ms, locals := 150 } s m args below meth c H locs cells slots (MQ below (Zi D cs A hz rz) args s mc ms A) (F0 m 114 ls []) := by
  obtain ⟨hx, hb, hml, hown, hts, -⟩ := id C
  unfold B_X1_otherKeys_114 at hJ
  refine lv_iconst (v := (0 : Int32)) hx hb dX1_otherKeys_114 (by decide) ?_
  exact sb_X1_otherKeys_115 C hz2 N k4 t0 m4 i4 _ _ _ _ _ _ _ _ hJ hk0 w hl
def B_X1_otherKeys_95 (N : Nat) (k4 : Hp → (Option Nat) → Int32 → Int32 → Option (Hp × Int32)) (t0 : Nat) (h : Hp) (x1 : Option Nat) (x2 : Int32) (x3 : Int32) (x6 : Option Nat) (x7 : Option Nat) (y0 : Int32) : Option (Hp × Int32) := nl x7 (B_X1_otherKeys_114 N k4 t0 h x1 x2 x3 x6 x7 y0) (fun a7 => ck (h.kd a7 = 7) (if (h.fi 702 a7) = 0 then (B_X1_otherKeys_114 N k4 t0 h x1 x2 x3 x6 (some a7) y0) else (B_X1_otherKeys_115 N k4 t0 h x1 x2 x3 x6 (some a7) y0 (1 : Int32))))
theorem mb_X1_otherKeys_95 (N : Nat) (k4 : Hp → (Option Nat) → Int32 → Int32 → Option (Hp × Int32)) (t0 : Nat) (h : Hp) (x1 : Option Nat) (x2 : Int32) (x3 : Int32) (x6 : Option Nat) (x7 : Option Nat) (y0 : Int32) (m4 : ∀ (h : Hp) (x1 : Option Nat) (x2 : Int32) (x3 : Int32), k4 h x1 x2 x3 = some (hz, rz) → Mo h hz) (hJ : B_X1_otherKeys_95 N k4 t0 h x1 x2 x3 x6 x7 y0 = some (hz, rz)) : Mo h hz := by
  unfold B_X1_otherKeys_95 at hJ
  cases ea7 : x7 with
  | none =>
    have hJ := nl_none ea7 hJ
    exact mb_X1_otherKeys_114 N k4 t0 _ _ _ _ _ _ _ m4 hJ
  | some a7 =>
    have hJ := nl_some ea7 hJ
    obtain ⟨-, hJ⟩ := ck_some hJ
    by_cases c9 : (h.fi 702 a7) = 0
    · have hJ := it_pos c9 hJ
      exact mb_X1_otherKeys_114 N k4 t0 _ _ _ _ _ _ _ m4 hJ
    · have hJ := it_neg c9 hJ
      exact mb_X1_otherKeys_115 N k4 t0 _ _ _ _ _ _ _ _ m4 hJ
set_option maxRecDepth 100000 in
set_option maxHeartbeats 4000000 in
theorem sb_X1_otherKeys_95 (C : Cx p s m args meth c cX1_otherKeys 10 (some .int) RX1 D cs A h0.se) (hz2 : hz.nx ≤ h0.nx + mc ∧ hz.su ≤ h0.su + ms) (N : Nat) (k4 : Hp → (Option Nat) → Int32 → Int32 → Option (Hp × Int32)) (t0 : Nat) (m4 : ∀ (h : Hp) (x1 : Option Nat) (x2 : Int32) (x3 : Int32), k4 h x1 x2 x3 = some (hz, rz) → Mo h hz) (i4 : ∀ (h : Hp) (x1 : Option Nat) (x2 : Int32) (x3 : Int32) (H : Heap) (locs : List Loc) (cells slots : Nat) (ls : Array Slot), k4 h x1 x2 x3 = some (hz, rz) → h.kd t0 = 4 → Wo D cs A s h0 h H locs cells slots → lv_has ls 10 [(0, .ref t0), (1, va_rf x1), (2, .int x2), (3, .int x3)] → W p l e { frames := 5, cells := mc, slots := ms, locals := 150 } s m args below meth c H locs cells slots (MQ below (Zi D cs A hz rz) args s mc ms A) (F0 m 4 ls [])) (h : Hp) (x1 : Option Nat) (x2 : Int32) (x3 : Int32) (x6 : Option Nat) (x7 : Option Nat) (y0 : Int32) (hJ : B_X1_otherKeys_95 N k4 t0 h x1 x2 x3 x6 x7 y0 = some (hz, rz)) (hk0 : h.kd t0 = 4) {H : Heap} {locs : List Loc} {cells slots : Nat} (w : Wo D cs A s h0 h H locs cells slots) {ls : Array Slot} (hl : lv_has ls 10 [(0, .ref t0), (1, va_rf x1), (2, .int x2), (3, .int x3), (6, va_rf x6), (7, va_rf x7)]) : W p l e { frames := 5, cells := mc, slots := ms, locals := 150 } s m args below meth c H locs cells slots (MQ below (Zi D cs A hz rz) args s mc ms A) (F0 m 95 ls [.int y0]) := by
  obtain ⟨hx, hb, hml, hown, hts, -⟩ := id C
  unfold B_X1_otherKeys_95 at hJ
  refine lv_istore (i := 8) (lv' := [(8, .int y0), (0, .ref t0), (1, va_rf x1), (2, .int x2), (3, .int x3), (6, va_rf x6), (7, va_rf x7)]) hx hb dX1_otherKeys_95 hl (by decide) (by simp [List.filter, rf_cat, cat_i, cat_l, cat_r]) (fun ls hl => ?_)
  refine jv_aload hx hb dX1_otherKeys_97 (lv_at hl 6 rfl) ?_
  refine jv_ifnull (tgt := 114) hx hb dX1_otherKeys_99 (by decide) (fun ea7 => ?_) (fun a7 ea7 => ?_)
  · have hJ := nl_none ea7 hJ
    exact sb_X1_otherKeys_114 C hz2 N k4 t0 m4 i4 _ _ _ _ _ _ _ hJ hk0 w (lv_sub (l' := [(0, .ref t0), (1, va_rf x1), (2, .int x2), (3, .int x3), (6, va_rf x6), (7, va_rf x7), (8, .int y0)]) hl [1, 2, 3, 4, 5, 6, 0] rfl)
  · have hJ := nl_some ea7 hJ
    rw [ea7] at hl
    refine lv_aload hx hb dX1_otherKeys_102 (lv_at hl 6 rfl) ?_
    obtain ⟨hk8, hJ⟩ := ck_some hJ
    refine fg_702 C w hk8 tw_5_23 dX1_otherKeys_104 ?_
    refine lv_if_eq (tgt := 114) hx hb dX1_otherKeys_107 (by decide) (fun c9 => ?_) (fun c9 => ?_)
    · have hJ := it_pos c9 hJ
      exact sb_X1_otherKeys_114 C hz2 N k4 t0 m4 i4 _ _ _ _ _ _ _ hJ hk0 w (lv_sub (l' := [(0, .ref t0), (1, va_rf x1), (2, .int x2), (3, .int x3), (6, va_rf x6), (7, .ref a7), (8, .int y0)]) hl [1, 2, 3, 4, 5, 6, 0] rfl)
    · have hJ := it_neg c9 hJ
      refine lv_iconst (v := (1 : Int32)) hx hb dX1_otherKeys_110 (by decide) ?_
      refine lv_goto (tgt := 115) hx hb dX1_otherKeys_111 (by decide) ?_
      exact sb_X1_otherKeys_115 C hz2 N k4 t0 m4 i4 _ _ _ _ _ _ _ _ hJ hk0 w (lv_sub (l' := [(0, .ref t0), (1, va_rf x1), (2, .int x2), (3, .int x3), (6, va_rf x6), (7, .ref a7), (8, .int y0)]) hl [1, 2, 3, 4, 5, 6, 0] rfl)
def B_X1_otherKeys_94 (N : Nat) (k4 : Hp → (Option Nat) → Int32 → Int32 → Option (Hp × Int32)) (t0 : Nat) (h : Hp) (x1 : Option Nat) (x2 : Int32) (x3 : Int32) (x6 : Option Nat) (x7 : Option Nat) : Option (Hp × Int32) := B_X1_otherKeys_95 N k4 t0 h x1 x2 x3 x6 x7 (0 : Int32)
theorem mb_X1_otherKeys_94 (N : Nat) (k4 : Hp → (Option Nat) → Int32 → Int32 → Option (Hp × Int32)) (t0 : Nat) (h : Hp) (x1 : Option Nat) (x2 : Int32) (x3 : Int32) (x6 : Option Nat) (x7 : Option Nat) (m4 : ∀ (h : Hp) (x1 : Option Nat) (x2 : Int32) (x3 : Int32), k4 h x1 x2 x3 = some (hz, rz) → Mo h hz) (hJ : B_X1_otherKeys_94 N k4 t0 h x1 x2 x3 x6 x7 = some (hz, rz)) : Mo h hz := by
  unfold B_X1_otherKeys_94 at hJ
  exact mb_X1_otherKeys_95 N k4 t0 _ _ _ _ _ _ _ m4 hJ
set_option maxRecDepth 100000 in
set_option maxHeartbeats 4000000 in
theorem sb_X1_otherKeys_94 (C : Cx p s m args meth c cX1_otherKeys 10 (some .int) RX1 D cs A h0.se) (hz2 : hz.nx ≤ h0.nx + mc ∧ hz.su ≤ h0.su + ms) (N : Nat) (k4 : Hp → (Option Nat) → Int32 → Int32 → Option (Hp × Int32)) (t0 : Nat) (m4 : ∀ (h : Hp) (x1 : Option Nat) (x2 : Int32) (x3 : Int32), k4 h x1 x2 x3 = some (hz, rz) → Mo h hz) (i4 : ∀ (h : Hp) (x1 : Option Nat) (x2 : Int32) (x3 : Int32) (H : Heap) (locs : List Loc) (cells slots : Nat) (ls : Array Slot), k4 h x1 x2 x3 = some (hz, rz) → h.kd t0 = 4 → Wo D cs A s h0 h H locs cells slots → lv_has ls 10 [(0, .ref t0), (1, va_rf x1), (2, .int x2), (3, .int x3)] → W p l e { frames := 5, cells := mc, slots := ms, locals := 150 } s m args below meth c H locs cells slots (MQ below (Zi D cs A hz rz) args s mc ms A) (F0 m 4 ls [])) (h : Hp) (x1 : Option Nat) (x2 : Int32) (x3 : Int32) (x6 : Option Nat) (x7 : Option Nat) (hJ : B_X1_otherKeys_94 N k4 t0 h x1 x2 x3 x6 x7 = some (hz, rz)) (hk0 : h.kd t0 = 4) {H : Heap} {locs : List Loc} {cells slots : Nat} (w : Wo D cs A s h0 h H locs cells slots) {ls : Array Slot} (hl : lv_has ls 10 [(0, .ref t0), (1, va_rf x1), (2, .int x2), (3, .int x3), (6, va_rf x6), (7, va_rf x7)]) : W p l e { frames := 5, cells := mc, slots := ms, locals := 150 } s m args below meth c H locs cells slots (MQ below (Zi D cs A hz rz) args s mc ms A) (F0 m 94 ls []) := by
  obtain ⟨hx, hb, hml, hown, hts, -⟩ := id C
  unfold B_X1_otherKeys_94 at hJ
  refine lv_iconst (v := (0 : Int32)) hx hb dX1_otherKeys_94 (by decide) ?_
  exact sb_X1_otherKeys_95 C hz2 N k4 t0 m4 i4 _ _ _ _ _ _ _ hJ hk0 w hl
def B_X1_otherKeys_75 (N : Nat) (k4 : Hp → (Option Nat) → Int32 → Int32 → Option (Hp × Int32)) (t0 : Nat) (h : Hp) (x1 : Option Nat) (x2 : Int32) (x3 : Int32) (x6 : Option Nat) (y0 : Option Nat) : Option (Hp × Int32) := nl x6 (B_X1_otherKeys_94 N k4 t0 h x1 x2 x3 x6 y0) (fun a10 => ck (h.kd a10 = 7) (if (h.fi 702 a10) = 0 then (B_X1_otherKeys_94 N k4 t0 h x1 x2 x3 (some a10) y0) else (B_X1_otherKeys_95 N k4 t0 h x1 x2 x3 (some a10) y0 (1 : Int32))))
theorem mb_X1_otherKeys_75 (N : Nat) (k4 : Hp → (Option Nat) → Int32 → Int32 → Option (Hp × Int32)) (t0 : Nat) (h : Hp) (x1 : Option Nat) (x2 : Int32) (x3 : Int32) (x6 : Option Nat) (y0 : Option Nat) (m4 : ∀ (h : Hp) (x1 : Option Nat) (x2 : Int32) (x3 : Int32), k4 h x1 x2 x3 = some (hz, rz) → Mo h hz) (hJ : B_X1_otherKeys_75 N k4 t0 h x1 x2 x3 x6 y0 = some (hz, rz)) : Mo h hz := by
  unfold B_X1_otherKeys_75 at hJ
  cases ea10 : x6 with
  | none =>
    have hJ := nl_none ea10 hJ
    exact mb_X1_otherKeys_94 N k4 t0 _ _ _ _ _ _ m4 hJ
  | some a10 =>
    have hJ := nl_some ea10 hJ
    obtain ⟨-, hJ⟩ := ck_some hJ
    by_cases c12 : (h.fi 702 a10) = 0
    · have hJ := it_pos c12 hJ
      exact mb_X1_otherKeys_94 N k4 t0 _ _ _ _ _ _ m4 hJ
    · have hJ := it_neg c12 hJ
      exact mb_X1_otherKeys_95 N k4 t0 _ _ _ _ _ _ _ m4 hJ
set_option maxRecDepth 100000 in
set_option maxHeartbeats 4000000 in
theorem sb_X1_otherKeys_75 (C : Cx p s m args meth c cX1_otherKeys 10 (some .int) RX1 D cs A h0.se) (hz2 : hz.nx ≤ h0.nx + mc ∧ hz.su ≤ h0.su + ms) (N : Nat) (k4 : Hp → (Option Nat) → Int32 → Int32 → Option (Hp × Int32)) (t0 : Nat) (m4 : ∀ (h : Hp) (x1 : Option Nat) (x2 : Int32) (x3 : Int32), k4 h x1 x2 x3 = some (hz, rz) → Mo h hz) (i4 : ∀ (h : Hp) (x1 : Option Nat) (x2 : Int32) (x3 : Int32) (H : Heap) (locs : List Loc) (cells slots : Nat) (ls : Array Slot), k4 h x1 x2 x3 = some (hz, rz) → h.kd t0 = 4 → Wo D cs A s h0 h H locs cells slots → lv_has ls 10 [(0, .ref t0), (1, va_rf x1), (2, .int x2), (3, .int x3)] → W p l e { frames := 5, cells := mc, slots := ms, locals := 150 } s m args below meth c H locs cells slots (MQ below (Zi D cs A hz rz) args s mc ms A) (F0 m 4 ls [])) (h : Hp) (x1 : Option Nat) (x2 : Int32) (x3 : Int32) (x6 : Option Nat) (y0 : Option Nat) (hJ : B_X1_otherKeys_75 N k4 t0 h x1 x2 x3 x6 y0 = some (hz, rz)) (hk0 : h.kd t0 = 4) {H : Heap} {locs : List Loc} {cells slots : Nat} (w : Wo D cs A s h0 h H locs cells slots) {ls : Array Slot} (hl : lv_has ls 10 [(0, .ref t0), (1, va_rf x1), (2, .int x2), (3, .int x3), (6, va_rf x6)]) : W p l e { frames := 5, cells := mc, slots := ms, locals := 150 } s m args below meth c H locs cells slots (MQ below (Zi D cs A hz rz) args s mc ms A) (F0 m 75 ls [va_rf y0]) := by
  obtain ⟨hx, hb, hml, hown, hts, -⟩ := id C
  unfold B_X1_otherKeys_75 at hJ
  refine jv_astore (i := 7) (lv' := [(7, va_rf y0), (0, .ref t0), (1, va_rf x1), (2, .int x2), (3, .int x3), (6, va_rf x6)]) hx hb dX1_otherKeys_75 hl (by decide) (by simp [List.filter, rf_cat, cat_i, cat_l, cat_r]) (fun ls hl => ?_)
  refine jv_aload hx hb dX1_otherKeys_77 (lv_at hl 5 rfl) ?_
  refine jv_ifnull (tgt := 94) hx hb dX1_otherKeys_79 (by decide) (fun ea10 => ?_) (fun a10 ea10 => ?_)
  · have hJ := nl_none ea10 hJ
    exact sb_X1_otherKeys_94 C hz2 N k4 t0 m4 i4 _ _ _ _ _ _ hJ hk0 w (lv_sub (l' := [(0, .ref t0), (1, va_rf x1), (2, .int x2), (3, .int x3), (6, va_rf x6), (7, va_rf y0)]) hl [1, 2, 3, 4, 5, 0] rfl)
  · have hJ := nl_some ea10 hJ
    rw [ea10] at hl
    refine lv_aload hx hb dX1_otherKeys_82 (lv_at hl 5 rfl) ?_
    obtain ⟨hk11, hJ⟩ := ck_some hJ
    refine fg_702 C w hk11 tw_5_23 dX1_otherKeys_84 ?_
    refine lv_if_eq (tgt := 94) hx hb dX1_otherKeys_87 (by decide) (fun c12 => ?_) (fun c12 => ?_)
    · have hJ := it_pos c12 hJ
      exact sb_X1_otherKeys_94 C hz2 N k4 t0 m4 i4 _ _ _ _ _ _ hJ hk0 w (lv_sub (l' := [(0, .ref t0), (1, va_rf x1), (2, .int x2), (3, .int x3), (6, .ref a10), (7, va_rf y0)]) hl [1, 2, 3, 4, 5, 0] rfl)
    · have hJ := it_neg c12 hJ
      refine lv_iconst (v := (1 : Int32)) hx hb dX1_otherKeys_90 (by decide) ?_
      refine lv_goto (tgt := 95) hx hb dX1_otherKeys_91 (by decide) ?_
      exact sb_X1_otherKeys_95 C hz2 N k4 t0 m4 i4 _ _ _ _ _ _ _ hJ hk0 w (lv_sub (l' := [(0, .ref t0), (1, va_rf x1), (2, .int x2), (3, .int x3), (6, .ref a10), (7, va_rf y0)]) hl [1, 2, 3, 4, 5, 0] rfl)
def B_X1_otherKeys_59 (N : Nat) (k4 : Hp → (Option Nat) → Int32 → Int32 → Option (Hp × Int32)) (t0 : Nat) (h : Hp) (x1 : Option Nat) (x2 : Int32) (x3 : Int32) (x5 : Option Nat) (y0 : Option Nat) : Option (Hp × Int32) := nl x5 (B_X1_otherKeys_75 N k4 t0 h x1 x2 x3 y0 none) (fun a13 => ck (h.kd a13 = 6) (B_X1_otherKeys_75 N k4 t0 h x1 x2 x3 y0 (h.fr 601 a13)))
theorem mb_X1_otherKeys_59 (N : Nat) (k4 : Hp → (Option Nat) → Int32 → Int32 → Option (Hp × Int32)) (t0 : Nat) (h : Hp) (x1 : Option Nat) (x2 : Int32) (x3 : Int32) (x5 : Option Nat) (y0 : Option Nat) (m4 : ∀ (h : Hp) (x1 : Option Nat) (x2 : Int32) (x3 : Int32), k4 h x1 x2 x3 = some (hz, rz) → Mo h hz) (hJ : B_X1_otherKeys_59 N k4 t0 h x1 x2 x3 x5 y0 = some (hz, rz)) : Mo h hz := by
  unfold B_X1_otherKeys_59 at hJ
  cases ea13 : x5 with
  | none =>
    have hJ := nl_none ea13 hJ
    exact mb_X1_otherKeys_75 N k4 t0 _ _ _ _ _ _ m4 hJ
  | some a13 =>
    have hJ := nl_some ea13 hJ
    obtain ⟨-, hJ⟩ := ck_some hJ
    exact mb_X1_otherKeys_75 N k4 t0 _ _ _ _ _ _ m4 hJ
set_option maxRecDepth 100000 in
set_option maxHeartbeats 4000000 in
theorem sb_X1_otherKeys_59 (C : Cx p s m args meth c cX1_otherKeys 10 (some .int) RX1 D cs A h0.se) (hz2 : hz.nx ≤ h0.nx + mc ∧ hz.su ≤ h0.su + ms) (N : Nat) (k4 : Hp → (Option Nat) → Int32 → Int32 → Option (Hp × Int32)) (t0 : Nat) (m4 : ∀ (h : Hp) (x1 : Option Nat) (x2 : Int32) (x3 : Int32), k4 h x1 x2 x3 = some (hz, rz) → Mo h hz) (i4 : ∀ (h : Hp) (x1 : Option Nat) (x2 : Int32) (x3 : Int32) (H : Heap) (locs : List Loc) (cells slots : Nat) (ls : Array Slot), k4 h x1 x2 x3 = some (hz, rz) → h.kd t0 = 4 → Wo D cs A s h0 h H locs cells slots → lv_has ls 10 [(0, .ref t0), (1, va_rf x1), (2, .int x2), (3, .int x3)] → W p l e { frames := 5, cells := mc, slots := ms, locals := 150 } s m args below meth c H locs cells slots (MQ below (Zi D cs A hz rz) args s mc ms A) (F0 m 4 ls [])) (h : Hp) (x1 : Option Nat) (x2 : Int32) (x3 : Int32) (x5 : Option Nat) (y0 : Option Nat) (hJ : B_X1_otherKeys_59 N k4 t0 h x1 x2 x3 x5 y0 = some (hz, rz)) (hk0 : h.kd t0 = 4) {H : Heap} {locs : List Loc} {cells slots : Nat} (w : Wo D cs A s h0 h H locs cells slots) {ls : Array Slot} (hl : lv_has ls 10 [(0, .ref t0), (1, va_rf x1), (2, .int x2), (3, .int x3), (5, va_rf x5)]) : W p l e { frames := 5, cells := mc, slots := ms, locals := 150 } s m args below meth c H locs cells slots (MQ below (Zi D cs A hz rz) args s mc ms A) (F0 m 59 ls [va_rf y0]) := by
  obtain ⟨hx, hb, hml, hown, hts, -⟩ := id C
  unfold B_X1_otherKeys_59 at hJ
  refine jv_astore (i := 6) (lv' := [(6, va_rf y0), (0, .ref t0), (1, va_rf x1), (2, .int x2), (3, .int x3), (5, va_rf x5)]) hx hb dX1_otherKeys_59 hl (by decide) (by simp [List.filter, rf_cat, cat_i, cat_l, cat_r]) (fun ls hl => ?_)
  refine jv_aload hx hb dX1_otherKeys_61 (lv_at hl 5 rfl) ?_
  refine jv_ifnonnull (tgt := 70) hx hb dX1_otherKeys_63 (by decide) (fun a13 ea13 => ?_) (fun ea13 => ?_)
  · have hJ := nl_some ea13 hJ
    rw [ea13] at hl
    refine lv_aload hx hb dX1_otherKeys_70 (lv_at hl 5 rfl) ?_
    obtain ⟨hk14, hJ⟩ := ck_some hJ
    refine fg_601 C w hk14 tw_3_153 dX1_otherKeys_72 ?_
    exact sb_X1_otherKeys_75 C hz2 N k4 t0 m4 i4 _ _ _ _ _ _ hJ hk0 w (lv_sub (l' := [(0, .ref t0), (1, va_rf x1), (2, .int x2), (3, .int x3), (6, va_rf y0)]) hl [1, 2, 3, 4, 0] rfl)
  · have hJ := nl_none ea13 hJ
    refine lv_null hx hb dX1_otherKeys_66 ?_
    change W _ _ _ _ _ _ _ _ _ _ _ _ _ _ _ (F0 m 67 ls [va_rf none])
    refine lv_goto (tgt := 75) hx hb dX1_otherKeys_67 (by decide) ?_
    exact sb_X1_otherKeys_75 C hz2 N k4 t0 m4 i4 _ _ _ _ _ _ hJ hk0 w (lv_sub (l' := [(0, .ref t0), (1, va_rf x1), (2, .int x2), (3, .int x3), (6, va_rf y0)]) hl [1, 2, 3, 4, 0] rfl)
def B_X1_otherKeys_43 (N : Nat) (k4 : Hp → (Option Nat) → Int32 → Int32 → Option (Hp × Int32)) (t0 : Nat) (h : Hp) (x1 : Option Nat) (x2 : Int32) (x3 : Int32) (x4 : Option Nat) (y0 : Option Nat) : Option (Hp × Int32) := nl x4 (B_X1_otherKeys_59 N k4 t0 h x1 x2 x3 y0 none) (fun a15 => ck (h.kd a15 = 6) (B_X1_otherKeys_59 N k4 t0 h x1 x2 x3 y0 (h.fr 601 a15)))
theorem mb_X1_otherKeys_43 (N : Nat) (k4 : Hp → (Option Nat) → Int32 → Int32 → Option (Hp × Int32)) (t0 : Nat) (h : Hp) (x1 : Option Nat) (x2 : Int32) (x3 : Int32) (x4 : Option Nat) (y0 : Option Nat) (m4 : ∀ (h : Hp) (x1 : Option Nat) (x2 : Int32) (x3 : Int32), k4 h x1 x2 x3 = some (hz, rz) → Mo h hz) (hJ : B_X1_otherKeys_43 N k4 t0 h x1 x2 x3 x4 y0 = some (hz, rz)) : Mo h hz := by
  unfold B_X1_otherKeys_43 at hJ
  cases ea15 : x4 with
  | none =>
    have hJ := nl_none ea15 hJ
    exact mb_X1_otherKeys_59 N k4 t0 _ _ _ _ _ _ m4 hJ
  | some a15 =>
    have hJ := nl_some ea15 hJ
    obtain ⟨-, hJ⟩ := ck_some hJ
    exact mb_X1_otherKeys_59 N k4 t0 _ _ _ _ _ _ m4 hJ
set_option maxRecDepth 100000 in
set_option maxHeartbeats 4000000 in
theorem sb_X1_otherKeys_43 (C : Cx p s m args meth c cX1_otherKeys 10 (some .int) RX1 D cs A h0.se) (hz2 : hz.nx ≤ h0.nx + mc ∧ hz.su ≤ h0.su + ms) (N : Nat) (k4 : Hp → (Option Nat) → Int32 → Int32 → Option (Hp × Int32)) (t0 : Nat) (m4 : ∀ (h : Hp) (x1 : Option Nat) (x2 : Int32) (x3 : Int32), k4 h x1 x2 x3 = some (hz, rz) → Mo h hz) (i4 : ∀ (h : Hp) (x1 : Option Nat) (x2 : Int32) (x3 : Int32) (H : Heap) (locs : List Loc) (cells slots : Nat) (ls : Array Slot), k4 h x1 x2 x3 = some (hz, rz) → h.kd t0 = 4 → Wo D cs A s h0 h H locs cells slots → lv_has ls 10 [(0, .ref t0), (1, va_rf x1), (2, .int x2), (3, .int x3)] → W p l e { frames := 5, cells := mc, slots := ms, locals := 150 } s m args below meth c H locs cells slots (MQ below (Zi D cs A hz rz) args s mc ms A) (F0 m 4 ls [])) (h : Hp) (x1 : Option Nat) (x2 : Int32) (x3 : Int32) (x4 : Option Nat) (y0 : Option Nat) (hJ : B_X1_otherKeys_43 N k4 t0 h x1 x2 x3 x4 y0 = some (hz, rz)) (hk0 : h.kd t0 = 4) {H : Heap} {locs : List Loc} {cells slots : Nat} (w : Wo D cs A s h0 h H locs cells slots) {ls : Array Slot} (hl : lv_has ls 10 [(0, .ref t0), (1, va_rf x1), (2, .int x2), (3, .int x3), (4, va_rf x4)]) : W p l e { frames := 5, cells := mc, slots := ms, locals := 150 } s m args below meth c H locs cells slots (MQ below (Zi D cs A hz rz) args s mc ms A) (F0 m 43 ls [va_rf y0]) := by
  obtain ⟨hx, hb, hml, hown, hts, -⟩ := id C
  unfold B_X1_otherKeys_43 at hJ
  refine jv_astore (i := 5) (lv' := [(5, va_rf y0), (0, .ref t0), (1, va_rf x1), (2, .int x2), (3, .int x3), (4, va_rf x4)]) hx hb dX1_otherKeys_43 hl (by decide) (by simp [List.filter, rf_cat, cat_i, cat_l, cat_r]) (fun ls hl => ?_)
  refine jv_aload hx hb dX1_otherKeys_45 (lv_at hl 5 rfl) ?_
  refine jv_ifnonnull (tgt := 54) hx hb dX1_otherKeys_47 (by decide) (fun a15 ea15 => ?_) (fun ea15 => ?_)
  · have hJ := nl_some ea15 hJ
    rw [ea15] at hl
    refine lv_aload hx hb dX1_otherKeys_54 (lv_at hl 5 rfl) ?_
    obtain ⟨hk16, hJ⟩ := ck_some hJ
    refine fg_601 C w hk16 tw_3_153 dX1_otherKeys_56 ?_
    exact sb_X1_otherKeys_59 C hz2 N k4 t0 m4 i4 _ _ _ _ _ _ hJ hk0 w (lv_sub (l' := [(0, .ref t0), (1, va_rf x1), (2, .int x2), (3, .int x3), (5, va_rf y0)]) hl [1, 2, 3, 4, 0] rfl)
  · have hJ := nl_none ea15 hJ
    refine lv_null hx hb dX1_otherKeys_50 ?_
    change W _ _ _ _ _ _ _ _ _ _ _ _ _ _ _ (F0 m 51 ls [va_rf none])
    refine lv_goto (tgt := 59) hx hb dX1_otherKeys_51 (by decide) ?_
    exact sb_X1_otherKeys_59 C hz2 N k4 t0 m4 i4 _ _ _ _ _ _ hJ hk0 w (lv_sub (l' := [(0, .ref t0), (1, va_rf x1), (2, .int x2), (3, .int x3), (5, va_rf y0)]) hl [1, 2, 3, 4, 0] rfl)
def B_X1_otherKeys_23 (N : Nat) (k4 : Hp → (Option Nat) → Int32 → Int32 → Option (Hp × Int32)) (t0 : Nat) (h : Hp) (x1 : Option Nat) (x2 : Int32) (x3 : Int32) (y0 : Option Nat) : Option (Hp × Int32) := nl y0 (B_X1_otherKeys_43 N k4 t0 h x1 x2 x3 y0 none) (fun a17 => ck (h.kd a17 = 6) (dr h 8 x1 (fun a19 => (J_X5_find N a19 h (h.fi 600 a17)).bind (fun z => B_X1_otherKeys_43 N k4 t0 z.1 (some a19) x2 x3 (some a17) z.2))))
theorem mb_X1_otherKeys_23 (N : Nat) (k4 : Hp → (Option Nat) → Int32 → Int32 → Option (Hp × Int32)) (t0 : Nat) (h : Hp) (x1 : Option Nat) (x2 : Int32) (x3 : Int32) (y0 : Option Nat) (m4 : ∀ (h : Hp) (x1 : Option Nat) (x2 : Int32) (x3 : Int32), k4 h x1 x2 x3 = some (hz, rz) → Mo h hz) (hJ : B_X1_otherKeys_23 N k4 t0 h x1 x2 x3 y0 = some (hz, rz)) : Mo h hz := by
  unfold B_X1_otherKeys_23 at hJ
  cases ea17 : y0 with
  | none =>
    have hJ := nl_none ea17 hJ
    exact mb_X1_otherKeys_43 N k4 t0 _ _ _ _ _ _ m4 hJ
  | some a17 =>
    have hJ := nl_some ea17 hJ
    obtain ⟨-, hJ⟩ := ck_some hJ
    obtain ⟨a19, ea19, -, hJ⟩ := dr_some hJ
    obtain ⟨⟨h20, r21⟩, e22, hJ⟩ := ob_some hJ
    exact (mo_X5_find N a19 h (h.fi 600 a17) e22).tr (mb_X1_otherKeys_43 N k4 t0 _ _ _ _ _ _ m4 hJ)
set_option maxRecDepth 100000 in
set_option maxHeartbeats 4000000 in
theorem sb_X1_otherKeys_23 (C : Cx p s m args meth c cX1_otherKeys 10 (some .int) RX1 D cs A h0.se) (hz2 : hz.nx ≤ h0.nx + mc ∧ hz.su ≤ h0.su + ms) (N : Nat) (k4 : Hp → (Option Nat) → Int32 → Int32 → Option (Hp × Int32)) (t0 : Nat) (m4 : ∀ (h : Hp) (x1 : Option Nat) (x2 : Int32) (x3 : Int32), k4 h x1 x2 x3 = some (hz, rz) → Mo h hz) (i4 : ∀ (h : Hp) (x1 : Option Nat) (x2 : Int32) (x3 : Int32) (H : Heap) (locs : List Loc) (cells slots : Nat) (ls : Array Slot), k4 h x1 x2 x3 = some (hz, rz) → h.kd t0 = 4 → Wo D cs A s h0 h H locs cells slots → lv_has ls 10 [(0, .ref t0), (1, va_rf x1), (2, .int x2), (3, .int x3)] → W p l e { frames := 5, cells := mc, slots := ms, locals := 150 } s m args below meth c H locs cells slots (MQ below (Zi D cs A hz rz) args s mc ms A) (F0 m 4 ls [])) (h : Hp) (x1 : Option Nat) (x2 : Int32) (x3 : Int32) (y0 : Option Nat) (hJ : B_X1_otherKeys_23 N k4 t0 h x1 x2 x3 y0 = some (hz, rz)) (hk0 : h.kd t0 = 4) {H : Heap} {locs : List Loc} {cells slots : Nat} (w : Wo D cs A s h0 h H locs cells slots) {ls : Array Slot} (hl : lv_has ls 10 [(0, .ref t0), (1, va_rf x1), (2, .int x2), (3, .int x3)]) : W p l e { frames := 5, cells := mc, slots := ms, locals := 150 } s m args below meth c H locs cells slots (MQ below (Zi D cs A hz rz) args s mc ms A) (F0 m 23 ls [va_rf y0]) := by
  obtain ⟨hx, hb, hml, hown, hts, -⟩ := id C
  unfold B_X1_otherKeys_23 at hJ
  refine jv_astore (i := 4) (lv' := [(4, va_rf y0), (0, .ref t0), (1, va_rf x1), (2, .int x2), (3, .int x3)]) hx hb dX1_otherKeys_23 hl (by decide) rfl (fun ls hl => ?_)
  refine jv_aload hx hb dX1_otherKeys_25 (lv_at hl 0 rfl) ?_
  refine jv_ifnonnull (tgt := 34) hx hb dX1_otherKeys_27 (by decide) (fun a17 ea17 => ?_) (fun ea17 => ?_)
  · have hJ := nl_some ea17 hJ
    rw [ea17] at hl
    refine jv_aload_n hx hb dX1_otherKeys_34 rfl (lv_at hl 2 rfl) ?_
    refine lv_aload hx hb dX1_otherKeys_35 (lv_at hl 0 rfl) ?_
    obtain ⟨hk18, hJ⟩ := ck_some hJ
    refine fg_600 C w hk18 tw_3_149 dX1_otherKeys_37 ?_
    obtain ⟨a19, ea19, hka19, hJ⟩ := dr_some hJ
    rw [ea19] at hl
    rw [ea19]
    obtain ⟨⟨h20, r21⟩, e22, hJ⟩ := ob_some hJ
    refine jc_Vq (As := [.int (h.fi 600 a17)]) C w (cc_X5_find N a19 h (h.fi 600 a17) hka19 e22) (mo_X5_find N a19 h (h.fi 600 a17) e22) (mb_X1_otherKeys_43 N k4 t0 _ _ _ _ _ _ m4 hJ) hz2 hka19 (by decide) rfl (fs := fs8 h a19) rfl rfl ⟨tw_2_202, tw_5_90, tw_2_200, tw_2_201, tw_1_2⟩ cd_X5_find ⟨by decide, by decide⟩ hl.1 (by first | exact Nat.le_of_ble_eq_true rfl | simp [rf_cat, cat_i, cat_l, cat_r]) rfl dX1_otherKeys_40 (fun H locs w1 => ?_)
    have hk23 := kd_keep w (mo_X5_find N a19 h (h.fi 600 a17) e22) hk0 (by decide)
    have w := w1
    exact sb_X1_otherKeys_43 C hz2 N k4 t0 m4 i4 _ _ _ _ _ _ hJ hk23 w (lv_sub (l' := [(0, .ref t0), (1, .ref a19), (2, .int x2), (3, .int x3), (4, .ref a17)]) hl [1, 2, 3, 4, 0] rfl)
  · have hJ := nl_none ea17 hJ
    refine lv_null hx hb dX1_otherKeys_30 ?_
    change W _ _ _ _ _ _ _ _ _ _ _ _ _ _ _ (F0 m 31 ls [va_rf none])
    refine lv_goto (tgt := 43) hx hb dX1_otherKeys_31 (by decide) ?_
    exact sb_X1_otherKeys_43 C hz2 N k4 t0 m4 i4 _ _ _ _ _ _ hJ hk0 w (lv_sub (l' := [(0, .ref t0), (1, va_rf x1), (2, .int x2), (3, .int x3), (4, va_rf y0)]) hl [1, 2, 3, 4, 0] rfl)
def B_X1_otherKeys_12 (N : Nat) (k4 : Hp → (Option Nat) → Int32 → Int32 → Option (Hp × Int32)) (t0 : Nat) (h : Hp) (x1 : Option Nat) (x2 : Int32) (x3 : Int32) (y0 : Int32) (y1 : Int32) : Option (Hp × Int32) := if y1 ≤ y0 then (some (h, x2)) else (dr h 8 (h.fr 400 t0) (fun a25 => (J_X5_chainAt N a25 h x3).bind (fun z => B_X1_otherKeys_23 N k4 t0 z.1 x1 x2 x3 z.2)))
theorem mb_X1_otherKeys_12 (N : Nat) (k4 : Hp → (Option Nat) → Int32 → Int32 → Option (Hp × Int32)) (t0 : Nat) (h : Hp) (x1 : Option Nat) (x2 : Int32) (x3 : Int32) (y0 : Int32) (y1 : Int32) (m4 : ∀ (h : Hp) (x1 : Option Nat) (x2 : Int32) (x3 : Int32), k4 h x1 x2 x3 = some (hz, rz) → Mo h hz) (hJ : B_X1_otherKeys_12 N k4 t0 h x1 x2 x3 y0 y1 = some (hz, rz)) : Mo h hz := by
  unfold B_X1_otherKeys_12 at hJ
  by_cases c24 : y1 ≤ y0
  · have hJ := it_pos c24 hJ
    obtain ⟨rfl, -⟩ := rs2 hJ
    exact ⟨fun _ _ => rfl, Nat.le_refl _, Nat.le_refl _, rfl, fun _ _ => rfl⟩
  · have hJ := it_neg c24 hJ
    obtain ⟨a25, ea25, -, hJ⟩ := dr_some hJ
    obtain ⟨⟨h26, r27⟩, e28, hJ⟩ := ob_some hJ
    exact (mo_X5_chainAt N a25 h x3 e28).tr (mb_X1_otherKeys_23 N k4 t0 _ _ _ _ _ m4 hJ)
set_option maxRecDepth 100000 in
set_option maxHeartbeats 4000000 in
theorem sb_X1_otherKeys_12 (C : Cx p s m args meth c cX1_otherKeys 10 (some .int) RX1 D cs A h0.se) (hz2 : hz.nx ≤ h0.nx + mc ∧ hz.su ≤ h0.su + ms) (N : Nat) (k4 : Hp → (Option Nat) → Int32 → Int32 → Option (Hp × Int32)) (t0 : Nat) (m4 : ∀ (h : Hp) (x1 : Option Nat) (x2 : Int32) (x3 : Int32), k4 h x1 x2 x3 = some (hz, rz) → Mo h hz) (i4 : ∀ (h : Hp) (x1 : Option Nat) (x2 : Int32) (x3 : Int32) (H : Heap) (locs : List Loc) (cells slots : Nat) (ls : Array Slot), k4 h x1 x2 x3 = some (hz, rz) → h.kd t0 = 4 → Wo D cs A s h0 h H locs cells slots → lv_has ls 10 [(0, .ref t0), (1, va_rf x1), (2, .int x2), (3, .int x3)] → W p l e { frames := 5, cells := mc, slots := ms, locals := 150 } s m args below meth c H locs cells slots (MQ below (Zi D cs A hz rz) args s mc ms A) (F0 m 4 ls [])) (h : Hp) (x1 : Option Nat) (x2 : Int32) (x3 : Int32) (y0 : Int32) (y1 : Int32) (hJ : B_X1_otherKeys_12 N k4 t0 h x1 x2 x3 y0 y1 = some (hz, rz)) (hk0 : h.kd t0 = 4) {H : Heap} {locs : List Loc} {cells slots : Nat} (w : Wo D cs A s h0 h H locs cells slots) {ls : Array Slot} (hl : lv_has ls 10 [(0, .ref t0), (1, va_rf x1), (2, .int x2), (3, .int x3)]) : W p l e { frames := 5, cells := mc, slots := ms, locals := 150 } s m args below meth c H locs cells slots (MQ below (Zi D cs A hz rz) args s mc ms A) (F0 m 12 ls [.int y1, .int y0]) := by
  obtain ⟨hx, hb, hml, hown, hts, -⟩ := id C
  unfold B_X1_otherKeys_12 at hJ
  refine lv_icmp_ge (tgt := 157) hx hb dX1_otherKeys_12 (by decide) (fun c24 => ?_) (fun c24 => ?_)
  · have hJ := it_pos c24 hJ
    refine lv_iload_n hx hb dX1_otherKeys_157 rfl (lv_at hl 2 rfl) ?_
    obtain ⟨rfl, rfl⟩ := rs2 hJ
    exact jr_iret C w hz2 dX1_otherKeys_158
  · have hJ := it_neg c24 hJ
    refine lv_aload_n hx hb dX1_otherKeys_15 rfl (lv_at hl 0 rfl) ?_
    refine fg_400 C w hk0 tw_3_13 dX1_otherKeys_16 ?_
    refine lv_iload_n hx hb dX1_otherKeys_19 rfl (lv_at hl 3 rfl) ?_
    obtain ⟨a25, ea25, hka25, hJ⟩ := dr_some hJ
    rw [ea25]
    obtain ⟨⟨h26, r27⟩, e28, hJ⟩ := ob_some hJ
    refine jc_Vq (As := [.int x3]) C w (cc_X5_chainAt N a25 h x3 hka25 e28) (mo_X5_chainAt N a25 h x3 e28) (mb_X1_otherKeys_23 N k4 t0 _ _ _ _ _ m4 hJ) hz2 hka25 (by decide) rfl (fs := fs8 h a25) rfl rfl ⟨tw_2_212, tw_3_37, tw_2_210, tw_2_211, tw_1_2⟩ cd_X5_chainAt ⟨by decide, by decide⟩ hl.1 (by first | exact Nat.le_of_ble_eq_true rfl | simp [rf_cat, cat_i, cat_l, cat_r]) rfl dX1_otherKeys_20 (fun H locs w1 => ?_)
    have hk29 := kd_keep w (mo_X5_chainAt N a25 h x3 e28) hk0 (by decide)
    have w := w1
    exact sb_X1_otherKeys_23 C hz2 N k4 t0 m4 i4 _ _ _ _ _ hJ hk29 w hl
def B_X1_otherKeys_4 (N : Nat) (k4 : Hp → (Option Nat) → Int32 → Int32 → Option (Hp × Int32)) (t0 : Nat) (h : Hp) (x1 : Option Nat) (x2 : Int32) (x3 : Int32) : Option (Hp × Int32) := dr h 8 (h.fr 400 t0) (fun a30 => (J_X5_size N a30 h).bind (fun z => B_X1_otherKeys_12 N k4 t0 z.1 x1 x2 x3 x3 z.2))
theorem mb_X1_otherKeys_4 (N : Nat) (k4 : Hp → (Option Nat) → Int32 → Int32 → Option (Hp × Int32)) (t0 : Nat) (h : Hp) (x1 : Option Nat) (x2 : Int32) (x3 : Int32) (m4 : ∀ (h : Hp) (x1 : Option Nat) (x2 : Int32) (x3 : Int32), k4 h x1 x2 x3 = some (hz, rz) → Mo h hz) (hJ : B_X1_otherKeys_4 N k4 t0 h x1 x2 x3 = some (hz, rz)) : Mo h hz := by
  unfold B_X1_otherKeys_4 at hJ
  obtain ⟨a30, ea30, -, hJ⟩ := dr_some hJ
  obtain ⟨⟨h31, r32⟩, e33, hJ⟩ := ob_some hJ
  exact (mo_X5_size N a30 h e33).tr (mb_X1_otherKeys_12 N k4 t0 _ _ _ _ _ _ m4 hJ)
set_option maxRecDepth 100000 in
set_option maxHeartbeats 4000000 in
theorem sb_X1_otherKeys_4 (C : Cx p s m args meth c cX1_otherKeys 10 (some .int) RX1 D cs A h0.se) (hz2 : hz.nx ≤ h0.nx + mc ∧ hz.su ≤ h0.su + ms) (N : Nat) (k4 : Hp → (Option Nat) → Int32 → Int32 → Option (Hp × Int32)) (t0 : Nat) (m4 : ∀ (h : Hp) (x1 : Option Nat) (x2 : Int32) (x3 : Int32), k4 h x1 x2 x3 = some (hz, rz) → Mo h hz) (i4 : ∀ (h : Hp) (x1 : Option Nat) (x2 : Int32) (x3 : Int32) (H : Heap) (locs : List Loc) (cells slots : Nat) (ls : Array Slot), k4 h x1 x2 x3 = some (hz, rz) → h.kd t0 = 4 → Wo D cs A s h0 h H locs cells slots → lv_has ls 10 [(0, .ref t0), (1, va_rf x1), (2, .int x2), (3, .int x3)] → W p l e { frames := 5, cells := mc, slots := ms, locals := 150 } s m args below meth c H locs cells slots (MQ below (Zi D cs A hz rz) args s mc ms A) (F0 m 4 ls [])) (h : Hp) (x1 : Option Nat) (x2 : Int32) (x3 : Int32) (hJ : B_X1_otherKeys_4 N k4 t0 h x1 x2 x3 = some (hz, rz)) (hk0 : h.kd t0 = 4) {H : Heap} {locs : List Loc} {cells slots : Nat} (w : Wo D cs A s h0 h H locs cells slots) {ls : Array Slot} (hl : lv_has ls 10 [(0, .ref t0), (1, va_rf x1), (2, .int x2), (3, .int x3)]) : W p l e { frames := 5, cells := mc, slots := ms, locals := 150 } s m args below meth c H locs cells slots (MQ below (Zi D cs A hz rz) args s mc ms A) (F0 m 4 ls []) := by
  obtain ⟨hx, hb, hml, hown, hts, -⟩ := id C
  unfold B_X1_otherKeys_4 at hJ
  refine lv_iload_n hx hb dX1_otherKeys_4 rfl (lv_at hl 3 rfl) ?_
  refine lv_aload_n hx hb dX1_otherKeys_5 rfl (lv_at hl 0 rfl) ?_
  refine fg_400 C w hk0 tw_3_13 dX1_otherKeys_6 ?_
  obtain ⟨a30, ea30, hka30, hJ⟩ := dr_some hJ
  rw [ea30]
  obtain ⟨⟨h31, r32⟩, e33, hJ⟩ := ob_some hJ
  refine jc_Vi (As := []) C w (cc_X5_size N a30 h hka30 e33) (mo_X5_size N a30 h e33) (mb_X1_otherKeys_12 N k4 t0 _ _ _ _ _ _ m4 hJ) hz2 hka30 (by decide) rfl (fs := fs8 h a30) rfl rfl ⟨tw_2_181, tw_3_36, tw_2_179, tw_2_180, tw_1_2⟩ cd_X5_size ⟨by decide, by decide⟩ hl.1 (by first | exact Nat.le_of_ble_eq_true rfl | simp [rf_cat, cat_i, cat_l, cat_r]) rfl dX1_otherKeys_9 (fun H locs w1 => ?_)
  have hk34 := kd_keep w (mo_X5_size N a30 h e33) hk0 (by decide)
  have w := w1
  exact sb_X1_otherKeys_12 C hz2 N k4 t0 m4 i4 _ _ _ _ _ _ hJ hk34 w hl
def L_X1_otherKeys_4 (N : Nat) (t0 : Nat) : Nat → Hp → (Option Nat) → Int32 → Int32 → Option (Hp × Int32)
  | 0 => fun _ _ _ _ => none
  | n + 1 => fun h x1 x2 x3 => B_X1_otherKeys_4 N (L_X1_otherKeys_4 N t0 n) t0 h x1 x2 x3
theorem ml_X1_otherKeys_4 (N : Nat) (t0 : Nat) : ∀ (n : Nat) (h : Hp) (x1 : Option Nat) (x2 : Int32) (x3 : Int32), L_X1_otherKeys_4 N t0 n h x1 x2 x3 = some (hz, rz) → Mo h hz := by
  intro n
  induction n with
  | zero => intro h x1 x2 x3 hJ; cases hJ
  | succ n ih => intro h x1 x2 x3 hJ; exact mb_X1_otherKeys_4 N (L_X1_otherKeys_4 N t0 n) t0 h x1 x2 x3 ih hJ
theorem sl_X1_otherKeys_4 (C : Cx p s m args meth c cX1_otherKeys 10 (some .int) RX1 D cs A h0.se) (hz2 : hz.nx ≤ h0.nx + mc ∧ hz.su ≤ h0.su + ms) (N : Nat) (t0 : Nat) : ∀ n : Nat, ∀ (h : Hp) (x1 : Option Nat) (x2 : Int32) (x3 : Int32) (H : Heap) (locs : List Loc) (cells slots : Nat) (ls : Array Slot), L_X1_otherKeys_4 N t0 n h x1 x2 x3 = some (hz, rz) → h.kd t0 = 4 → Wo D cs A s h0 h H locs cells slots → lv_has ls 10 [(0, .ref t0), (1, va_rf x1), (2, .int x2), (3, .int x3)] → W p l e { frames := 5, cells := mc, slots := ms, locals := 150 } s m args below meth c H locs cells slots (MQ below (Zi D cs A hz rz) args s mc ms A) (F0 m 4 ls []) := by
  intro n
  induction n with
  | zero => intro h x1 x2 x3 H locs cells slots ls hJ; cases hJ
  | succ n ih =>
    intro h x1 x2 x3 H locs cells slots ls hJ hk0 w hl
    exact sb_X1_otherKeys_4 C hz2 N (L_X1_otherKeys_4 N t0 n) t0 (ml_X1_otherKeys_4 N t0 n) ih h x1 x2 x3 hJ hk0 w hl
def B_X1_otherKeys_0 (N : Nat) (t0 : Nat) (h : Hp) (x1 : Option Nat) : Option (Hp × Int32) := L_X1_otherKeys_4 N t0 N h x1 (0 : Int32) (0 : Int32)
theorem mb_X1_otherKeys_0 (N : Nat) (t0 : Nat) (h : Hp) (x1 : Option Nat) (hJ : B_X1_otherKeys_0 N t0 h x1 = some (hz, rz)) : Mo h hz := by
  unfold B_X1_otherKeys_0 at hJ
  exact ml_X1_otherKeys_4 N t0 N _ _ _ _ hJ
set_option maxRecDepth 100000 in
set_option maxHeartbeats 4000000 in
theorem sb_X1_otherKeys_0 (C : Cx p s m args meth c cX1_otherKeys 10 (some .int) RX1 D cs A h0.se) (hz2 : hz.nx ≤ h0.nx + mc ∧ hz.su ≤ h0.su + ms) (N : Nat) (t0 : Nat) (h : Hp) (x1 : Option Nat) (hJ : B_X1_otherKeys_0 N t0 h x1 = some (hz, rz)) (hk0 : h.kd t0 = 4) {H : Heap} {locs : List Loc} {cells slots : Nat} (w : Wo D cs A s h0 h H locs cells slots) {ls : Array Slot} (hl : lv_has ls 10 [(0, .ref t0), (1, va_rf x1)]) : W p l e { frames := 5, cells := mc, slots := ms, locals := 150 } s m args below meth c H locs cells slots (MQ below (Zi D cs A hz rz) args s mc ms A) (F0 m 0 ls []) := by
  obtain ⟨hx, hb, hml, hown, hts, -⟩ := id C
  unfold B_X1_otherKeys_0 at hJ
  refine lv_iconst (v := (0 : Int32)) hx hb dX1_otherKeys_0 (by decide) ?_
  refine lv_istore_n (i := 2) (lv' := [(2, .int (0 : Int32)), (0, .ref t0), (1, va_rf x1)]) hx hb dX1_otherKeys_1 rfl hl (by decide) (by simp [List.filter, rf_cat, cat_i, cat_l, cat_r]) (fun ls hl => ?_)
  refine lv_iconst (v := (0 : Int32)) hx hb dX1_otherKeys_2 (by decide) ?_
  refine lv_istore_n (i := 3) (lv' := [(3, .int (0 : Int32)), (2, .int (0 : Int32)), (0, .ref t0), (1, va_rf x1)]) hx hb dX1_otherKeys_3 rfl hl (by decide) rfl (fun ls hl => ?_)
  exact sl_X1_otherKeys_4 C hz2 N t0 N _ _ _ _ _ _ _ _ _ hJ hk0 w (lv_sub (l' := [(0, .ref t0), (1, va_rf x1), (2, .int (0 : Int32)), (3, .int (0 : Int32))]) hl [2, 3, 1, 0] rfl)
def J_X1_otherKeys (N : Nat) (t0 : Nat) (h : Hp) (x1 : Option Nat) : Option (Hp × Int32) := B_X1_otherKeys_0 N t0 h x1
theorem mo_X1_otherKeys (N : Nat) (t0 : Nat) (h : Hp) (x1 : Option Nat) (hJ : J_X1_otherKeys N t0 h x1 = some (hz, rz)) : Mo h hz := mb_X1_otherKeys_0 N t0 h x1 hJ
theorem cd_X1_otherKeys : Cd yX1_otherKeys 1 := ⟨by decide +kernel, by decide +kernel, by decide +kernel⟩
theorem cc_X1_otherKeys (N : Nat) (t0 : Nat) (h : Hp) (x1 : Option Nat) (hk0 : h.kd t0 = 4) (hJ : J_X1_otherKeys N t0 h x1 = some (hz, rz)) : Ci l yX1_otherKeys cX1_otherKeys 10 (some .int) 5 150 D cs h hz [.ref t0, va_rf x1] rz := by
  intro mc ms g1 g2
  refine je_any (by decide) (by simp [lg_sl, rf_cat, cat_i, cat_l, cat_r]) ?_
  intro p e s m args below meth c C hin2 w ls hl
  have hl : lv_has ls 10 [(0, .ref t0), (1, va_rf x1)] := by simpa [lv_args, rf_cat, cat_i, cat_l, cat_r] using hl
  exact sb_X1_otherKeys_0 C ⟨g1, g2⟩ N t0 h x1 hJ hk0 w hl
end G_X1_otherKeys
section G_X1_differences
variable {p : Program} {l : Launch} {e : Env} {s : State} {m : MethodId} {args : Array Value} {below : List Frame} {meth : Method} {c : Code} {D : va_G} {cs : C4} {A : Nat → Prop} {h0 hz : Hp} {mc ms : Nat} {rz : Int32}
def B_X1_differences_120 (N : Nat) (k13 : Hp → (Option Nat) → (Option Nat) → Int32 → Int32 → Option (Hp × Int32)) (k61 : Hp → (Option Nat) → (Option Nat) → Int32 → Int32 → (Option Nat) → (Option Nat) → Int32 → Option (Hp × Int32)) (t0 : Nat) (h : Hp) (x1 : Option Nat) (x2 : Option Nat) (x3 : Int32) (x4 : Int32) (x5 : Option Nat) (x6 : Option Nat) (x7 : Int32) : Option (Hp × Int32) := k61 h x1 x2 x3 x4 x5 x6 (x7 + (1 : Int32))
theorem mb_X1_differences_120 (N : Nat) (k13 : Hp → (Option Nat) → (Option Nat) → Int32 → Int32 → Option (Hp × Int32)) (k61 : Hp → (Option Nat) → (Option Nat) → Int32 → Int32 → (Option Nat) → (Option Nat) → Int32 → Option (Hp × Int32)) (t0 : Nat) (h : Hp) (x1 : Option Nat) (x2 : Option Nat) (x3 : Int32) (x4 : Int32) (x5 : Option Nat) (x6 : Option Nat) (x7 : Int32) (m13 : ∀ (h : Hp) (x1 : Option Nat) (x2 : Option Nat) (x3 : Int32) (x4 : Int32), k13 h x1 x2 x3 x4 = some (hz, rz) → Mo h hz) (m61 : ∀ (h : Hp) (x1 : Option Nat) (x2 : Option Nat) (x3 : Int32) (x4 : Int32) (x5 : Option Nat) (x6 : Option Nat) (x7 : Int32), k61 h x1 x2 x3 x4 x5 x6 x7 = some (hz, rz) → Mo h hz) (hJ : B_X1_differences_120 N k13 k61 t0 h x1 x2 x3 x4 x5 x6 x7 = some (hz, rz)) : Mo h hz := by
  unfold B_X1_differences_120 at hJ
  exact m61 _ _ _ _ _ _ _ _ hJ
set_option maxRecDepth 100000 in
set_option maxHeartbeats 4000000 in
theorem sb_X1_differences_120 (C : Cx p s m args meth c cX1_differences 9 (some .int) RX1 D cs A h0.se) (hz2 : hz.nx ≤ h0.nx + mc ∧ hz.su ≤ h0.su + ms) (N : Nat) (k13 : Hp → (Option Nat) → (Option Nat) → Int32 → Int32 → Option (Hp × Int32)) (k61 : Hp → (Option Nat) → (Option Nat) → Int32 → Int32 → (Option Nat) → (Option Nat) → Int32 → Option (Hp × Int32)) (t0 : Nat) (m13 : ∀ (h : Hp) (x1 : Option Nat) (x2 : Option Nat) (x3 : Int32) (x4 : Int32), k13 h x1 x2 x3 x4 = some (hz, rz) → Mo h hz) (m61 : ∀ (h : Hp) (x1 : Option Nat) (x2 : Option Nat) (x3 : Int32) (x4 : Int32) (x5 : Option Nat) (x6 : Option Nat) (x7 : Int32), k61 h x1 x2 x3 x4 x5 x6 x7 = some (hz, rz) → Mo h hz) (i13 : ∀ (h : Hp) (x1 : Option Nat) (x2 : Option Nat) (x3 : Int32) (x4 : Int32) (H : Heap) (locs : List Loc) (cells slots : Nat) (ls : Array Slot), k13 h x1 x2 x3 x4 = some (hz, rz) → h.kd t0 = 4 → Wo D cs A s h0 h H locs cells slots → lv_has ls 9 [(0, .ref t0), (1, va_rf x1), (2, va_rf x2), (3, .int x3), (4, .int x4)] → W p l e { frames := 9, cells := mc, slots := ms, locals := 290 } s m args below meth c H locs cells slots (MQ below (Zi D cs A hz rz) args s mc ms A) (F0 m 13 ls [])) (i61 : ∀ (h : Hp) (x1 : Option Nat) (x2 : Option Nat) (x3 : Int32) (x4 : Int32) (x5 : Option Nat) (x6 : Option Nat) (x7 : Int32) (H : Heap) (locs : List Loc) (cells slots : Nat) (ls : Array Slot), k61 h x1 x2 x3 x4 x5 x6 x7 = some (hz, rz) → h.kd t0 = 4 → Wo D cs A s h0 h H locs cells slots → lv_has ls 9 [(0, .ref t0), (1, va_rf x1), (2, va_rf x2), (3, .int x3), (4, .int x4), (5, va_rf x5), (6, va_rf x6), (7, .int x7)] → W p l e { frames := 9, cells := mc, slots := ms, locals := 290 } s m args below meth c H locs cells slots (MQ below (Zi D cs A hz rz) args s mc ms A) (F0 m 61 ls [])) (h : Hp) (x1 : Option Nat) (x2 : Option Nat) (x3 : Int32) (x4 : Int32) (x5 : Option Nat) (x6 : Option Nat) (x7 : Int32) (hJ : B_X1_differences_120 N k13 k61 t0 h x1 x2 x3 x4 x5 x6 x7 = some (hz, rz)) (hk0 : h.kd t0 = 4) {H : Heap} {locs : List Loc} {cells slots : Nat} (w : Wo D cs A s h0 h H locs cells slots) {ls : Array Slot} (hl : lv_has ls 9 [(0, .ref t0), (1, va_rf x1), (2, va_rf x2), (3, .int x3), (4, .int x4), (5, va_rf x5), (6, va_rf x6), (7, .int x7)]) : W p l e { frames := 9, cells := mc, slots := ms, locals := 290 } s m args below meth c H locs cells slots (MQ below (Zi D cs A hz rz) args s mc ms A) (F0 m 120 ls []) := by
  obtain ⟨hx, hb, hml, hown, hts, -⟩ := id C
  unfold B_X1_differences_120 at hJ
  refine lv_iinc (v := x7 + (1 : Int32)) (lv' := [(7, .int (x7 + (1 : Int32))), (0, .ref t0), (1, va_rf x1), (2, va_rf x2), (3, .int x3), (4, .int x4), (5, va_rf x5), (6, va_rf x6)]) hx hb dX1_differences_120 hl (k := 7) rfl rfl (by decide) (by simp [List.filter, rf_cat, cat_i, cat_l, cat_r]) (fun ls hl => ?_)
  refine lv_goto (tgt := 61) hx hb dX1_differences_123 (by decide) ?_
  exact i61 _ _ _ _ _ _ _ _ _ _ _ _ _ hJ hk0 w (lv_sub (l' := [(0, .ref t0), (1, va_rf x1), (2, va_rf x2), (3, .int x3), (4, .int x4), (5, va_rf x5), (6, va_rf x6), (7, .int (x7 + (1 : Int32)))]) hl [1, 2, 3, 4, 5, 6, 7, 0] rfl)
def B_X1_differences_114 (N : Nat) (k13 : Hp → (Option Nat) → (Option Nat) → Int32 → Int32 → Option (Hp × Int32)) (k61 : Hp → (Option Nat) → (Option Nat) → Int32 → Int32 → (Option Nat) → (Option Nat) → Int32 → Option (Hp × Int32)) (t0 : Nat) (h : Hp) (x1 : Option Nat) (x2 : Option Nat) (x3 : Int32) (x4 : Int32) (x5 : Option Nat) (x6 : Option Nat) (x7 : Int32) (y0 : Int32) : Option (Hp × Int32) := if y0 = 0 then (B_X1_differences_120 N k13 k61 t0 h x1 x2 (x3 + (1 : Int32)) x4 x5 x6 x7) else (B_X1_differences_120 N k13 k61 t0 h x1 x2 x3 x4 x5 x6 x7)
theorem mb_X1_differences_114 (N : Nat) (k13 : Hp → (Option Nat) → (Option Nat) → Int32 → Int32 → Option (Hp × Int32)) (k61 : Hp → (Option Nat) → (Option Nat) → Int32 → Int32 → (Option Nat) → (Option Nat) → Int32 → Option (Hp × Int32)) (t0 : Nat) (h : Hp) (x1 : Option Nat) (x2 : Option Nat) (x3 : Int32) (x4 : Int32) (x5 : Option Nat) (x6 : Option Nat) (x7 : Int32) (y0 : Int32) (m13 : ∀ (h : Hp) (x1 : Option Nat) (x2 : Option Nat) (x3 : Int32) (x4 : Int32), k13 h x1 x2 x3 x4 = some (hz, rz) → Mo h hz) (m61 : ∀ (h : Hp) (x1 : Option Nat) (x2 : Option Nat) (x3 : Int32) (x4 : Int32) (x5 : Option Nat) (x6 : Option Nat) (x7 : Int32), k61 h x1 x2 x3 x4 x5 x6 x7 = some (hz, rz) → Mo h hz) (hJ : B_X1_differences_114 N k13 k61 t0 h x1 x2 x3 x4 x5 x6 x7 y0 = some (hz, rz)) : Mo h hz := by
  unfold B_X1_differences_114 at hJ
  by_cases c1 : y0 = 0
  · have hJ := it_pos c1 hJ
    exact mb_X1_differences_120 N k13 k61 t0 _ _ _ _ _ _ _ _ m13 m61 hJ
  · have hJ := it_neg c1 hJ
    exact mb_X1_differences_120 N k13 k61 t0 _ _ _ _ _ _ _ _ m13 m61 hJ
set_option maxRecDepth 100000 in
set_option maxHeartbeats 4000000 in
theorem sb_X1_differences_114 (C : Cx p s m args meth c cX1_differences 9 (some .int) RX1 D cs A h0.se) (hz2 : hz.nx ≤ h0.nx + mc ∧ hz.su ≤ h0.su + ms) (N : Nat) (k13 : Hp → (Option Nat) → (Option Nat) → Int32 → Int32 → Option (Hp × Int32)) (k61 : Hp → (Option Nat) → (Option Nat) → Int32 → Int32 → (Option Nat) → (Option Nat) → Int32 → Option (Hp × Int32)) (t0 : Nat) (m13 : ∀ (h : Hp) (x1 : Option Nat) (x2 : Option Nat) (x3 : Int32) (x4 : Int32), k13 h x1 x2 x3 x4 = some (hz, rz) → Mo h hz) (m61 : ∀ (h : Hp) (x1 : Option Nat) (x2 : Option Nat) (x3 : Int32) (x4 : Int32) (x5 : Option Nat) (x6 : Option Nat) (x7 : Int32), k61 h x1 x2 x3 x4 x5 x6 x7 = some (hz, rz) → Mo h hz) (i13 : ∀ (h : Hp) (x1 : Option Nat) (x2 : Option Nat) (x3 : Int32) (x4 : Int32) (H : Heap) (locs : List Loc) (cells slots : Nat) (ls : Array Slot), k13 h x1 x2 x3 x4 = some (hz, rz) → h.kd t0 = 4 → Wo D cs A s h0 h H locs cells slots → lv_has ls 9 [(0, .ref t0), (1, va_rf x1), (2, va_rf x2), (3, .int x3), (4, .int x4)] → W p l e { frames := 9, cells := mc, slots := ms, locals := 290 } s m args below meth c H locs cells slots (MQ below (Zi D cs A hz rz) args s mc ms A) (F0 m 13 ls [])) (i61 : ∀ (h : Hp) (x1 : Option Nat) (x2 : Option Nat) (x3 : Int32) (x4 : Int32) (x5 : Option Nat) (x6 : Option Nat) (x7 : Int32) (H : Heap) (locs : List Loc) (cells slots : Nat) (ls : Array Slot), k61 h x1 x2 x3 x4 x5 x6 x7 = some (hz, rz) → h.kd t0 = 4 → Wo D cs A s h0 h H locs cells slots → lv_has ls 9 [(0, .ref t0), (1, va_rf x1), (2, va_rf x2), (3, .int x3), (4, .int x4), (5, va_rf x5), (6, va_rf x6), (7, .int x7)] → W p l e { frames := 9, cells := mc, slots := ms, locals := 290 } s m args below meth c H locs cells slots (MQ below (Zi D cs A hz rz) args s mc ms A) (F0 m 61 ls [])) (h : Hp) (x1 : Option Nat) (x2 : Option Nat) (x3 : Int32) (x4 : Int32) (x5 : Option Nat) (x6 : Option Nat) (x7 : Int32) (y0 : Int32) (hJ : B_X1_differences_114 N k13 k61 t0 h x1 x2 x3 x4 x5 x6 x7 y0 = some (hz, rz)) (hk0 : h.kd t0 = 4) {H : Heap} {locs : List Loc} {cells slots : Nat} (w : Wo D cs A s h0 h H locs cells slots) {ls : Array Slot} (hl : lv_has ls 9 [(0, .ref t0), (1, va_rf x1), (2, va_rf x2), (3, .int x3), (4, .int x4), (5, va_rf x5), (6, va_rf x6), (7, .int x7)]) : W p l e { frames := 9, cells := mc, slots := ms, locals := 290 } s m args below meth c H locs cells slots (MQ below (Zi D cs A hz rz) args s mc ms A) (F0 m 114 ls [.int y0]) := by
  obtain ⟨hx, hb, hml, hown, hts, -⟩ := id C
  unfold B_X1_differences_114 at hJ
  refine lv_if_ne (tgt := 120) hx hb dX1_differences_114 (by decide) (fun c1 => ?_) (fun c1 => ?_)
  · have hJ := it_neg c1 hJ
    exact sb_X1_differences_120 C hz2 N k13 k61 t0 m13 m61 i13 i61 _ _ _ _ _ _ _ _ hJ hk0 w hl
  · have hJ := it_pos c1 hJ
    refine lv_iinc (v := x3 + (1 : Int32)) (lv' := [(3, .int (x3 + (1 : Int32))), (0, .ref t0), (1, va_rf x1), (2, va_rf x2), (4, .int x4), (5, va_rf x5), (6, va_rf x6), (7, .int x7)]) hx hb dX1_differences_117 hl (k := 3) rfl rfl (by decide) (by simp [List.filter, rf_cat, cat_i, cat_l, cat_r]) (fun ls hl => ?_)
    exact sb_X1_differences_120 C hz2 N k13 k61 t0 m13 m61 i13 i61 _ _ _ _ _ _ _ _ hJ hk0 w (lv_sub (l' := [(0, .ref t0), (1, va_rf x1), (2, va_rf x2), (3, .int (x3 + (1 : Int32))), (4, .int x4), (5, va_rf x5), (6, va_rf x6), (7, .int x7)]) hl [1, 2, 3, 0, 4, 5, 6, 7] rfl)
def B_X1_differences_97 (N : Nat) (k13 : Hp → (Option Nat) → (Option Nat) → Int32 → Int32 → Option (Hp × Int32)) (k61 : Hp → (Option Nat) → (Option Nat) → Int32 → Int32 → (Option Nat) → (Option Nat) → Int32 → Option (Hp × Int32)) (t0 : Nat) (h : Hp) (x1 : Option Nat) (x2 : Option Nat) (x3 : Int32) (x4 : Int32) (x5 : Option Nat) (x6 : Option Nat) (x7 : Int32) (x8 : Option Nat) : Option (Hp × Int32) := dr h 5 x8 (fun a2 => nl (h.fr 506 a2) (B_X1_differences_120 N k13 k61 t0 h x1 x2 x3 x4 x5 x6 x7) (fun a3 => dr h 3 x1 (fun a4 => (J_X0_tellsAs N a4 h (h.fr 506 a2)).bind (fun z => B_X1_differences_114 N k13 k61 t0 z.1 (some a4) x2 x3 x4 x5 x6 x7 z.2))))
theorem mb_X1_differences_97 (N : Nat) (k13 : Hp → (Option Nat) → (Option Nat) → Int32 → Int32 → Option (Hp × Int32)) (k61 : Hp → (Option Nat) → (Option Nat) → Int32 → Int32 → (Option Nat) → (Option Nat) → Int32 → Option (Hp × Int32)) (t0 : Nat) (h : Hp) (x1 : Option Nat) (x2 : Option Nat) (x3 : Int32) (x4 : Int32) (x5 : Option Nat) (x6 : Option Nat) (x7 : Int32) (x8 : Option Nat) (m13 : ∀ (h : Hp) (x1 : Option Nat) (x2 : Option Nat) (x3 : Int32) (x4 : Int32), k13 h x1 x2 x3 x4 = some (hz, rz) → Mo h hz) (m61 : ∀ (h : Hp) (x1 : Option Nat) (x2 : Option Nat) (x3 : Int32) (x4 : Int32) (x5 : Option Nat) (x6 : Option Nat) (x7 : Int32), k61 h x1 x2 x3 x4 x5 x6 x7 = some (hz, rz) → Mo h hz) (hJ : B_X1_differences_97 N k13 k61 t0 h x1 x2 x3 x4 x5 x6 x7 x8 = some (hz, rz)) : Mo h hz := by
  unfold B_X1_differences_97 at hJ
  obtain ⟨a2, ea2, -, hJ⟩ := dr_some hJ
  cases ea3 : (h.fr 506 a2) with
  | none =>
    have hJ := nl_none ea3 hJ
    exact mb_X1_differences_120 N k13 k61 t0 _ _ _ _ _ _ _ _ m13 m61 hJ
  | some a3 =>
    have hJ := nl_some ea3 hJ
    obtain ⟨a4, ea4, -, hJ⟩ := dr_some hJ
    obtain ⟨⟨h5, r6⟩, e7, hJ⟩ := ob_some hJ
    exact (mo_X0_tellsAs N a4 h (h.fr 506 a2) e7).tr (mb_X1_differences_114 N k13 k61 t0 _ _ _ _ _ _ _ _ _ m13 m61 hJ)
set_option maxRecDepth 100000 in
set_option maxHeartbeats 4000000 in
theorem sb_X1_differences_97 (C : Cx p s m args meth c cX1_differences 9 (some .int) RX1 D cs A h0.se) (hz2 : hz.nx ≤ h0.nx + mc ∧ hz.su ≤ h0.su + ms) (N : Nat) (k13 : Hp → (Option Nat) → (Option Nat) → Int32 → Int32 → Option (Hp × Int32)) (k61 : Hp → (Option Nat) → (Option Nat) → Int32 → Int32 → (Option Nat) → (Option Nat) → Int32 → Option (Hp × Int32)) (t0 : Nat) (m13 : ∀ (h : Hp) (x1 : Option Nat) (x2 : Option Nat) (x3 : Int32) (x4 : Int32), k13 h x1 x2 x3 x4 = some (hz, rz) → Mo h hz) (m61 : ∀ (h : Hp) (x1 : Option Nat) (x2 : Option Nat) (x3 : Int32) (x4 : Int32) (x5 : Option Nat) (x6 : Option Nat) (x7 : Int32), k61 h x1 x2 x3 x4 x5 x6 x7 = some (hz, rz) → Mo h hz) (i13 : ∀ (h : Hp) (x1 : Option Nat) (x2 : Option Nat) (x3 : Int32) (x4 : Int32) (H : Heap) (locs : List Loc) (cells slots : Nat) (ls : Array Slot), k13 h x1 x2 x3 x4 = some (hz, rz) → h.kd t0 = 4 → Wo D cs A s h0 h H locs cells slots → lv_has ls 9 [(0, .ref t0), (1, va_rf x1), (2, va_rf x2), (3, .int x3), (4, .int x4)] → W p l e { frames := 9, cells := mc, slots := ms, locals := 290 } s m args below meth c H locs cells slots (MQ below (Zi D cs A hz rz) args s mc ms A) (F0 m 13 ls [])) (i61 : ∀ (h : Hp) (x1 : Option Nat) (x2 : Option Nat) (x3 : Int32) (x4 : Int32) (x5 : Option Nat) (x6 : Option Nat) (x7 : Int32) (H : Heap) (locs : List Loc) (cells slots : Nat) (ls : Array Slot), k61 h x1 x2 x3 x4 x5 x6 x7 = some (hz, rz) → h.kd t0 = 4 → Wo D cs A s h0 h H locs cells slots → lv_has ls 9 [(0, .ref t0), (1, va_rf x1), (2, va_rf x2), (3, .int x3), (4, .int x4), (5, va_rf x5), (6, va_rf x6), (7, .int x7)] → W p l e { frames := 9, cells := mc, slots := ms, locals := 290 } s m args below meth c H locs cells slots (MQ below (Zi D cs A hz rz) args s mc ms A) (F0 m 61 ls [])) (h : Hp) (x1 : Option Nat) (x2 : Option Nat) (x3 : Int32) (x4 : Int32) (x5 : Option Nat) (x6 : Option Nat) (x7 : Int32) (x8 : Option Nat) (hJ : B_X1_differences_97 N k13 k61 t0 h x1 x2 x3 x4 x5 x6 x7 x8 = some (hz, rz)) (hk0 : h.kd t0 = 4) {H : Heap} {locs : List Loc} {cells slots : Nat} (w : Wo D cs A s h0 h H locs cells slots) {ls : Array Slot} (hl : lv_has ls 9 [(0, .ref t0), (1, va_rf x1), (2, va_rf x2), (3, .int x3), (4, .int x4), (5, va_rf x5), (6, va_rf x6), (7, .int x7), (8, va_rf x8)]) : W p l e { frames := 9, cells := mc, slots := ms, locals := 290 } s m args below meth c H locs cells slots (MQ below (Zi D cs A hz rz) args s mc ms A) (F0 m 97 ls []) := by
  obtain ⟨hx, hb, hml, hown, hts, -⟩ := id C
  unfold B_X1_differences_97 at hJ
  refine jv_aload hx hb dX1_differences_97 (lv_at hl 8 rfl) ?_
  obtain ⟨a2, ea2, hka2, hJ⟩ := dr_some hJ
  rw [ea2] at hl
  rw [ea2]
  refine fg_506 C w hka2 tw_5_149 dX1_differences_99 ?_
  refine jv_ifnull (tgt := 120) hx hb dX1_differences_102 (by decide) (fun ea3 => ?_) (fun a3 ea3 => ?_)
  · have hJ := nl_none ea3 hJ
    exact sb_X1_differences_120 C hz2 N k13 k61 t0 m13 m61 i13 i61 _ _ _ _ _ _ _ _ hJ hk0 w (lv_sub (l' := [(0, .ref t0), (1, va_rf x1), (2, va_rf x2), (3, .int x3), (4, .int x4), (5, va_rf x5), (6, va_rf x6), (7, .int x7)]) hl [0, 1, 2, 3, 4, 5, 6, 7] rfl)
  · have hJ := nl_some ea3 hJ
    refine jv_aload_n hx hb dX1_differences_105 rfl (lv_at hl 1 rfl) ?_
    refine lv_aload hx hb dX1_differences_106 (lv_at hl 8 rfl) ?_
    refine fg_506 C w hka2 tw_5_149 dX1_differences_108 ?_
    obtain ⟨a4, ea4, hka4, hJ⟩ := dr_some hJ
    rw [ea4] at hl
    rw [ea4]
    obtain ⟨⟨h5, r6⟩, e7, hJ⟩ := ob_some hJ
    refine jc_Vi (As := [va_rf (h.fr 506 a2)]) C w (cc_X0_tellsAs N a4 h (h.fr 506 a2) hka4 e7) (mo_X0_tellsAs N a4 h (h.fr 506 a2) e7) (mb_X1_differences_114 N k13 k61 t0 _ _ _ _ _ _ _ _ _ m13 m61 hJ) hz2 hka4 (by decide) rfl (fs := fs3 h a4) rfl rfl ⟨tw_5_76, tw_5_73, tw_5_74, tw_5_75, tw_1_6⟩ cd_X0_tellsAs ⟨by decide, by decide⟩ hl.1 (by first | exact Nat.le_of_ble_eq_true rfl | simp [rf_cat, cat_i, cat_l, cat_r]) rfl dX1_differences_111 (fun H locs w1 => ?_)
    have hk8 := kd_keep w (mo_X0_tellsAs N a4 h (h.fr 506 a2) e7) hk0 (by decide)
    have w := w1
    exact sb_X1_differences_114 C hz2 N k13 k61 t0 m13 m61 i13 i61 _ _ _ _ _ _ _ _ _ hJ hk8 w (lv_sub (l' := [(0, .ref t0), (1, .ref a4), (2, va_rf x2), (3, .int x3), (4, .int x4), (5, va_rf x5), (6, va_rf x6), (7, .int x7)]) hl [0, 1, 2, 3, 4, 5, 6, 7] rfl)
def B_X1_differences_84 (N : Nat) (k13 : Hp → (Option Nat) → (Option Nat) → Int32 → Int32 → Option (Hp × Int32)) (k61 : Hp → (Option Nat) → (Option Nat) → Int32 → Int32 → (Option Nat) → (Option Nat) → Int32 → Option (Hp × Int32)) (t0 : Nat) (h : Hp) (x1 : Option Nat) (x2 : Option Nat) (x3 : Int32) (x4 : Int32) (x5 : Option Nat) (x6 : Option Nat) (x7 : Int32) (y0 : Option Nat) : Option (Hp × Int32) := dr h 5 y0 (fun a9 => (J_X2_carryOut N a9 h x6 x1).bind (fun z => B_X1_differences_97 N k13 k61 t0 z.1 x1 x2 x3 x4 x5 x6 x7 (some a9)))
theorem mb_X1_differences_84 (N : Nat) (k13 : Hp → (Option Nat) → (Option Nat) → Int32 → Int32 → Option (Hp × Int32)) (k61 : Hp → (Option Nat) → (Option Nat) → Int32 → Int32 → (Option Nat) → (Option Nat) → Int32 → Option (Hp × Int32)) (t0 : Nat) (h : Hp) (x1 : Option Nat) (x2 : Option Nat) (x3 : Int32) (x4 : Int32) (x5 : Option Nat) (x6 : Option Nat) (x7 : Int32) (y0 : Option Nat) (m13 : ∀ (h : Hp) (x1 : Option Nat) (x2 : Option Nat) (x3 : Int32) (x4 : Int32), k13 h x1 x2 x3 x4 = some (hz, rz) → Mo h hz) (m61 : ∀ (h : Hp) (x1 : Option Nat) (x2 : Option Nat) (x3 : Int32) (x4 : Int32) (x5 : Option Nat) (x6 : Option Nat) (x7 : Int32), k61 h x1 x2 x3 x4 x5 x6 x7 = some (hz, rz) → Mo h hz) (hJ : B_X1_differences_84 N k13 k61 t0 h x1 x2 x3 x4 x5 x6 x7 y0 = some (hz, rz)) : Mo h hz := by
  unfold B_X1_differences_84 at hJ
  obtain ⟨a9, ea9, -, hJ⟩ := dr_some hJ
  obtain ⟨⟨h10, r11⟩, e12, hJ⟩ := ob_some hJ
  exact (mo_X2_carryOut N a9 h x6 x1 e12).tr (mb_X1_differences_97 N k13 k61 t0 _ _ _ _ _ _ _ _ _ m13 m61 hJ)
set_option maxRecDepth 100000 in
set_option maxHeartbeats 4000000 in
theorem sb_X1_differences_84 (C : Cx p s m args meth c cX1_differences 9 (some .int) RX1 D cs A h0.se) (hz2 : hz.nx ≤ h0.nx + mc ∧ hz.su ≤ h0.su + ms) (N : Nat) (k13 : Hp → (Option Nat) → (Option Nat) → Int32 → Int32 → Option (Hp × Int32)) (k61 : Hp → (Option Nat) → (Option Nat) → Int32 → Int32 → (Option Nat) → (Option Nat) → Int32 → Option (Hp × Int32)) (t0 : Nat) (m13 : ∀ (h : Hp) (x1 : Option Nat) (x2 : Option Nat) (x3 : Int32) (x4 : Int32), k13 h x1 x2 x3 x4 = some (hz, rz) → Mo h hz) (m61 : ∀ (h : Hp) (x1 : Option Nat) (x2 : Option Nat) (x3 : Int32) (x4 : Int32) (x5 : Option Nat) (x6 : Option Nat) (x7 : Int32), k61 h x1 x2 x3 x4 x5 x6 x7 = some (hz, rz) → Mo h hz) (i13 : ∀ (h : Hp) (x1 : Option Nat) (x2 : Option Nat) (x3 : Int32) (x4 : Int32) (H : Heap) (locs : List Loc) (cells slots : Nat) (ls : Array Slot), k13 h x1 x2 x3 x4 = some (hz, rz) → h.kd t0 = 4 → Wo D cs A s h0 h H locs cells slots → lv_has ls 9 [(0, .ref t0), (1, va_rf x1), (2, va_rf x2), (3, .int x3), (4, .int x4)] → W p l e { frames := 9, cells := mc, slots := ms, locals := 290 } s m args below meth c H locs cells slots (MQ below (Zi D cs A hz rz) args s mc ms A) (F0 m 13 ls [])) (i61 : ∀ (h : Hp) (x1 : Option Nat) (x2 : Option Nat) (x3 : Int32) (x4 : Int32) (x5 : Option Nat) (x6 : Option Nat) (x7 : Int32) (H : Heap) (locs : List Loc) (cells slots : Nat) (ls : Array Slot), k61 h x1 x2 x3 x4 x5 x6 x7 = some (hz, rz) → h.kd t0 = 4 → Wo D cs A s h0 h H locs cells slots → lv_has ls 9 [(0, .ref t0), (1, va_rf x1), (2, va_rf x2), (3, .int x3), (4, .int x4), (5, va_rf x5), (6, va_rf x6), (7, .int x7)] → W p l e { frames := 9, cells := mc, slots := ms, locals := 290 } s m args below meth c H locs cells slots (MQ below (Zi D cs A hz rz) args s mc ms A) (F0 m 61 ls [])) (h : Hp) (x1 : Option Nat) (x2 : Option Nat) (x3 : Int32) (x4 : Int32) (x5 : Option Nat) (x6 : Option Nat) (x7 : Int32) (y0 : Option Nat) (hJ : B_X1_differences_84 N k13 k61 t0 h x1 x2 x3 x4 x5 x6 x7 y0 = some (hz, rz)) (hk0 : h.kd t0 = 4) {H : Heap} {locs : List Loc} {cells slots : Nat} (w : Wo D cs A s h0 h H locs cells slots) {ls : Array Slot} (hl : lv_has ls 9 [(0, .ref t0), (1, va_rf x1), (2, va_rf x2), (3, .int x3), (4, .int x4), (5, va_rf x5), (6, va_rf x6), (7, .int x7)]) : W p l e { frames := 9, cells := mc, slots := ms, locals := 290 } s m args below meth c H locs cells slots (MQ below (Zi D cs A hz rz) args s mc ms A) (F0 m 84 ls [va_rf y0]) := by
  obtain ⟨hx, hb, hml, hown, hts, -⟩ := id C
  unfold B_X1_differences_84 at hJ
  obtain ⟨a9, ea9, hka9, hJ⟩ := dr_some hJ
  rw [ea9]
  refine va_castS hx hb hown (hts _ tw_3_82) (C.2.2.2.2.2.1.1 5 _ rfl).2 (recv_at C w hka9 (by decide) rfl (fs := fs5 h a9) rfl) dX1_differences_84 ?_
  refine lv_astore (i := 8) (lv' := [(8, .ref a9), (0, .ref t0), (1, va_rf x1), (2, va_rf x2), (3, .int x3), (4, .int x4), (5, va_rf x5), (6, va_rf x6), (7, .int x7)]) hx hb dX1_differences_87 hl (by decide) rfl (fun ls hl => ?_)
  refine lv_aload hx hb dX1_differences_89 (lv_at hl 0 rfl) ?_
  refine jv_aload hx hb dX1_differences_91 (lv_at hl 7 rfl) ?_
  refine jv_aload_n hx hb dX1_differences_93 rfl (lv_at hl 2 rfl) ?_
  obtain ⟨⟨h10, r11⟩, e12, hJ⟩ := ob_some hJ
  refine jc_Vv (As := [va_rf x6, va_rf x1]) C w (cc_X2_carryOut N a9 h x6 x1 hka9 e12) (mo_X2_carryOut N a9 h x6 x1 e12) (mb_X1_differences_97 N k13 k61 t0 _ _ _ _ _ _ _ _ _ m13 m61 hJ) hz2 hka9 (by decide) rfl (fs := fs5 h a9) rfl rfl ⟨tw_3_86, tw_3_83, tw_3_84, tw_3_85, tw_1_21⟩ cd_X2_carryOut ⟨by decide, by decide⟩ hl.1 (by first | exact Nat.le_of_ble_eq_true rfl | simp [rf_cat, cat_i, cat_l, cat_r]) rfl dX1_differences_94 (fun H locs w1 => ?_)
  have hk13 := kd_keep w (mo_X2_carryOut N a9 h x6 x1 e12) hk0 (by decide)
  have w := w1
  exact sb_X1_differences_97 C hz2 N k13 k61 t0 m13 m61 i13 i61 _ _ _ _ _ _ _ _ _ hJ hk13 w (lv_sub (l' := [(0, .ref t0), (1, va_rf x1), (2, va_rf x2), (3, .int x3), (4, .int x4), (5, va_rf x5), (6, va_rf x6), (7, .int x7), (8, .ref a9)]) hl [1, 2, 3, 4, 5, 6, 7, 8, 0] rfl)
def B_X1_differences_135 (N : Nat) (k13 : Hp → (Option Nat) → (Option Nat) → Int32 → Int32 → Option (Hp × Int32)) (t0 : Nat) (h : Hp) (x1 : Option Nat) (x2 : Option Nat) (x3 : Int32) (x4 : Int32) : Option (Hp × Int32) := k13 h x1 x2 x3 (x4 + (1 : Int32))
theorem mb_X1_differences_135 (N : Nat) (k13 : Hp → (Option Nat) → (Option Nat) → Int32 → Int32 → Option (Hp × Int32)) (t0 : Nat) (h : Hp) (x1 : Option Nat) (x2 : Option Nat) (x3 : Int32) (x4 : Int32) (m13 : ∀ (h : Hp) (x1 : Option Nat) (x2 : Option Nat) (x3 : Int32) (x4 : Int32), k13 h x1 x2 x3 x4 = some (hz, rz) → Mo h hz) (hJ : B_X1_differences_135 N k13 t0 h x1 x2 x3 x4 = some (hz, rz)) : Mo h hz := by
  unfold B_X1_differences_135 at hJ
  exact m13 _ _ _ _ _ hJ
set_option maxRecDepth 100000 in
set_option maxHeartbeats 4000000 in
theorem sb_X1_differences_135 (C : Cx p s m args meth c cX1_differences 9 (some .int) RX1 D cs A h0.se) (hz2 : hz.nx ≤ h0.nx + mc ∧ hz.su ≤ h0.su + ms) (N : Nat) (k13 : Hp → (Option Nat) → (Option Nat) → Int32 → Int32 → Option (Hp × Int32)) (t0 : Nat) (m13 : ∀ (h : Hp) (x1 : Option Nat) (x2 : Option Nat) (x3 : Int32) (x4 : Int32), k13 h x1 x2 x3 x4 = some (hz, rz) → Mo h hz) (i13 : ∀ (h : Hp) (x1 : Option Nat) (x2 : Option Nat) (x3 : Int32) (x4 : Int32) (H : Heap) (locs : List Loc) (cells slots : Nat) (ls : Array Slot), k13 h x1 x2 x3 x4 = some (hz, rz) → h.kd t0 = 4 → Wo D cs A s h0 h H locs cells slots → lv_has ls 9 [(0, .ref t0), (1, va_rf x1), (2, va_rf x2), (3, .int x3), (4, .int x4)] → W p l e { frames := 9, cells := mc, slots := ms, locals := 290 } s m args below meth c H locs cells slots (MQ below (Zi D cs A hz rz) args s mc ms A) (F0 m 13 ls [])) (h : Hp) (x1 : Option Nat) (x2 : Option Nat) (x3 : Int32) (x4 : Int32) (hJ : B_X1_differences_135 N k13 t0 h x1 x2 x3 x4 = some (hz, rz)) (hk0 : h.kd t0 = 4) {H : Heap} {locs : List Loc} {cells slots : Nat} (w : Wo D cs A s h0 h H locs cells slots) {ls : Array Slot} (hl : lv_has ls 9 [(0, .ref t0), (1, va_rf x1), (2, va_rf x2), (3, .int x3), (4, .int x4)]) : W p l e { frames := 9, cells := mc, slots := ms, locals := 290 } s m args below meth c H locs cells slots (MQ below (Zi D cs A hz rz) args s mc ms A) (F0 m 135 ls []) := by
  obtain ⟨hx, hb, hml, hown, hts, -⟩ := id C
  unfold B_X1_differences_135 at hJ
  refine lv_iinc (v := x4 + (1 : Int32)) (lv' := [(4, .int (x4 + (1 : Int32))), (0, .ref t0), (1, va_rf x1), (2, va_rf x2), (3, .int x3)]) hx hb dX1_differences_135 hl (k := 4) rfl rfl (by decide) rfl (fun ls hl => ?_)
  refine lv_goto (tgt := 13) hx hb dX1_differences_138 (by decide) ?_
  exact i13 _ _ _ _ _ _ _ _ _ _ hJ hk0 w (lv_sub (l' := [(0, .ref t0), (1, va_rf x1), (2, va_rf x2), (3, .int x3), (4, .int (x4 + (1 : Int32)))]) hl [1, 2, 3, 4, 0] rfl)
def B_X1_differences_71 (N : Nat) (k13 : Hp → (Option Nat) → (Option Nat) → Int32 → Int32 → Option (Hp × Int32)) (k61 : Hp → (Option Nat) → (Option Nat) → Int32 → Int32 → (Option Nat) → (Option Nat) → Int32 → Option (Hp × Int32)) (t0 : Nat) (h : Hp) (x1 : Option Nat) (x2 : Option Nat) (x3 : Int32) (x4 : Int32) (x5 : Option Nat) (x6 : Option Nat) (x7 : Int32) (y0 : Int32) (y1 : Int32) : Option (Hp × Int32) := if y1 ≤ y0 then (dr h 11 x6 (fun a15 => (J_X8_install N a15 h (x4 + (1 : Int32))).bind (fun z => B_X1_differences_135 N k13 t0 z.1 x1 x2 x3 x4))) else (dr h 10 x5 (fun a20 => dr h 2 (h.fr 1004 a20) (fun a21 => (J_Jx4a65c_get_915e3 N a21 h x7).bind (fun z => B_X1_differences_84 N k13 k61 t0 z.1 x1 x2 x3 x4 (some a20) x6 x7 z.2))))
theorem mb_X1_differences_71 (N : Nat) (k13 : Hp → (Option Nat) → (Option Nat) → Int32 → Int32 → Option (Hp × Int32)) (k61 : Hp → (Option Nat) → (Option Nat) → Int32 → Int32 → (Option Nat) → (Option Nat) → Int32 → Option (Hp × Int32)) (t0 : Nat) (h : Hp) (x1 : Option Nat) (x2 : Option Nat) (x3 : Int32) (x4 : Int32) (x5 : Option Nat) (x6 : Option Nat) (x7 : Int32) (y0 : Int32) (y1 : Int32) (m13 : ∀ (h : Hp) (x1 : Option Nat) (x2 : Option Nat) (x3 : Int32) (x4 : Int32), k13 h x1 x2 x3 x4 = some (hz, rz) → Mo h hz) (m61 : ∀ (h : Hp) (x1 : Option Nat) (x2 : Option Nat) (x3 : Int32) (x4 : Int32) (x5 : Option Nat) (x6 : Option Nat) (x7 : Int32), k61 h x1 x2 x3 x4 x5 x6 x7 = some (hz, rz) → Mo h hz) (hJ : B_X1_differences_71 N k13 k61 t0 h x1 x2 x3 x4 x5 x6 x7 y0 y1 = some (hz, rz)) : Mo h hz := by
  unfold B_X1_differences_71 at hJ
  by_cases c14 : y1 ≤ y0
  · have hJ := it_pos c14 hJ
    obtain ⟨a15, ea15, -, hJ⟩ := dr_some hJ
    obtain ⟨⟨h16, r17⟩, e18, hJ⟩ := ob_some hJ
    exact (mo_X8_install N a15 h (x4 + (1 : Int32)) e18).tr (mb_X1_differences_135 N k13 t0 _ _ _ _ _ m13 hJ)
  · have hJ := it_neg c14 hJ
    obtain ⟨a20, ea20, -, hJ⟩ := dr_some hJ
    obtain ⟨a21, ea21, -, hJ⟩ := dr_some hJ
    obtain ⟨⟨h22, r23⟩, e24, hJ⟩ := ob_some hJ
    exact (mo_Jx4a65c_get_915e3 N a21 h x7 e24).tr (mb_X1_differences_84 N k13 k61 t0 _ _ _ _ _ _ _ _ _ m13 m61 hJ)
set_option maxRecDepth 100000 in
set_option maxHeartbeats 4000000 in
theorem sb_X1_differences_71 (C : Cx p s m args meth c cX1_differences 9 (some .int) RX1 D cs A h0.se) (hz2 : hz.nx ≤ h0.nx + mc ∧ hz.su ≤ h0.su + ms) (N : Nat) (k13 : Hp → (Option Nat) → (Option Nat) → Int32 → Int32 → Option (Hp × Int32)) (k61 : Hp → (Option Nat) → (Option Nat) → Int32 → Int32 → (Option Nat) → (Option Nat) → Int32 → Option (Hp × Int32)) (t0 : Nat) (m13 : ∀ (h : Hp) (x1 : Option Nat) (x2 : Option Nat) (x3 : Int32) (x4 : Int32), k13 h x1 x2 x3 x4 = some (hz, rz) → Mo h hz) (m61 : ∀ (h : Hp) (x1 : Option Nat) (x2 : Option Nat) (x3 : Int32) (x4 : Int32) (x5 : Option Nat) (x6 : Option Nat) (x7 : Int32), k61 h x1 x2 x3 x4 x5 x6 x7 = some (hz, rz) → Mo h hz) (i13 : ∀ (h : Hp) (x1 : Option Nat) (x2 : Option Nat) (x3 : Int32) (x4 : Int32) (H : Heap) (locs : List Loc) (cells slots : Nat) (ls : Array Slot), k13 h x1 x2 x3 x4 = some (hz, rz) → h.kd t0 = 4 → Wo D cs A s h0 h H locs cells slots → lv_has ls 9 [(0, .ref t0), (1, va_rf x1), (2, va_rf x2), (3, .int x3), (4, .int x4)] → W p l e { frames := 9, cells := mc, slots := ms, locals := 290 } s m args below meth c H locs cells slots (MQ below (Zi D cs A hz rz) args s mc ms A) (F0 m 13 ls [])) (i61 : ∀ (h : Hp) (x1 : Option Nat) (x2 : Option Nat) (x3 : Int32) (x4 : Int32) (x5 : Option Nat) (x6 : Option Nat) (x7 : Int32) (H : Heap) (locs : List Loc) (cells slots : Nat) (ls : Array Slot), k61 h x1 x2 x3 x4 x5 x6 x7 = some (hz, rz) → h.kd t0 = 4 → Wo D cs A s h0 h H locs cells slots → lv_has ls 9 [(0, .ref t0), (1, va_rf x1), (2, va_rf x2), (3, .int x3), (4, .int x4), (5, va_rf x5), (6, va_rf x6), (7, .int x7)] → W p l e { frames := 9, cells := mc, slots := ms, locals := 290 } s m args below meth c H locs cells slots (MQ below (Zi D cs A hz rz) args s mc ms A) (F0 m 61 ls [])) (h : Hp) (x1 : Option Nat) (x2 : Option Nat) (x3 : Int32) (x4 : Int32) (x5 : Option Nat) (x6 : Option Nat) (x7 : Int32) (y0 : Int32) (y1 : Int32) (hJ : B_X1_differences_71 N k13 k61 t0 h x1 x2 x3 x4 x5 x6 x7 y0 y1 = some (hz, rz)) (hk0 : h.kd t0 = 4) {H : Heap} {locs : List Loc} {cells slots : Nat} (w : Wo D cs A s h0 h H locs cells slots) {ls : Array Slot} (hl : lv_has ls 9 [(0, .ref t0), (1, va_rf x1), (2, va_rf x2), (3, .int x3), (4, .int x4), (5, va_rf x5), (6, va_rf x6), (7, .int x7)]) : W p l e { frames := 9, cells := mc, slots := ms, locals := 290 } s m args below meth c H locs cells slots (MQ below (Zi D cs A hz rz) args s mc ms A) (F0 m 71 ls [.int y1, .int y0]) := by
  obtain ⟨hx, hb, hml, hown, hts, -⟩ := id C
  unfold B_X1_differences_71 at hJ
  refine lv_icmp_ge (tgt := 126) hx hb dX1_differences_71 (by decide) (fun c14 => ?_) (fun c14 => ?_)
  · have hJ := it_pos c14 hJ
    refine jv_aload hx hb dX1_differences_126 (lv_at hl 6 rfl) ?_
    refine lv_iload hx hb dX1_differences_128 (lv_at hl 4 rfl) ?_
    refine lv_iconst (v := (1 : Int32)) hx hb dX1_differences_130 (by decide) ?_
    refine lv_iadd hx hb dX1_differences_131 ?_
    obtain ⟨a15, ea15, hka15, hJ⟩ := dr_some hJ
    rw [ea15] at hl
    rw [ea15]
    obtain ⟨⟨h16, r17⟩, e18, hJ⟩ := ob_some hJ
    refine jc_Vv (As := [.int (x4 + (1 : Int32))]) C w (cc_X8_install N a15 h (x4 + (1 : Int32)) hka15 e18) (mo_X8_install N a15 h (x4 + (1 : Int32)) e18) (mb_X1_differences_135 N k13 t0 _ _ _ _ _ m13 hJ) hz2 hka15 (by decide) rfl (fs := fs11 h a15) rfl rfl ⟨tw_5_84, tw_5_81, tw_5_82, tw_5_83, tw_1_8⟩ cd_X8_install ⟨by decide, by decide⟩ hl.1 (by first | exact Nat.le_of_ble_eq_true rfl | simp [rf_cat, cat_i, cat_l, cat_r]) rfl dX1_differences_132 (fun H locs w1 => ?_)
    have hk19 := kd_keep w (mo_X8_install N a15 h (x4 + (1 : Int32)) e18) hk0 (by decide)
    have w := w1
    exact sb_X1_differences_135 C hz2 N k13 t0 m13 i13 _ _ _ _ _ hJ hk19 w (lv_sub (l' := [(0, .ref t0), (1, va_rf x1), (2, va_rf x2), (3, .int x3), (4, .int x4)]) hl [0, 1, 2, 3, 4] rfl)
  · have hJ := it_neg c14 hJ
    refine jv_aload hx hb dX1_differences_74 (lv_at hl 5 rfl) ?_
    obtain ⟨a20, ea20, hka20, hJ⟩ := dr_some hJ
    rw [ea20] at hl
    rw [ea20]
    refine fg_1004 C w hka20 tw_2_21 dX1_differences_76 ?_
    refine lv_iload hx hb dX1_differences_79 (lv_at hl 7 rfl) ?_
    obtain ⟨a21, ea21, hka21, hJ⟩ := dr_some hJ
    rw [ea21]
    obtain ⟨⟨h22, r23⟩, e24, hJ⟩ := ob_some hJ
    refine jc_Vq (As := [.int x7]) C w (cc_Jx4a65c_get_915e3 N a21 h x7 hka21 e24) (mo_Jx4a65c_get_915e3 N a21 h x7 e24) (mb_X1_differences_84 N k13 k61 t0 _ _ _ _ _ _ _ _ _ m13 m61 hJ) hz2 hka21 (by decide) rfl (fs := fs2 h a21) rfl rfl ⟨tw_2_65, tw_3_46, tw_2_63, tw_2_64, tw_1_5⟩ cd_Jx4a65c_get_915e3 ⟨by decide, by decide⟩ hl.1 (by first | exact Nat.le_of_ble_eq_true rfl | simp [rf_cat, cat_i, cat_l, cat_r]) rfl dX1_differences_81 (fun H locs w1 => ?_)
    have hk25 := kd_keep w (mo_Jx4a65c_get_915e3 N a21 h x7 e24) hk0 (by decide)
    have w := w1
    exact sb_X1_differences_84 C hz2 N k13 k61 t0 m13 m61 i13 i61 _ _ _ _ _ _ _ _ _ hJ hk25 w hl
def B_X1_differences_61 (N : Nat) (k13 : Hp → (Option Nat) → (Option Nat) → Int32 → Int32 → Option (Hp × Int32)) (k61 : Hp → (Option Nat) → (Option Nat) → Int32 → Int32 → (Option Nat) → (Option Nat) → Int32 → Option (Hp × Int32)) (t0 : Nat) (h : Hp) (x1 : Option Nat) (x2 : Option Nat) (x3 : Int32) (x4 : Int32) (x5 : Option Nat) (x6 : Option Nat) (x7 : Int32) : Option (Hp × Int32) := dr h 10 x5 (fun a26 => dr h 2 (h.fr 1004 a26) (fun a27 => (J_Jx4a65c_size_8abf5 N a27 h).bind (fun z => B_X1_differences_71 N k13 k61 t0 z.1 x1 x2 x3 x4 (some a26) x6 x7 x7 z.2)))
theorem mb_X1_differences_61 (N : Nat) (k13 : Hp → (Option Nat) → (Option Nat) → Int32 → Int32 → Option (Hp × Int32)) (k61 : Hp → (Option Nat) → (Option Nat) → Int32 → Int32 → (Option Nat) → (Option Nat) → Int32 → Option (Hp × Int32)) (t0 : Nat) (h : Hp) (x1 : Option Nat) (x2 : Option Nat) (x3 : Int32) (x4 : Int32) (x5 : Option Nat) (x6 : Option Nat) (x7 : Int32) (m13 : ∀ (h : Hp) (x1 : Option Nat) (x2 : Option Nat) (x3 : Int32) (x4 : Int32), k13 h x1 x2 x3 x4 = some (hz, rz) → Mo h hz) (m61 : ∀ (h : Hp) (x1 : Option Nat) (x2 : Option Nat) (x3 : Int32) (x4 : Int32) (x5 : Option Nat) (x6 : Option Nat) (x7 : Int32), k61 h x1 x2 x3 x4 x5 x6 x7 = some (hz, rz) → Mo h hz) (hJ : B_X1_differences_61 N k13 k61 t0 h x1 x2 x3 x4 x5 x6 x7 = some (hz, rz)) : Mo h hz := by
  unfold B_X1_differences_61 at hJ
  obtain ⟨a26, ea26, -, hJ⟩ := dr_some hJ
  obtain ⟨a27, ea27, -, hJ⟩ := dr_some hJ
  obtain ⟨⟨h28, r29⟩, e30, hJ⟩ := ob_some hJ
  exact (mo_Jx4a65c_size_8abf5 N a27 h e30).tr (mb_X1_differences_71 N k13 k61 t0 _ _ _ _ _ _ _ _ _ _ m13 m61 hJ)
set_option maxRecDepth 100000 in
set_option maxHeartbeats 4000000 in
theorem sb_X1_differences_61 (C : Cx p s m args meth c cX1_differences 9 (some .int) RX1 D cs A h0.se) (hz2 : hz.nx ≤ h0.nx + mc ∧ hz.su ≤ h0.su + ms) (N : Nat) (k13 : Hp → (Option Nat) → (Option Nat) → Int32 → Int32 → Option (Hp × Int32)) (k61 : Hp → (Option Nat) → (Option Nat) → Int32 → Int32 → (Option Nat) → (Option Nat) → Int32 → Option (Hp × Int32)) (t0 : Nat) (m13 : ∀ (h : Hp) (x1 : Option Nat) (x2 : Option Nat) (x3 : Int32) (x4 : Int32), k13 h x1 x2 x3 x4 = some (hz, rz) → Mo h hz) (m61 : ∀ (h : Hp) (x1 : Option Nat) (x2 : Option Nat) (x3 : Int32) (x4 : Int32) (x5 : Option Nat) (x6 : Option Nat) (x7 : Int32), k61 h x1 x2 x3 x4 x5 x6 x7 = some (hz, rz) → Mo h hz) (i13 : ∀ (h : Hp) (x1 : Option Nat) (x2 : Option Nat) (x3 : Int32) (x4 : Int32) (H : Heap) (locs : List Loc) (cells slots : Nat) (ls : Array Slot), k13 h x1 x2 x3 x4 = some (hz, rz) → h.kd t0 = 4 → Wo D cs A s h0 h H locs cells slots → lv_has ls 9 [(0, .ref t0), (1, va_rf x1), (2, va_rf x2), (3, .int x3), (4, .int x4)] → W p l e { frames := 9, cells := mc, slots := ms, locals := 290 } s m args below meth c H locs cells slots (MQ below (Zi D cs A hz rz) args s mc ms A) (F0 m 13 ls [])) (i61 : ∀ (h : Hp) (x1 : Option Nat) (x2 : Option Nat) (x3 : Int32) (x4 : Int32) (x5 : Option Nat) (x6 : Option Nat) (x7 : Int32) (H : Heap) (locs : List Loc) (cells slots : Nat) (ls : Array Slot), k61 h x1 x2 x3 x4 x5 x6 x7 = some (hz, rz) → h.kd t0 = 4 → Wo D cs A s h0 h H locs cells slots → lv_has ls 9 [(0, .ref t0), (1, va_rf x1), (2, va_rf x2), (3, .int x3), (4, .int x4), (5, va_rf x5), (6, va_rf x6), (7, .int x7)] → W p l e { frames := 9, cells := mc, slots := ms, locals := 290 } s m args below meth c H locs cells slots (MQ below (Zi D cs A hz rz) args s mc ms A) (F0 m 61 ls [])) (h : Hp) (x1 : Option Nat) (x2 : Option Nat) (x3 : Int32) (x4 : Int32) (x5 : Option Nat) (x6 : Option Nat) (x7 : Int32) (hJ : B_X1_differences_61 N k13 k61 t0 h x1 x2 x3 x4 x5 x6 x7 = some (hz, rz)) (hk0 : h.kd t0 = 4) {H : Heap} {locs : List Loc} {cells slots : Nat} (w : Wo D cs A s h0 h H locs cells slots) {ls : Array Slot} (hl : lv_has ls 9 [(0, .ref t0), (1, va_rf x1), (2, va_rf x2), (3, .int x3), (4, .int x4), (5, va_rf x5), (6, va_rf x6), (7, .int x7)]) : W p l e { frames := 9, cells := mc, slots := ms, locals := 290 } s m args below meth c H locs cells slots (MQ below (Zi D cs A hz rz) args s mc ms A) (F0 m 61 ls []) := by
  obtain ⟨hx, hb, hml, hown, hts, -⟩ := id C
  unfold B_X1_differences_61 at hJ
  refine lv_iload hx hb dX1_differences_61 (lv_at hl 7 rfl) ?_
  refine jv_aload hx hb dX1_differences_63 (lv_at hl 5 rfl) ?_
  obtain ⟨a26, ea26, hka26, hJ⟩ := dr_some hJ
  rw [ea26] at hl
  rw [ea26]
  refine fg_1004 C w hka26 tw_2_21 dX1_differences_65 ?_
  obtain ⟨a27, ea27, hka27, hJ⟩ := dr_some hJ
  rw [ea27]
  obtain ⟨⟨h28, r29⟩, e30, hJ⟩ := ob_some hJ
  refine jc_Vi (As := []) C w (cc_Jx4a65c_size_8abf5 N a27 h hka27 e30) (mo_Jx4a65c_size_8abf5 N a27 h e30) (mb_X1_differences_71 N k13 k61 t0 _ _ _ _ _ _ _ _ _ _ m13 m61 hJ) hz2 hka27 (by decide) rfl (fs := fs2 h a27) rfl rfl ⟨tw_1_182, tw_3_12, tw_1_180, tw_1_181, tw_1_5⟩ cd_Jx4a65c_size_8abf5 ⟨by decide, by decide⟩ hl.1 (by first | exact Nat.le_of_ble_eq_true rfl | simp [rf_cat, cat_i, cat_l, cat_r]) rfl dX1_differences_68 (fun H locs w1 => ?_)
  have hk31 := kd_keep w (mo_Jx4a65c_size_8abf5 N a27 h e30) hk0 (by decide)
  have w := w1
  exact sb_X1_differences_71 C hz2 N k13 k61 t0 m13 m61 i13 i61 _ _ _ _ _ _ _ _ _ _ hJ hk31 w hl
def L_X1_differences_61 (N : Nat) (k13 : Hp → (Option Nat) → (Option Nat) → Int32 → Int32 → Option (Hp × Int32)) (t0 : Nat) : Nat → Hp → (Option Nat) → (Option Nat) → Int32 → Int32 → (Option Nat) → (Option Nat) → Int32 → Option (Hp × Int32)
  | 0 => fun _ _ _ _ _ _ _ _ => none
  | n + 1 => fun h x1 x2 x3 x4 x5 x6 x7 => B_X1_differences_61 N k13 (L_X1_differences_61 N k13 t0 n) t0 h x1 x2 x3 x4 x5 x6 x7
theorem ml_X1_differences_61 (N : Nat) (k13 : Hp → (Option Nat) → (Option Nat) → Int32 → Int32 → Option (Hp × Int32)) (t0 : Nat) (m13 : ∀ (h : Hp) (x1 : Option Nat) (x2 : Option Nat) (x3 : Int32) (x4 : Int32), k13 h x1 x2 x3 x4 = some (hz, rz) → Mo h hz) : ∀ (n : Nat) (h : Hp) (x1 : Option Nat) (x2 : Option Nat) (x3 : Int32) (x4 : Int32) (x5 : Option Nat) (x6 : Option Nat) (x7 : Int32), L_X1_differences_61 N k13 t0 n h x1 x2 x3 x4 x5 x6 x7 = some (hz, rz) → Mo h hz := by
  intro n
  induction n with
  | zero => intro h x1 x2 x3 x4 x5 x6 x7 hJ; cases hJ
  | succ n ih => intro h x1 x2 x3 x4 x5 x6 x7 hJ; exact mb_X1_differences_61 N k13 (L_X1_differences_61 N k13 t0 n) t0 h x1 x2 x3 x4 x5 x6 x7 m13 ih hJ
theorem sl_X1_differences_61 (C : Cx p s m args meth c cX1_differences 9 (some .int) RX1 D cs A h0.se) (hz2 : hz.nx ≤ h0.nx + mc ∧ hz.su ≤ h0.su + ms) (N : Nat) (k13 : Hp → (Option Nat) → (Option Nat) → Int32 → Int32 → Option (Hp × Int32)) (t0 : Nat) (m13 : ∀ (h : Hp) (x1 : Option Nat) (x2 : Option Nat) (x3 : Int32) (x4 : Int32), k13 h x1 x2 x3 x4 = some (hz, rz) → Mo h hz) (i13 : ∀ (h : Hp) (x1 : Option Nat) (x2 : Option Nat) (x3 : Int32) (x4 : Int32) (H : Heap) (locs : List Loc) (cells slots : Nat) (ls : Array Slot), k13 h x1 x2 x3 x4 = some (hz, rz) → h.kd t0 = 4 → Wo D cs A s h0 h H locs cells slots → lv_has ls 9 [(0, .ref t0), (1, va_rf x1), (2, va_rf x2), (3, .int x3), (4, .int x4)] → W p l e { frames := 9, cells := mc, slots := ms, locals := 290 } s m args below meth c H locs cells slots (MQ below (Zi D cs A hz rz) args s mc ms A) (F0 m 13 ls [])) : ∀ n : Nat, ∀ (h : Hp) (x1 : Option Nat) (x2 : Option Nat) (x3 : Int32) (x4 : Int32) (x5 : Option Nat) (x6 : Option Nat) (x7 : Int32) (H : Heap) (locs : List Loc) (cells slots : Nat) (ls : Array Slot), L_X1_differences_61 N k13 t0 n h x1 x2 x3 x4 x5 x6 x7 = some (hz, rz) → h.kd t0 = 4 → Wo D cs A s h0 h H locs cells slots → lv_has ls 9 [(0, .ref t0), (1, va_rf x1), (2, va_rf x2), (3, .int x3), (4, .int x4), (5, va_rf x5), (6, va_rf x6), (7, .int x7)] → W p l e { frames := 9, cells := mc, slots := ms, locals := 290 } s m args below meth c H locs cells slots (MQ below (Zi D cs A hz rz) args s mc ms A) (F0 m 61 ls []) := by
  intro n
  induction n with
  | zero => intro h x1 x2 x3 x4 x5 x6 x7 H locs cells slots ls hJ; cases hJ
  | succ n ih =>
    intro h x1 x2 x3 x4 x5 x6 x7 H locs cells slots ls hJ hk0 w hl
    exact sb_X1_differences_61 C hz2 N k13 (L_X1_differences_61 N k13 t0 n) t0 m13 (ml_X1_differences_61 N k13 t0 m13 n) i13 ih h x1 x2 x3 x4 x5 x6 x7 hJ hk0 w hl
def B_X1_differences_56 (N : Nat) (k13 : Hp → (Option Nat) → (Option Nat) → Int32 → Int32 → Option (Hp × Int32)) (t0 : Nat) (h : Hp) (x1 : Option Nat) (x2 : Option Nat) (x3 : Int32) (x4 : Int32) (x5 : Option Nat) (y0 : Option Nat) : Option (Hp × Int32) := L_X1_differences_61 N k13 t0 N h x1 x2 x3 x4 x5 y0 (0 : Int32)
theorem mb_X1_differences_56 (N : Nat) (k13 : Hp → (Option Nat) → (Option Nat) → Int32 → Int32 → Option (Hp × Int32)) (t0 : Nat) (h : Hp) (x1 : Option Nat) (x2 : Option Nat) (x3 : Int32) (x4 : Int32) (x5 : Option Nat) (y0 : Option Nat) (m13 : ∀ (h : Hp) (x1 : Option Nat) (x2 : Option Nat) (x3 : Int32) (x4 : Int32), k13 h x1 x2 x3 x4 = some (hz, rz) → Mo h hz) (hJ : B_X1_differences_56 N k13 t0 h x1 x2 x3 x4 x5 y0 = some (hz, rz)) : Mo h hz := by
  unfold B_X1_differences_56 at hJ
  exact ml_X1_differences_61 N k13 t0 m13 N _ _ _ _ _ _ _ _ hJ
set_option maxRecDepth 100000 in
set_option maxHeartbeats 4000000 in
theorem sb_X1_differences_56 (C : Cx p s m args meth c cX1_differences 9 (some .int) RX1 D cs A h0.se) (hz2 : hz.nx ≤ h0.nx + mc ∧ hz.su ≤ h0.su + ms) (N : Nat) (k13 : Hp → (Option Nat) → (Option Nat) → Int32 → Int32 → Option (Hp × Int32)) (t0 : Nat) (m13 : ∀ (h : Hp) (x1 : Option Nat) (x2 : Option Nat) (x3 : Int32) (x4 : Int32), k13 h x1 x2 x3 x4 = some (hz, rz) → Mo h hz) (i13 : ∀ (h : Hp) (x1 : Option Nat) (x2 : Option Nat) (x3 : Int32) (x4 : Int32) (H : Heap) (locs : List Loc) (cells slots : Nat) (ls : Array Slot), k13 h x1 x2 x3 x4 = some (hz, rz) → h.kd t0 = 4 → Wo D cs A s h0 h H locs cells slots → lv_has ls 9 [(0, .ref t0), (1, va_rf x1), (2, va_rf x2), (3, .int x3), (4, .int x4)] → W p l e { frames := 9, cells := mc, slots := ms, locals := 290 } s m args below meth c H locs cells slots (MQ below (Zi D cs A hz rz) args s mc ms A) (F0 m 13 ls [])) (h : Hp) (x1 : Option Nat) (x2 : Option Nat) (x3 : Int32) (x4 : Int32) (x5 : Option Nat) (y0 : Option Nat) (hJ : B_X1_differences_56 N k13 t0 h x1 x2 x3 x4 x5 y0 = some (hz, rz)) (hk0 : h.kd t0 = 4) {H : Heap} {locs : List Loc} {cells slots : Nat} (w : Wo D cs A s h0 h H locs cells slots) {ls : Array Slot} (hl : lv_has ls 9 [(0, .ref t0), (1, va_rf x1), (2, va_rf x2), (3, .int x3), (4, .int x4), (5, va_rf x5)]) : W p l e { frames := 9, cells := mc, slots := ms, locals := 290 } s m args below meth c H locs cells slots (MQ below (Zi D cs A hz rz) args s mc ms A) (F0 m 56 ls [va_rf y0]) := by
  obtain ⟨hx, hb, hml, hown, hts, -⟩ := id C
  unfold B_X1_differences_56 at hJ
  refine jv_astore (i := 6) (lv' := [(6, va_rf y0), (0, .ref t0), (1, va_rf x1), (2, va_rf x2), (3, .int x3), (4, .int x4), (5, va_rf x5)]) hx hb dX1_differences_56 hl (by decide) (by simp [List.filter, rf_cat, cat_i, cat_l, cat_r]) (fun ls hl => ?_)
  refine lv_iconst (v := (0 : Int32)) hx hb dX1_differences_58 (by decide) ?_
  refine lv_istore (i := 7) (lv' := [(7, .int (0 : Int32)), (6, va_rf y0), (0, .ref t0), (1, va_rf x1), (2, va_rf x2), (3, .int x3), (4, .int x4), (5, va_rf x5)]) hx hb dX1_differences_59 hl (by decide) (by simp [List.filter, rf_cat, cat_i, cat_l, cat_r]) (fun ls hl => ?_)
  exact sl_X1_differences_61 C hz2 N k13 t0 m13 i13 N _ _ _ _ _ _ _ _ _ _ _ _ _ hJ hk0 w (lv_sub (l' := [(0, .ref t0), (1, va_rf x1), (2, va_rf x2), (3, .int x3), (4, .int x4), (5, va_rf x5), (6, va_rf y0), (7, .int (0 : Int32))]) hl [2, 3, 4, 5, 6, 7, 1, 0] rfl)
def B_X1_differences_44 (N : Nat) (k13 : Hp → (Option Nat) → (Option Nat) → Int32 → Int32 → Option (Hp × Int32)) (t0 : Nat) (h : Hp) (x1 : Option Nat) (x2 : Option Nat) (x3 : Int32) (x4 : Int32) (x5 : Option Nat) (y0 : Option Nat) : Option (Hp × Int32) := dr h 10 x5 (fun a32 => dr h 11 y0 (fun a33 => (J_X8_init N a33 h x2 x4 (h.fi 1000 a32)).bind (fun z => B_X1_differences_56 N k13 t0 z.1 x1 x2 x3 x4 (some a32) (some a33))))
theorem mb_X1_differences_44 (N : Nat) (k13 : Hp → (Option Nat) → (Option Nat) → Int32 → Int32 → Option (Hp × Int32)) (t0 : Nat) (h : Hp) (x1 : Option Nat) (x2 : Option Nat) (x3 : Int32) (x4 : Int32) (x5 : Option Nat) (y0 : Option Nat) (m13 : ∀ (h : Hp) (x1 : Option Nat) (x2 : Option Nat) (x3 : Int32) (x4 : Int32), k13 h x1 x2 x3 x4 = some (hz, rz) → Mo h hz) (hJ : B_X1_differences_44 N k13 t0 h x1 x2 x3 x4 x5 y0 = some (hz, rz)) : Mo h hz := by
  unfold B_X1_differences_44 at hJ
  obtain ⟨a32, ea32, -, hJ⟩ := dr_some hJ
  obtain ⟨a33, ea33, -, hJ⟩ := dr_some hJ
  obtain ⟨⟨h34, r35⟩, e36, hJ⟩ := ob_some hJ
  exact (mo_X8_init N a33 h x2 x4 (h.fi 1000 a32) e36).tr (mb_X1_differences_56 N k13 t0 _ _ _ _ _ _ _ m13 hJ)
set_option maxRecDepth 100000 in
set_option maxHeartbeats 4000000 in
theorem sb_X1_differences_44 (C : Cx p s m args meth c cX1_differences 9 (some .int) RX1 D cs A h0.se) (hz2 : hz.nx ≤ h0.nx + mc ∧ hz.su ≤ h0.su + ms) (N : Nat) (k13 : Hp → (Option Nat) → (Option Nat) → Int32 → Int32 → Option (Hp × Int32)) (t0 : Nat) (m13 : ∀ (h : Hp) (x1 : Option Nat) (x2 : Option Nat) (x3 : Int32) (x4 : Int32), k13 h x1 x2 x3 x4 = some (hz, rz) → Mo h hz) (i13 : ∀ (h : Hp) (x1 : Option Nat) (x2 : Option Nat) (x3 : Int32) (x4 : Int32) (H : Heap) (locs : List Loc) (cells slots : Nat) (ls : Array Slot), k13 h x1 x2 x3 x4 = some (hz, rz) → h.kd t0 = 4 → Wo D cs A s h0 h H locs cells slots → lv_has ls 9 [(0, .ref t0), (1, va_rf x1), (2, va_rf x2), (3, .int x3), (4, .int x4)] → W p l e { frames := 9, cells := mc, slots := ms, locals := 290 } s m args below meth c H locs cells slots (MQ below (Zi D cs A hz rz) args s mc ms A) (F0 m 13 ls [])) (h : Hp) (x1 : Option Nat) (x2 : Option Nat) (x3 : Int32) (x4 : Int32) (x5 : Option Nat) (y0 : Option Nat) (hJ : B_X1_differences_44 N k13 t0 h x1 x2 x3 x4 x5 y0 = some (hz, rz)) (hk0 : h.kd t0 = 4) {H : Heap} {locs : List Loc} {cells slots : Nat} (w : Wo D cs A s h0 h H locs cells slots) {ls : Array Slot} (hl : lv_has ls 9 [(0, .ref t0), (1, va_rf x1), (2, va_rf x2), (3, .int x3), (4, .int x4), (5, va_rf x5)]) : W p l e { frames := 9, cells := mc, slots := ms, locals := 290 } s m args below meth c H locs cells slots (MQ below (Zi D cs A hz rz) args s mc ms A) (F0 m 44 ls [va_rf y0]) := by
  obtain ⟨hx, hb, hml, hown, hts, -⟩ := id C
  unfold B_X1_differences_44 at hJ
  refine lv_dup hx hb dX1_differences_44 (rf_cat _) ?_
  refine jv_aload_n hx hb dX1_differences_45 rfl (lv_at hl 2 rfl) ?_
  refine lv_iload hx hb dX1_differences_46 (lv_at hl 4 rfl) ?_
  refine jv_aload hx hb dX1_differences_48 (lv_at hl 5 rfl) ?_
  obtain ⟨a32, ea32, hka32, hJ⟩ := dr_some hJ
  rw [ea32] at hl
  rw [ea32]
  refine fg_1000 C w hka32 tw_2_11 dX1_differences_50 ?_
  obtain ⟨a33, ea33, hka33, hJ⟩ := dr_some hJ
  rw [ea33]
  obtain ⟨⟨h34, r35⟩, e36, hJ⟩ := ob_some hJ
  refine jc_I (As := [va_rf x2, .int x4, .int (h.fi 1000 a32)]) C w (cc_X8_init N a33 h x2 x4 (h.fi 1000 a32) hka33 e36) (mo_X8_init N a33 h x2 x4 (h.fi 1000 a32) e36) (mb_X1_differences_56 N k13 t0 _ _ _ _ _ _ _ m13 hJ) hz2 tw_1_191 tw_3_81 tw_1_190 tw_1_8 rfl cd_X8_init ⟨by decide, by decide⟩ hl.1 (by first | exact Nat.le_of_ble_eq_true rfl | simp [rf_cat, cat_i, cat_l, cat_r]) rfl dX1_differences_53 (fun H locs w1 => ?_)
  have hk37 := kd_keep w (mo_X8_init N a33 h x2 x4 (h.fi 1000 a32) e36) hk0 (by decide)
  have w := w1
  exact sb_X1_differences_56 C hz2 N k13 t0 m13 i13 _ _ _ _ _ _ _ hJ hk37 w hl
def B_X1_differences_36 (N : Nat) (k13 : Hp → (Option Nat) → (Option Nat) → Int32 → Int32 → Option (Hp × Int32)) (t0 : Nat) (h : Hp) (x1 : Option Nat) (x2 : Option Nat) (x3 : Int32) (x4 : Int32) (y0 : Option Nat) : Option (Hp × Int32) := dr h 10 y0 (fun a38 => B_X1_differences_44 N k13 t0 (h.new 11 0 7) x1 x2 x3 x4 (some a38) (some h.nx))
theorem mb_X1_differences_36 (N : Nat) (k13 : Hp → (Option Nat) → (Option Nat) → Int32 → Int32 → Option (Hp × Int32)) (t0 : Nat) (h : Hp) (x1 : Option Nat) (x2 : Option Nat) (x3 : Int32) (x4 : Int32) (y0 : Option Nat) (m13 : ∀ (h : Hp) (x1 : Option Nat) (x2 : Option Nat) (x3 : Int32) (x4 : Int32), k13 h x1 x2 x3 x4 = some (hz, rz) → Mo h hz) (hJ : B_X1_differences_36 N k13 t0 h x1 x2 x3 x4 y0 = some (hz, rz)) : Mo h hz := by
  unfold B_X1_differences_36 at hJ
  obtain ⟨a38, ea38, -, hJ⟩ := dr_some hJ
  exact (Mo.new h _ _ _).tr (mb_X1_differences_44 N k13 t0 _ _ _ _ _ _ _ m13 hJ)
set_option maxRecDepth 100000 in
set_option maxHeartbeats 4000000 in
theorem sb_X1_differences_36 (C : Cx p s m args meth c cX1_differences 9 (some .int) RX1 D cs A h0.se) (hz2 : hz.nx ≤ h0.nx + mc ∧ hz.su ≤ h0.su + ms) (N : Nat) (k13 : Hp → (Option Nat) → (Option Nat) → Int32 → Int32 → Option (Hp × Int32)) (t0 : Nat) (m13 : ∀ (h : Hp) (x1 : Option Nat) (x2 : Option Nat) (x3 : Int32) (x4 : Int32), k13 h x1 x2 x3 x4 = some (hz, rz) → Mo h hz) (i13 : ∀ (h : Hp) (x1 : Option Nat) (x2 : Option Nat) (x3 : Int32) (x4 : Int32) (H : Heap) (locs : List Loc) (cells slots : Nat) (ls : Array Slot), k13 h x1 x2 x3 x4 = some (hz, rz) → h.kd t0 = 4 → Wo D cs A s h0 h H locs cells slots → lv_has ls 9 [(0, .ref t0), (1, va_rf x1), (2, va_rf x2), (3, .int x3), (4, .int x4)] → W p l e { frames := 9, cells := mc, slots := ms, locals := 290 } s m args below meth c H locs cells slots (MQ below (Zi D cs A hz rz) args s mc ms A) (F0 m 13 ls [])) (h : Hp) (x1 : Option Nat) (x2 : Option Nat) (x3 : Int32) (x4 : Int32) (y0 : Option Nat) (hJ : B_X1_differences_36 N k13 t0 h x1 x2 x3 x4 y0 = some (hz, rz)) (hk0 : h.kd t0 = 4) {H : Heap} {locs : List Loc} {cells slots : Nat} (w : Wo D cs A s h0 h H locs cells slots) {ls : Array Slot} (hl : lv_has ls 9 [(0, .ref t0), (1, va_rf x1), (2, va_rf x2), (3, .int x3), (4, .int x4)]) : W p l e { frames := 9, cells := mc, slots := ms, locals := 290 } s m args below meth c H locs cells slots (MQ below (Zi D cs A hz rz) args s mc ms A) (F0 m 36 ls [va_rf y0]) := by
  obtain ⟨hx, hb, hml, hown, hts, -⟩ := id C
  unfold B_X1_differences_36 at hJ
  obtain ⟨a38, ea38, hka38, hJ⟩ := dr_some hJ
  rw [ea38]
  refine va_castS hx hb hown (hts _ tw_3_47) (C.2.2.2.2.2.1.1 10 _ rfl).2 (recv_at C w hka38 (by decide) rfl (fs := fs10 h a38) rfl) dX1_differences_36 ?_
  refine lv_astore (i := 5) (lv' := [(5, .ref a38), (0, .ref t0), (1, va_rf x1), (2, va_rf x2), (3, .int x3), (4, .int x4)]) hx hb dX1_differences_39 hl (by decide) rfl (fun ls hl => ?_)
  have w0 := w
  refine fn_11 C w (mb_X1_differences_44 N k13 t0 _ _ _ _ _ _ _ m13 hJ) hz2 tw_3_80 dX1_differences_41 (fun H w => ?_)
  have hk39 := kd_new (k := 11) (n := 0) (sl := 7) w0 hk0 (by decide)
  exact sb_X1_differences_44 C hz2 N k13 t0 m13 i13 _ _ _ _ _ _ _ hJ hk39 w (lv_sub (l' := [(0, .ref t0), (1, va_rf x1), (2, va_rf x2), (3, .int x3), (4, .int x4), (5, .ref a38)]) hl [1, 2, 3, 4, 5, 0] rfl)
def B_X1_differences_147 (N : Nat) (t0 : Nat) (h : Hp) (y0 : Int32) (y1 : Int32) : Option (Hp × Int32) := some (h, y0 + y1)
theorem mb_X1_differences_147 (N : Nat) (t0 : Nat) (h : Hp) (y0 : Int32) (y1 : Int32) (hJ : B_X1_differences_147 N t0 h y0 y1 = some (hz, rz)) : Mo h hz := by
  unfold B_X1_differences_147 at hJ
  obtain ⟨rfl, -⟩ := rs2 hJ
  exact ⟨fun _ _ => rfl, Nat.le_refl _, Nat.le_refl _, rfl, fun _ _ => rfl⟩
set_option maxRecDepth 100000 in
set_option maxHeartbeats 4000000 in
theorem sb_X1_differences_147 (C : Cx p s m args meth c cX1_differences 9 (some .int) RX1 D cs A h0.se) (hz2 : hz.nx ≤ h0.nx + mc ∧ hz.su ≤ h0.su + ms) (N : Nat) (t0 : Nat) (h : Hp) (y0 : Int32) (y1 : Int32) (hJ : B_X1_differences_147 N t0 h y0 y1 = some (hz, rz)) (hk0 : h.kd t0 = 4) {H : Heap} {locs : List Loc} {cells slots : Nat} (w : Wo D cs A s h0 h H locs cells slots) {ls : Array Slot} (hl : lv_has ls 9 [(0, .ref t0)]) : W p l e { frames := 9, cells := mc, slots := ms, locals := 290 } s m args below meth c H locs cells slots (MQ below (Zi D cs A hz rz) args s mc ms A) (F0 m 147 ls [.int y1, .int y0]) := by
  obtain ⟨hx, hb, hml, hown, hts, -⟩ := id C
  unfold B_X1_differences_147 at hJ
  refine lv_iadd hx hb dX1_differences_147 ?_
  obtain ⟨rfl, rfl⟩ := rs2 hJ
  exact jr_iret C w hz2 dX1_differences_148
def B_X1_differences_13 (N : Nat) (k13 : Hp → (Option Nat) → (Option Nat) → Int32 → Int32 → Option (Hp × Int32)) (t0 : Nat) (h : Hp) (x1 : Option Nat) (x2 : Option Nat) (x3 : Int32) (x4 : Int32) : Option (Hp × Int32) := if (h.fi 402 t0) ≤ x4 then ((J_X1_otherKeys N t0 h x2).bind (fun z => B_X1_differences_147 N t0 z.1 x3 z.2)) else (dr h 20 (h.fr 405 t0) (fun a45 => ck (¬ (x4 < 0 ∨ h.al a45 ≤ x4.toNatClampNeg)) (dr h 2 (h.fr 401 t0) (fun a47 => (J_Jx4a65c_get_915e3 N a47 h (h.ai a45 x4.toNatClampNeg)).bind (fun z => B_X1_differences_36 N k13 t0 z.1 x1 x2 x3 x4 z.2)))))
theorem mb_X1_differences_13 (N : Nat) (k13 : Hp → (Option Nat) → (Option Nat) → Int32 → Int32 → Option (Hp × Int32)) (t0 : Nat) (h : Hp) (x1 : Option Nat) (x2 : Option Nat) (x3 : Int32) (x4 : Int32) (m13 : ∀ (h : Hp) (x1 : Option Nat) (x2 : Option Nat) (x3 : Int32) (x4 : Int32), k13 h x1 x2 x3 x4 = some (hz, rz) → Mo h hz) (hJ : B_X1_differences_13 N k13 t0 h x1 x2 x3 x4 = some (hz, rz)) : Mo h hz := by
  unfold B_X1_differences_13 at hJ
  by_cases c40 : (h.fi 402 t0) ≤ x4
  · have hJ := it_pos c40 hJ
    obtain ⟨⟨h41, r42⟩, e43, hJ⟩ := ob_some hJ
    exact (mo_X1_otherKeys N t0 h x2 e43).tr (mb_X1_differences_147 N t0 _ _ _ hJ)
  · have hJ := it_neg c40 hJ
    obtain ⟨a45, ea45, -, hJ⟩ := dr_some hJ
    obtain ⟨-, hJ⟩ := ck_some hJ
    obtain ⟨a47, ea47, -, hJ⟩ := dr_some hJ
    obtain ⟨⟨h48, r49⟩, e50, hJ⟩ := ob_some hJ
    exact (mo_Jx4a65c_get_915e3 N a47 h (h.ai a45 x4.toNatClampNeg) e50).tr (mb_X1_differences_36 N k13 t0 _ _ _ _ _ _ m13 hJ)
set_option maxRecDepth 100000 in
set_option maxHeartbeats 4000000 in
theorem sb_X1_differences_13 (C : Cx p s m args meth c cX1_differences 9 (some .int) RX1 D cs A h0.se) (hz2 : hz.nx ≤ h0.nx + mc ∧ hz.su ≤ h0.su + ms) (N : Nat) (k13 : Hp → (Option Nat) → (Option Nat) → Int32 → Int32 → Option (Hp × Int32)) (t0 : Nat) (m13 : ∀ (h : Hp) (x1 : Option Nat) (x2 : Option Nat) (x3 : Int32) (x4 : Int32), k13 h x1 x2 x3 x4 = some (hz, rz) → Mo h hz) (i13 : ∀ (h : Hp) (x1 : Option Nat) (x2 : Option Nat) (x3 : Int32) (x4 : Int32) (H : Heap) (locs : List Loc) (cells slots : Nat) (ls : Array Slot), k13 h x1 x2 x3 x4 = some (hz, rz) → h.kd t0 = 4 → Wo D cs A s h0 h H locs cells slots → lv_has ls 9 [(0, .ref t0), (1, va_rf x1), (2, va_rf x2), (3, .int x3), (4, .int x4)] → W p l e { frames := 9, cells := mc, slots := ms, locals := 290 } s m args below meth c H locs cells slots (MQ below (Zi D cs A hz rz) args s mc ms A) (F0 m 13 ls [])) (h : Hp) (x1 : Option Nat) (x2 : Option Nat) (x3 : Int32) (x4 : Int32) (hJ : B_X1_differences_13 N k13 t0 h x1 x2 x3 x4 = some (hz, rz)) (hk0 : h.kd t0 = 4) {H : Heap} {locs : List Loc} {cells slots : Nat} (w : Wo D cs A s h0 h H locs cells slots) {ls : Array Slot} (hl : lv_has ls 9 [(0, .ref t0), (1, va_rf x1), (2, va_rf x2), (3, .int x3), (4, .int x4)]) : W p l e { frames := 9, cells := mc, slots := ms, locals := 290 } s m args below meth c H locs cells slots (MQ below (Zi D cs A hz rz) args s mc ms A) (F0 m 13 ls []) := by
  obtain ⟨hx, hb, hml, hown, hts, -⟩ := id C
  unfold B_X1_differences_13 at hJ
  refine lv_iload hx hb dX1_differences_13 (lv_at hl 4 rfl) ?_
  refine lv_aload_n hx hb dX1_differences_15 rfl (lv_at hl 0 rfl) ?_
  refine fg_402 C w hk0 tw_3_15 dX1_differences_16 ?_
  refine lv_icmp_ge (tgt := 141) hx hb dX1_differences_19 (by decide) (fun c40 => ?_) (fun c40 => ?_)
  · have hJ := it_pos c40 hJ
    refine lv_iload_n hx hb dX1_differences_141 rfl (lv_at hl 3 rfl) ?_
    refine lv_aload_n hx hb dX1_differences_142 rfl (lv_at hl 0 rfl) ?_
    refine jv_aload_n hx hb dX1_differences_143 rfl (lv_at hl 2 rfl) ?_
    obtain ⟨⟨h41, r42⟩, e43, hJ⟩ := ob_some hJ
    refine jc_Vi (As := [va_rf x2]) C w (cc_X1_otherKeys N t0 h x2 hk0 e43) (mo_X1_otherKeys N t0 h x2 e43) (mb_X1_differences_147 N t0 _ _ _ hJ) hz2 hk0 (by decide) rfl (fs := fs4 h t0) rfl rfl ⟨tw_5_89, tw_5_86, tw_5_87, tw_5_88, tw_1_34⟩ cd_X1_otherKeys ⟨by decide, by decide⟩ hl.1 (by first | exact Nat.le_of_ble_eq_true rfl | simp [rf_cat, cat_i, cat_l, cat_r]) rfl dX1_differences_144 (fun H locs w1 => ?_)
    have hk44 := kd_keep w (mo_X1_otherKeys N t0 h x2 e43) hk0 (by decide)
    have w := w1
    exact sb_X1_differences_147 C hz2 N t0 _ _ _ hJ hk44 w (lv_sub (l' := [(0, .ref t0)]) hl [0] rfl)
  · have hJ := it_neg c40 hJ
    refine lv_aload_n hx hb dX1_differences_22 rfl (lv_at hl 0 rfl) ?_
    refine fg_401 C w hk0 tw_3_14 dX1_differences_23 ?_
    refine lv_aload_n hx hb dX1_differences_26 rfl (lv_at hl 0 rfl) ?_
    refine fg_405 C w hk0 tw_3_18 dX1_differences_27 ?_
    refine lv_iload hx hb dX1_differences_30 (lv_at hl 4 rfl) ?_
    obtain ⟨a45, ea45, hka45, hJ⟩ := dr_some hJ
    rw [ea45]
    obtain ⟨hi46, hJ⟩ := ck_some hJ
    refine jr_iald C w hka45 hi46 dX1_differences_32 ?_
    obtain ⟨a47, ea47, hka47, hJ⟩ := dr_some hJ
    rw [ea47]
    obtain ⟨⟨h48, r49⟩, e50, hJ⟩ := ob_some hJ
    refine jc_Vq (As := [.int (h.ai a45 x4.toNatClampNeg)]) C w (cc_Jx4a65c_get_915e3 N a47 h (h.ai a45 x4.toNatClampNeg) hka47 e50) (mo_Jx4a65c_get_915e3 N a47 h (h.ai a45 x4.toNatClampNeg) e50) (mb_X1_differences_36 N k13 t0 _ _ _ _ _ _ m13 hJ) hz2 hka47 (by decide) rfl (fs := fs2 h a47) rfl rfl ⟨tw_2_65, tw_3_46, tw_2_63, tw_2_64, tw_1_5⟩ cd_Jx4a65c_get_915e3 ⟨by decide, by decide⟩ hl.1 (by first | exact Nat.le_of_ble_eq_true rfl | simp [rf_cat, cat_i, cat_l, cat_r]) rfl dX1_differences_33 (fun H locs w1 => ?_)
    have hk51 := kd_keep w (mo_Jx4a65c_get_915e3 N a47 h (h.ai a45 x4.toNatClampNeg) e50) hk0 (by decide)
    have w := w1
    exact sb_X1_differences_36 C hz2 N k13 t0 m13 i13 _ _ _ _ _ _ hJ hk51 w hl
def L_X1_differences_13 (N : Nat) (t0 : Nat) : Nat → Hp → (Option Nat) → (Option Nat) → Int32 → Int32 → Option (Hp × Int32)
  | 0 => fun _ _ _ _ _ => none
  | n + 1 => fun h x1 x2 x3 x4 => B_X1_differences_13 N (L_X1_differences_13 N t0 n) t0 h x1 x2 x3 x4
theorem ml_X1_differences_13 (N : Nat) (t0 : Nat) : ∀ (n : Nat) (h : Hp) (x1 : Option Nat) (x2 : Option Nat) (x3 : Int32) (x4 : Int32), L_X1_differences_13 N t0 n h x1 x2 x3 x4 = some (hz, rz) → Mo h hz := by
  intro n
  induction n with
  | zero => intro h x1 x2 x3 x4 hJ; cases hJ
  | succ n ih => intro h x1 x2 x3 x4 hJ; exact mb_X1_differences_13 N (L_X1_differences_13 N t0 n) t0 h x1 x2 x3 x4 ih hJ
theorem sl_X1_differences_13 (C : Cx p s m args meth c cX1_differences 9 (some .int) RX1 D cs A h0.se) (hz2 : hz.nx ≤ h0.nx + mc ∧ hz.su ≤ h0.su + ms) (N : Nat) (t0 : Nat) : ∀ n : Nat, ∀ (h : Hp) (x1 : Option Nat) (x2 : Option Nat) (x3 : Int32) (x4 : Int32) (H : Heap) (locs : List Loc) (cells slots : Nat) (ls : Array Slot), L_X1_differences_13 N t0 n h x1 x2 x3 x4 = some (hz, rz) → h.kd t0 = 4 → Wo D cs A s h0 h H locs cells slots → lv_has ls 9 [(0, .ref t0), (1, va_rf x1), (2, va_rf x2), (3, .int x3), (4, .int x4)] → W p l e { frames := 9, cells := mc, slots := ms, locals := 290 } s m args below meth c H locs cells slots (MQ below (Zi D cs A hz rz) args s mc ms A) (F0 m 13 ls []) := by
  intro n
  induction n with
  | zero => intro h x1 x2 x3 x4 H locs cells slots ls hJ; cases hJ
  | succ n ih =>
    intro h x1 x2 x3 x4 H locs cells slots ls hJ hk0 w hl
    exact sb_X1_differences_13 C hz2 N (L_X1_differences_13 N t0 n) t0 (ml_X1_differences_13 N t0 n) ih h x1 x2 x3 x4 hJ hk0 w hl
def B_X1_differences_7 (N : Nat) (t0 : Nat) (h : Hp) (x1 : Option Nat) (y0 : Option Nat) : Option (Hp × Int32) := L_X1_differences_13 N t0 N h x1 y0 (0 : Int32) (0 : Int32)
theorem mb_X1_differences_7 (N : Nat) (t0 : Nat) (h : Hp) (x1 : Option Nat) (y0 : Option Nat) (hJ : B_X1_differences_7 N t0 h x1 y0 = some (hz, rz)) : Mo h hz := by
  unfold B_X1_differences_7 at hJ
  exact ml_X1_differences_13 N t0 N _ _ _ _ _ hJ
set_option maxRecDepth 100000 in
set_option maxHeartbeats 4000000 in
theorem sb_X1_differences_7 (C : Cx p s m args meth c cX1_differences 9 (some .int) RX1 D cs A h0.se) (hz2 : hz.nx ≤ h0.nx + mc ∧ hz.su ≤ h0.su + ms) (N : Nat) (t0 : Nat) (h : Hp) (x1 : Option Nat) (y0 : Option Nat) (hJ : B_X1_differences_7 N t0 h x1 y0 = some (hz, rz)) (hk0 : h.kd t0 = 4) {H : Heap} {locs : List Loc} {cells slots : Nat} (w : Wo D cs A s h0 h H locs cells slots) {ls : Array Slot} (hl : lv_has ls 9 [(0, .ref t0), (1, va_rf x1)]) : W p l e { frames := 9, cells := mc, slots := ms, locals := 290 } s m args below meth c H locs cells slots (MQ below (Zi D cs A hz rz) args s mc ms A) (F0 m 7 ls [va_rf y0]) := by
  obtain ⟨hx, hb, hml, hown, hts, -⟩ := id C
  unfold B_X1_differences_7 at hJ
  refine jv_astore_n (i := 2) (lv' := [(2, va_rf y0), (0, .ref t0), (1, va_rf x1)]) hx hb dX1_differences_7 rfl hl (by decide) (by simp [List.filter, rf_cat, cat_i, cat_l, cat_r]) (fun ls hl => ?_)
  refine lv_iconst (v := (0 : Int32)) hx hb dX1_differences_8 (by decide) ?_
  refine lv_istore_n (i := 3) (lv' := [(3, .int (0 : Int32)), (2, va_rf y0), (0, .ref t0), (1, va_rf x1)]) hx hb dX1_differences_9 rfl hl (by decide) (by simp [List.filter, rf_cat, cat_i, cat_l, cat_r]) (fun ls hl => ?_)
  refine lv_iconst (v := (0 : Int32)) hx hb dX1_differences_10 (by decide) ?_
  refine lv_istore (i := 4) (lv' := [(4, .int (0 : Int32)), (3, .int (0 : Int32)), (2, va_rf y0), (0, .ref t0), (1, va_rf x1)]) hx hb dX1_differences_11 hl (by decide) rfl (fun ls hl => ?_)
  exact sl_X1_differences_13 C hz2 N t0 N _ _ _ _ _ _ _ _ _ _ hJ hk0 w (lv_sub (l' := [(0, .ref t0), (1, va_rf x1), (2, va_rf y0), (3, .int (0 : Int32)), (4, .int (0 : Int32))]) hl [3, 4, 2, 1, 0] rfl)
def B_X1_differences_3 (N : Nat) (t0 : Nat) (h : Hp) (x1 : Option Nat) (y0 : Option Nat) : Option (Hp × Int32) := dr h 8 y0 (fun a52 => (J_X5_init N a52 h).bind (fun z => B_X1_differences_7 N t0 z.1 x1 (some a52)))
theorem mb_X1_differences_3 (N : Nat) (t0 : Nat) (h : Hp) (x1 : Option Nat) (y0 : Option Nat) (hJ : B_X1_differences_3 N t0 h x1 y0 = some (hz, rz)) : Mo h hz := by
  unfold B_X1_differences_3 at hJ
  obtain ⟨a52, ea52, -, hJ⟩ := dr_some hJ
  obtain ⟨⟨h53, r54⟩, e55, hJ⟩ := ob_some hJ
  exact (mo_X5_init N a52 h e55).tr (mb_X1_differences_7 N t0 _ _ _ hJ)
set_option maxRecDepth 100000 in
set_option maxHeartbeats 4000000 in
theorem sb_X1_differences_3 (C : Cx p s m args meth c cX1_differences 9 (some .int) RX1 D cs A h0.se) (hz2 : hz.nx ≤ h0.nx + mc ∧ hz.su ≤ h0.su + ms) (N : Nat) (t0 : Nat) (h : Hp) (x1 : Option Nat) (y0 : Option Nat) (hJ : B_X1_differences_3 N t0 h x1 y0 = some (hz, rz)) (hk0 : h.kd t0 = 4) {H : Heap} {locs : List Loc} {cells slots : Nat} (w : Wo D cs A s h0 h H locs cells slots) {ls : Array Slot} (hl : lv_has ls 9 [(0, .ref t0), (1, va_rf x1)]) : W p l e { frames := 9, cells := mc, slots := ms, locals := 290 } s m args below meth c H locs cells slots (MQ below (Zi D cs A hz rz) args s mc ms A) (F0 m 3 ls [va_rf y0]) := by
  obtain ⟨hx, hb, hml, hown, hts, -⟩ := id C
  unfold B_X1_differences_3 at hJ
  refine lv_dup hx hb dX1_differences_3 (rf_cat _) ?_
  obtain ⟨a52, ea52, hka52, hJ⟩ := dr_some hJ
  rw [ea52]
  obtain ⟨⟨h53, r54⟩, e55, hJ⟩ := ob_some hJ
  refine jc_IN (As := []) C w (cc_X5_init N a52 h hka52 e55) (mo_X5_init N a52 h e55) (mb_X1_differences_7 N t0 _ _ _ hJ) hz2 tw_1_47 (nw_4 C) tw_1_46 tw_1_2 rfl cd_X5_init ⟨by decide, by decide⟩ hl.1 (by first | exact Nat.le_of_ble_eq_true rfl | simp [rf_cat, cat_i, cat_l, cat_r]) rfl dX1_differences_4 (fun H locs w1 => ?_)
  have hk56 := kd_keep w (mo_X5_init N a52 h e55) hk0 (by decide)
  have w := w1
  exact sb_X1_differences_7 C hz2 N t0 _ _ _ hJ hk56 w hl
def B_X1_differences_0 (N : Nat) (t0 : Nat) (h : Hp) (x1 : Option Nat) : Option (Hp × Int32) := B_X1_differences_3 N t0 (h.new 8 0 1) x1 (some h.nx)
theorem mb_X1_differences_0 (N : Nat) (t0 : Nat) (h : Hp) (x1 : Option Nat) (hJ : B_X1_differences_0 N t0 h x1 = some (hz, rz)) : Mo h hz := by
  unfold B_X1_differences_0 at hJ
  exact (Mo.new h _ _ _).tr (mb_X1_differences_3 N t0 _ _ _ hJ)
set_option maxRecDepth 100000 in
set_option maxHeartbeats 4000000 in
theorem sb_X1_differences_0 (C : Cx p s m args meth c cX1_differences 9 (some .int) RX1 D cs A h0.se) (hz2 : hz.nx ≤ h0.nx + mc ∧ hz.su ≤ h0.su + ms) (N : Nat) (t0 : Nat) (h : Hp) (x1 : Option Nat) (hJ : B_X1_differences_0 N t0 h x1 = some (hz, rz)) (hk0 : h.kd t0 = 4) {H : Heap} {locs : List Loc} {cells slots : Nat} (w : Wo D cs A s h0 h H locs cells slots) {ls : Array Slot} (hl : lv_has ls 9 [(0, .ref t0), (1, va_rf x1)]) : W p l e { frames := 9, cells := mc, slots := ms, locals := 290 } s m args below meth c H locs cells slots (MQ below (Zi D cs A hz rz) args s mc ms A) (F0 m 0 ls []) := by
  obtain ⟨hx, hb, hml, hown, hts, -⟩ := id C
  unfold B_X1_differences_0 at hJ
  have w0 := w
  refine fn_8 C w (mb_X1_differences_3 N t0 _ _ _ hJ) hz2 tw_3_78 dX1_differences_0 (fun H w => ?_)
  have hk57 := kd_new (k := 8) (n := 0) (sl := 1) w0 hk0 (by decide)
  exact sb_X1_differences_3 C hz2 N t0 _ _ _ hJ hk57 w hl
def J_X1_differences (N : Nat) (t0 : Nat) (h : Hp) (x1 : Option Nat) : Option (Hp × Int32) := B_X1_differences_0 N t0 h x1
theorem mo_X1_differences (N : Nat) (t0 : Nat) (h : Hp) (x1 : Option Nat) (hJ : J_X1_differences N t0 h x1 = some (hz, rz)) : Mo h hz := mb_X1_differences_0 N t0 h x1 hJ
theorem cd_X1_differences : Cd yX1_differences 1 := ⟨by decide +kernel, by decide +kernel, by decide +kernel⟩
theorem cc_X1_differences (N : Nat) (t0 : Nat) (h : Hp) (x1 : Option Nat) (hk0 : h.kd t0 = 4) (hJ : J_X1_differences N t0 h x1 = some (hz, rz)) : Ci l yX1_differences cX1_differences 9 (some .int) 9 290 D cs h hz [.ref t0, va_rf x1] rz := by
  intro mc ms g1 g2
  refine je_any (by decide) (by simp [lg_sl, rf_cat, cat_i, cat_l, cat_r]) ?_
  intro p e s m args below meth c C hin2 w ls hl
  have hl : lv_has ls 9 [(0, .ref t0), (1, va_rf x1)] := by simpa [lv_args, rf_cat, cat_i, cat_l, cat_r] using hl
  exact sb_X1_differences_0 C ⟨g1, g2⟩ N t0 h x1 hJ hk0 w hl
end G_X1_differences
