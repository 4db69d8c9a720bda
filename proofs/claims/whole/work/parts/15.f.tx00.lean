section G_X7_init
variable {p : Program} {l : Launch} {e : Env} {s : State} {m : MethodId} {args : Array Value} {below : List Frame} {meth : Method} {c : Code} {D : va_G} {cs : C4} {A : Nat → Prop} {h0 hz : Hp} {mc ms : Nat}
def B_X7_init_82 (N : Nat) (t0 : Nat) (h : Hp) (y0 : Option Nat) (y1 : Int32) : Option (Hp × Unit) := dr h 10 y0 (fun a1 => some (h.sfi 1005 a1 y1, ()))
theorem mb_X7_init_82 (N : Nat) (t0 : Nat) (h : Hp) (y0 : Option Nat) (y1 : Int32) (hJ : B_X7_init_82 N t0 h y0 y1 = some (hz, ())) : Mo h hz := by
  unfold B_X7_init_82 at hJ
  obtain ⟨a1, ea1, -, hJ⟩ := dr_some hJ
  obtain ⟨rfl, -⟩ := rs2 hJ
  exact ⟨fun _ _ => rfl, Nat.le_refl _, Nat.le_refl _, rfl, fun _ _ => rfl⟩
set_option maxRecDepth 100000 in
set_option maxHeartbeats 4000000 in
theorem sb_X7_init_82 (C : Cx p s m args meth c cX7_init 3 none RX7 D cs A h0.se) (hin2 : meth.name = "<init>") (hz2 : hz.nx ≤ h0.nx + mc ∧ hz.su ≤ h0.su + ms) (N : Nat) (t0 : Nat) (h : Hp) (y0 : Option Nat) (y1 : Int32) (hJ : B_X7_init_82 N t0 h y0 y1 = some (hz, ())) (hk0 : h.kd t0 = 10) {H : Heap} {locs : List Loc} {cells slots : Nat} (w : Wo D cs A s h0 h H locs cells slots) {ls : Array Slot} (hl : lv_has ls 3 [(0, .ref t0)]) : W p l e { frames := 4, cells := mc, slots := ms, locals := 100 } s m args below meth c H locs cells slots (MQ below (Zv D cs A hz) args s mc ms A) (F0 m 82 ls [.int y1, va_rf y0]) := by
  obtain ⟨hx, hb, hml, hown, hts, -⟩ := id C
  unfold B_X7_init_82 at hJ
  obtain ⟨a1, ea1, hka1, hJ⟩ := dr_some hJ
  rw [ea1]
  refine fp_1005 (x := y1) C w hka1 tw_2_23 dX7_init_82 (fun H locs w => ?_)
  obtain ⟨rfl, -⟩ := rs2 hJ
  exact jr_vret C w hz2 dX7_init_85
def B_X7_init_64 (N : Nat) (t0 : Nat) (h : Hp) (x1 : Option Nat) (x2 : Int32) : Option (Hp × Unit) := dr h 11 x1 (fun a2 => if x2 = 0 then (B_X7_init_82 N t0 (h.sfi 1001 t0 (h.fi 1101 a2)) (some t0) (0 : Int32)) else (B_X7_init_82 N t0 (h.sfi 1001 t0 (h.fi 1101 a2)) (some t0) (1 : Int32)))
theorem mb_X7_init_64 (N : Nat) (t0 : Nat) (h : Hp) (x1 : Option Nat) (x2 : Int32) (hJ : B_X7_init_64 N t0 h x1 x2 = some (hz, ())) : Mo h hz := by
  unfold B_X7_init_64 at hJ
  obtain ⟨a2, ea2, -, hJ⟩ := dr_some hJ
  by_cases c3 : x2 = 0
  · have hJ := it_pos c3 hJ
    exact (Mo.tr (show Mo h (h.sfi 1001 t0 (h.fi 1101 a2)) from ⟨fun _ _ => rfl, Nat.le_refl _, Nat.le_refl _, rfl, fun _ _ => rfl⟩) (mb_X7_init_82 N t0 _ _ _ hJ))
  · have hJ := it_neg c3 hJ
    exact (Mo.tr (show Mo h (h.sfi 1001 t0 (h.fi 1101 a2)) from ⟨fun _ _ => rfl, Nat.le_refl _, Nat.le_refl _, rfl, fun _ _ => rfl⟩) (mb_X7_init_82 N t0 _ _ _ hJ))
set_option maxRecDepth 100000 in
set_option maxHeartbeats 4000000 in
theorem sb_X7_init_64 (C : Cx p s m args meth c cX7_init 3 none RX7 D cs A h0.se) (hin2 : meth.name = "<init>") (hz2 : hz.nx ≤ h0.nx + mc ∧ hz.su ≤ h0.su + ms) (N : Nat) (t0 : Nat) (h : Hp) (x1 : Option Nat) (x2 : Int32) (hJ : B_X7_init_64 N t0 h x1 x2 = some (hz, ())) (hk0 : h.kd t0 = 10) {H : Heap} {locs : List Loc} {cells slots : Nat} (w : Wo D cs A s h0 h H locs cells slots) {ls : Array Slot} (hl : lv_has ls 3 [(0, .ref t0), (1, va_rf x1), (2, .int x2)]) : W p l e { frames := 4, cells := mc, slots := ms, locals := 100 } s m args below meth c H locs cells slots (MQ below (Zv D cs A hz) args s mc ms A) (F0 m 64 ls []) := by
  obtain ⟨hx, hb, hml, hown, hts, -⟩ := id C
  unfold B_X7_init_64 at hJ
  refine lv_aload_n hx hb dX7_init_64 rfl (lv_at hl 0 rfl) ?_
  refine jv_aload_n hx hb dX7_init_65 rfl (lv_at hl 1 rfl) ?_
  obtain ⟨a2, ea2, hka2, hJ⟩ := dr_some hJ
  rw [ea2] at hl
  rw [ea2]
  refine fg_1101 C w hka2 tw_1_197 dX7_init_66 ?_
  refine fp_1001 (x := h.fi 1101 a2) C hin2 w hk0 tw_2_12 dX7_init_69 (fun H locs w => ?_)
  refine lv_aload_n hx hb dX7_init_72 rfl (lv_at hl 0 rfl) ?_
  refine lv_iload_n hx hb dX7_init_73 rfl (lv_at hl 2 rfl) ?_
  refine lv_if_eq (tgt := 81) hx hb dX7_init_74 (by decide) (fun c3 => ?_) (fun c3 => ?_)
  · have hJ := it_pos c3 hJ
    refine lv_iconst (v := (0 : Int32)) hx hb dX7_init_81 (by decide) ?_
    exact sb_X7_init_82 C hin2 hz2 N t0 _ _ _ hJ hk0 w (lv_sub (l' := [(0, .ref t0)]) hl [0] rfl)
  · have hJ := it_neg c3 hJ
    refine lv_iconst (v := (1 : Int32)) hx hb dX7_init_77 (by decide) ?_
    refine lv_goto (tgt := 82) hx hb dX7_init_78 (by decide) ?_
    exact sb_X7_init_82 C hin2 hz2 N t0 _ _ _ hJ hk0 w (lv_sub (l' := [(0, .ref t0)]) hl [0] rfl)
def B_X7_init_41 (N : Nat) (t0 : Nat) (h : Hp) (x1 : Option Nat) (x2 : Int32) : Option (Hp × Unit) := dr (((h.sfi 1009 t0 (0 : Int32)).sfi 1010 t0 (0 : Int32)).sfr 1002 t0 x1) 11 x1 (fun a4 => B_X7_init_64 N t0 ((((h.sfi 1009 t0 (0 : Int32)).sfi 1010 t0 (0 : Int32)).sfr 1002 t0 x1).sfi 1000 t0 ((((h.sfi 1009 t0 (0 : Int32)).sfi 1010 t0 (0 : Int32)).sfr 1002 t0 x1).fi 1102 a4)) (some a4) x2)
theorem mb_X7_init_41 (N : Nat) (t0 : Nat) (h : Hp) (x1 : Option Nat) (x2 : Int32) (hJ : B_X7_init_41 N t0 h x1 x2 = some (hz, ())) : Mo h hz := by
  unfold B_X7_init_41 at hJ
  obtain ⟨a4, ea4, -, hJ⟩ := dr_some hJ
  exact (Mo.tr (show Mo h ((((h.sfi 1009 t0 (0 : Int32)).sfi 1010 t0 (0 : Int32)).sfr 1002 t0 x1).sfi 1000 t0 ((((h.sfi 1009 t0 (0 : Int32)).sfi 1010 t0 (0 : Int32)).sfr 1002 t0 x1).fi 1102 a4)) from ⟨fun _ _ => rfl, Nat.le_refl _, Nat.le_refl _, rfl, fun _ _ => rfl⟩) (mb_X7_init_64 N t0 _ _ _ hJ))
set_option maxRecDepth 100000 in
set_option maxHeartbeats 4000000 in
theorem sb_X7_init_41 (C : Cx p s m args meth c cX7_init 3 none RX7 D cs A h0.se) (hin2 : meth.name = "<init>") (hz2 : hz.nx ≤ h0.nx + mc ∧ hz.su ≤ h0.su + ms) (N : Nat) (t0 : Nat) (h : Hp) (x1 : Option Nat) (x2 : Int32) (hJ : B_X7_init_41 N t0 h x1 x2 = some (hz, ())) (hk0 : h.kd t0 = 10) {H : Heap} {locs : List Loc} {cells slots : Nat} (w : Wo D cs A s h0 h H locs cells slots) {ls : Array Slot} (hl : lv_has ls 3 [(0, .ref t0), (1, va_rf x1), (2, .int x2)]) : W p l e { frames := 4, cells := mc, slots := ms, locals := 100 } s m args below meth c H locs cells slots (MQ below (Zv D cs A hz) args s mc ms A) (F0 m 41 ls []) := by
  obtain ⟨hx, hb, hml, hown, hts, -⟩ := id C
  unfold B_X7_init_41 at hJ
  refine lv_aload_n hx hb dX7_init_41 rfl (lv_at hl 0 rfl) ?_
  refine lv_iconst (v := (0 : Int32)) hx hb dX7_init_42 (by decide) ?_
  refine fp_1009 (x := (0 : Int32)) C w hk0 (Or.inl rfl) tw_2_32 dX7_init_43 (fun H locs w => ?_)
  refine lv_aload_n hx hb dX7_init_46 rfl (lv_at hl 0 rfl) ?_
  refine lv_iconst (v := (0 : Int32)) hx hb dX7_init_47 (by decide) ?_
  refine fp_1010 (x := (0 : Int32)) C w hk0 tw_2_34 dX7_init_48 (fun H locs w => ?_)
  refine lv_aload_n hx hb dX7_init_51 rfl (lv_at hl 0 rfl) ?_
  refine jv_aload_n hx hb dX7_init_52 rfl (lv_at hl 1 rfl) ?_
  refine fp_1002 (x := x1) C hin2 w hk0 tw_2_15 dX7_init_53 (fun H locs w => ?_)
  refine lv_aload_n hx hb dX7_init_56 rfl (lv_at hl 0 rfl) ?_
  refine jv_aload_n hx hb dX7_init_57 rfl (lv_at hl 1 rfl) ?_
  obtain ⟨a4, ea4, hka4, hJ⟩ := dr_some hJ
  rw [ea4] at hl
  rw [ea4]
  refine fg_1102 C w hka4 tw_1_199 dX7_init_58 ?_
  refine fp_1000 (x := (((h.sfi 1009 t0 (0 : Int32)).sfi 1010 t0 (0 : Int32)).sfr 1002 t0 x1).fi 1102 a4) C hin2 w hk0 tw_2_9 dX7_init_61 (fun H locs w => ?_)
  exact sb_X7_init_64 C hin2 hz2 N t0 _ _ _ hJ hk0 w hl
def B_X7_init_23 (N : Nat) (t0 : Nat) (h : Hp) (x1 : Option Nat) (x2 : Int32) (y0 : Option Nat) (y1 : Option Nat) : Option (Hp × Unit) := dr h 10 y0 (fun a5 => B_X7_init_41 N t0 ((((h.sfr 1004 a5 y1).sfi 1006 t0 (1 : Int32)).sfi 1007 t0 (0 : Int32)).sfi 1008 t0 (0 : Int32)) x1 x2)
theorem mb_X7_init_23 (N : Nat) (t0 : Nat) (h : Hp) (x1 : Option Nat) (x2 : Int32) (y0 : Option Nat) (y1 : Option Nat) (hJ : B_X7_init_23 N t0 h x1 x2 y0 y1 = some (hz, ())) : Mo h hz := by
  unfold B_X7_init_23 at hJ
  obtain ⟨a5, ea5, -, hJ⟩ := dr_some hJ
  exact (Mo.tr (show Mo h ((((h.sfr 1004 a5 y1).sfi 1006 t0 (1 : Int32)).sfi 1007 t0 (0 : Int32)).sfi 1008 t0 (0 : Int32)) from ⟨fun _ _ => rfl, Nat.le_refl _, Nat.le_refl _, rfl, fun _ _ => rfl⟩) (mb_X7_init_41 N t0 _ _ _ hJ))
set_option maxRecDepth 100000 in
set_option maxHeartbeats 4000000 in
theorem sb_X7_init_23 (C : Cx p s m args meth c cX7_init 3 none RX7 D cs A h0.se) (hin2 : meth.name = "<init>") (hz2 : hz.nx ≤ h0.nx + mc ∧ hz.su ≤ h0.su + ms) (N : Nat) (t0 : Nat) (h : Hp) (x1 : Option Nat) (x2 : Int32) (y0 : Option Nat) (y1 : Option Nat) (hJ : B_X7_init_23 N t0 h x1 x2 y0 y1 = some (hz, ())) (hk0 : h.kd t0 = 10) {H : Heap} {locs : List Loc} {cells slots : Nat} (w : Wo D cs A s h0 h H locs cells slots) {ls : Array Slot} (hl : lv_has ls 3 [(0, .ref t0), (1, va_rf x1), (2, .int x2)]) : W p l e { frames := 4, cells := mc, slots := ms, locals := 100 } s m args below meth c H locs cells slots (MQ below (Zv D cs A hz) args s mc ms A) (F0 m 23 ls [va_rf y1, va_rf y0]) := by
  obtain ⟨hx, hb, hml, hown, hts, -⟩ := id C
  unfold B_X7_init_23 at hJ
  obtain ⟨a5, ea5, hka5, hJ⟩ := dr_some hJ
  rw [ea5]
  refine fp_1004 (x := y1) C hin2 w hka5 tw_2_20 dX7_init_23 (fun H locs w => ?_)
  refine lv_aload_n hx hb dX7_init_26 rfl (lv_at hl 0 rfl) ?_
  refine lv_iconst (v := (1 : Int32)) hx hb dX7_init_27 (by decide) ?_
  refine fp_1006 (x := (1 : Int32)) C w hk0 tw_2_25 dX7_init_28 (fun H locs w => ?_)
  refine lv_aload_n hx hb dX7_init_31 rfl (lv_at hl 0 rfl) ?_
  refine lv_iconst (v := (0 : Int32)) hx hb dX7_init_32 (by decide) ?_
  refine fp_1007 (x := (0 : Int32)) C w hk0 tw_2_27 dX7_init_33 (fun H locs w => ?_)
  refine lv_aload_n hx hb dX7_init_36 rfl (lv_at hl 0 rfl) ?_
  refine lv_iconst (v := (0 : Int32)) hx hb dX7_init_37 (by decide) ?_
  refine fp_1008 (x := (0 : Int32)) C w hk0 tw_2_30 dX7_init_38 (fun H locs w => ?_)
  exact sb_X7_init_41 C hin2 hz2 N t0 _ _ _ hJ hk0 w hl
def B_X7_init_19 (N : Nat) (t0 : Nat) (h : Hp) (x1 : Option Nat) (x2 : Int32) (y0 : Option Nat) (y1 : Option Nat) : Option (Hp × Unit) := dr h 2 y1 (fun a6 => (J_Jx4a65c_init_da8c8 N a6 h).bind (fun z => B_X7_init_23 N t0 z.1 x1 x2 y0 (some a6)))
theorem mb_X7_init_19 (N : Nat) (t0 : Nat) (h : Hp) (x1 : Option Nat) (x2 : Int32) (y0 : Option Nat) (y1 : Option Nat) (hJ : B_X7_init_19 N t0 h x1 x2 y0 y1 = some (hz, ())) : Mo h hz := by
  unfold B_X7_init_19 at hJ
  obtain ⟨a6, ea6, -, hJ⟩ := dr_some hJ
  obtain ⟨⟨h7, r8⟩, e9, hJ⟩ := ob_some hJ
  exact (mo_Jx4a65c_init_da8c8 N a6 h e9).tr (mb_X7_init_23 N t0 _ _ _ _ _ hJ)
set_option maxRecDepth 100000 in
set_option maxHeartbeats 4000000 in
theorem sb_X7_init_19 (C : Cx p s m args meth c cX7_init 3 none RX7 D cs A h0.se) (hin2 : meth.name = "<init>") (hz2 : hz.nx ≤ h0.nx + mc ∧ hz.su ≤ h0.su + ms) (N : Nat) (t0 : Nat) (h : Hp) (x1 : Option Nat) (x2 : Int32) (y0 : Option Nat) (y1 : Option Nat) (hJ : B_X7_init_19 N t0 h x1 x2 y0 y1 = some (hz, ())) (hk0 : h.kd t0 = 10) {H : Heap} {locs : List Loc} {cells slots : Nat} (w : Wo D cs A s h0 h H locs cells slots) {ls : Array Slot} (hl : lv_has ls 3 [(0, .ref t0), (1, va_rf x1), (2, .int x2)]) : W p l e { frames := 4, cells := mc, slots := ms, locals := 100 } s m args below meth c H locs cells slots (MQ below (Zv D cs A hz) args s mc ms A) (F0 m 19 ls [va_rf y1, va_rf y0]) := by
  obtain ⟨hx, hb, hml, hown, hts, -⟩ := id C
  unfold B_X7_init_19 at hJ
  refine lv_dup hx hb dX7_init_19 (rf_cat _) ?_
  obtain ⟨a6, ea6, hka6, hJ⟩ := dr_some hJ
  rw [ea6]
  obtain ⟨⟨h7, r8⟩, e9, hJ⟩ := ob_some hJ
  refine jc_I (As := []) C w (cc_Jx4a65c_init_da8c8 N a6 h hka6 e9) (mo_Jx4a65c_init_da8c8 N a6 h e9) (mb_X7_init_23 N t0 _ _ _ _ _ hJ) hz2 tw_1_53 tw_2_8 tw_1_52 tw_1_5 rfl cd_Jx4a65c_init_da8c8 ⟨by decide, by decide⟩ hl.1 (by first | exact Nat.le_of_ble_eq_true rfl | simp [rf_cat, cat_i, cat_l, cat_r]) rfl dX7_init_20 (fun H locs w1 => ?_)
  have hk10 := kd_keep w (mo_Jx4a65c_init_da8c8 N a6 h e9) hk0 (by decide)
  have w := w1
  exact sb_X7_init_23 C hin2 hz2 N t0 _ _ _ _ _ hJ hk10 w hl
def B_X7_init_12 (N : Nat) (t0 : Nat) (h : Hp) (x1 : Option Nat) (x2 : Int32) (y0 : Option Nat) (y1 : Option Nat) : Option (Hp × Unit) := dr h 10 y0 (fun a11 => B_X7_init_19 N t0 ((h.sfr 1003 a11 y1).new 2 0 3) x1 x2 (some t0) (some (h.sfr 1003 a11 y1).nx))
theorem mb_X7_init_12 (N : Nat) (t0 : Nat) (h : Hp) (x1 : Option Nat) (x2 : Int32) (y0 : Option Nat) (y1 : Option Nat) (hJ : B_X7_init_12 N t0 h x1 x2 y0 y1 = some (hz, ())) : Mo h hz := by
  unfold B_X7_init_12 at hJ
  obtain ⟨a11, ea11, -, hJ⟩ := dr_some hJ
  exact (Mo.tr (show Mo h (h.sfr 1003 a11 y1) from ⟨fun _ _ => rfl, Nat.le_refl _, Nat.le_refl _, rfl, fun _ _ => rfl⟩) ((Mo.new (h.sfr 1003 a11 y1) _ _ _).tr (mb_X7_init_19 N t0 _ _ _ _ _ hJ)))
set_option maxRecDepth 100000 in
set_option maxHeartbeats 4000000 in
theorem sb_X7_init_12 (C : Cx p s m args meth c cX7_init 3 none RX7 D cs A h0.se) (hin2 : meth.name = "<init>") (hz2 : hz.nx ≤ h0.nx + mc ∧ hz.su ≤ h0.su + ms) (N : Nat) (t0 : Nat) (h : Hp) (x1 : Option Nat) (x2 : Int32) (y0 : Option Nat) (y1 : Option Nat) (hJ : B_X7_init_12 N t0 h x1 x2 y0 y1 = some (hz, ())) (hk0 : h.kd t0 = 10) {H : Heap} {locs : List Loc} {cells slots : Nat} (w : Wo D cs A s h0 h H locs cells slots) {ls : Array Slot} (hl : lv_has ls 3 [(0, .ref t0), (1, va_rf x1), (2, .int x2)]) : W p l e { frames := 4, cells := mc, slots := ms, locals := 100 } s m args below meth c H locs cells slots (MQ below (Zv D cs A hz) args s mc ms A) (F0 m 12 ls [va_rf y1, va_rf y0]) := by
  obtain ⟨hx, hb, hml, hown, hts, -⟩ := id C
  unfold B_X7_init_12 at hJ
  obtain ⟨a11, ea11, hka11, hJ⟩ := dr_some hJ
  rw [ea11]
  refine fp_1003 (x := y1) C hin2 w hka11 tw_2_17 dX7_init_12 (fun H locs w => ?_)
  refine lv_aload_n hx hb dX7_init_15 rfl (lv_at hl 0 rfl) ?_
  have w0 := w
  refine fn_2 C w (mb_X7_init_19 N t0 _ _ _ _ _ hJ) hz2 tw_2_7 dX7_init_16 (fun H w => ?_)
  have hk12 := kd_new (k := 2) (n := 0) (sl := 3) w0 hk0 (by decide)
  exact sb_X7_init_19 C hin2 hz2 N t0 _ _ _ _ _ hJ hk12 w hl
def B_X7_init_8 (N : Nat) (t0 : Nat) (h : Hp) (x1 : Option Nat) (x2 : Int32) (y0 : Option Nat) (y1 : Option Nat) : Option (Hp × Unit) := dr h 9 y1 (fun a13 => (J_X6_init N a13 h).bind (fun z => B_X7_init_12 N t0 z.1 x1 x2 y0 (some a13)))
theorem mb_X7_init_8 (N : Nat) (t0 : Nat) (h : Hp) (x1 : Option Nat) (x2 : Int32) (y0 : Option Nat) (y1 : Option Nat) (hJ : B_X7_init_8 N t0 h x1 x2 y0 y1 = some (hz, ())) : Mo h hz := by
  unfold B_X7_init_8 at hJ
  obtain ⟨a13, ea13, -, hJ⟩ := dr_some hJ
  obtain ⟨⟨h14, r15⟩, e16, hJ⟩ := ob_some hJ
  exact (mo_X6_init N a13 h e16).tr (mb_X7_init_12 N t0 _ _ _ _ _ hJ)
set_option maxRecDepth 100000 in
set_option maxHeartbeats 4000000 in
theorem sb_X7_init_8 (C : Cx p s m args meth c cX7_init 3 none RX7 D cs A h0.se) (hin2 : meth.name = "<init>") (hz2 : hz.nx ≤ h0.nx + mc ∧ hz.su ≤ h0.su + ms) (N : Nat) (t0 : Nat) (h : Hp) (x1 : Option Nat) (x2 : Int32) (y0 : Option Nat) (y1 : Option Nat) (hJ : B_X7_init_8 N t0 h x1 x2 y0 y1 = some (hz, ())) (hk0 : h.kd t0 = 10) {H : Heap} {locs : List Loc} {cells slots : Nat} (w : Wo D cs A s h0 h H locs cells slots) {ls : Array Slot} (hl : lv_has ls 3 [(0, .ref t0), (1, va_rf x1), (2, .int x2)]) : W p l e { frames := 4, cells := mc, slots := ms, locals := 100 } s m args below meth c H locs cells slots (MQ below (Zv D cs A hz) args s mc ms A) (F0 m 8 ls [va_rf y1, va_rf y0]) := by
  obtain ⟨hx, hb, hml, hown, hts, -⟩ := id C
  unfold B_X7_init_8 at hJ
  refine lv_dup hx hb dX7_init_8 (rf_cat _) ?_
  obtain ⟨a13, ea13, hka13, hJ⟩ := dr_some hJ
  rw [ea13]
  obtain ⟨⟨h14, r15⟩, e16, hJ⟩ := ob_some hJ
  refine jc_IN (As := []) C w (cc_X6_init N a13 h hka13 e16) (mo_X6_init N a13 h e16) (mb_X7_init_12 N t0 _ _ _ _ _ hJ) hz2 tw_1_231 (nw_3 C) tw_1_230 tw_1_10 rfl cd_X6_init ⟨by decide, by decide⟩ hl.1 (by first | exact Nat.le_of_ble_eq_true rfl | simp [rf_cat, cat_i, cat_l, cat_r]) rfl dX7_init_9 (fun H locs w1 => ?_)
  have hk17 := kd_keep w (mo_X6_init N a13 h e16) hk0 (by decide)
  have w := w1
  exact sb_X7_init_12 C hin2 hz2 N t0 _ _ _ _ _ hJ hk17 w hl
def B_X7_init_0 (N : Nat) (t0 : Nat) (h : Hp) (x1 : Option Nat) (x2 : Int32) : Option (Hp × Unit) := B_X7_init_8 N t0 (h.new 9 0 3) x1 x2 (some t0) (some h.nx)
theorem mb_X7_init_0 (N : Nat) (t0 : Nat) (h : Hp) (x1 : Option Nat) (x2 : Int32) (hJ : B_X7_init_0 N t0 h x1 x2 = some (hz, ())) : Mo h hz := by
  unfold B_X7_init_0 at hJ
  exact (Mo.new h _ _ _).tr (mb_X7_init_8 N t0 _ _ _ _ _ hJ)
set_option maxRecDepth 100000 in
set_option maxHeartbeats 4000000 in
theorem sb_X7_init_0 (C : Cx p s m args meth c cX7_init 3 none RX7 D cs A h0.se) (hin2 : meth.name = "<init>") (hz2 : hz.nx ≤ h0.nx + mc ∧ hz.su ≤ h0.su + ms) (N : Nat) (t0 : Nat) (h : Hp) (x1 : Option Nat) (x2 : Int32) (hJ : B_X7_init_0 N t0 h x1 x2 = some (hz, ())) (hk0 : h.kd t0 = 10) {H : Heap} {locs : List Loc} {cells slots : Nat} (w : Wo D cs A s h0 h H locs cells slots) {ls : Array Slot} (hl : lv_has ls 3 [(0, .ref t0), (1, va_rf x1), (2, .int x2)]) : W p l e { frames := 4, cells := mc, slots := ms, locals := 100 } s m args below meth c H locs cells slots (MQ below (Zv D cs A hz) args s mc ms A) (F0 m 0 ls []) := by
  obtain ⟨hx, hb, hml, hown, hts, -⟩ := id C
  unfold B_X7_init_0 at hJ
  refine lv_aload_n hx hb dX7_init_0 rfl (lv_at hl 0 rfl) ?_
  refine jc_O C tw_1_226 tw_1_41 tw_obj hl.1 (by first | exact Nat.le_of_ble_eq_true rfl | simp [rf_cat, cat_i, cat_l, cat_r]) (by decide) dX7_init_1 ?_
  refine lv_aload_n hx hb dX7_init_4 rfl (lv_at hl 0 rfl) ?_
  have w0 := w
  refine fn_9 C w (mb_X7_init_8 N t0 _ _ _ _ _ hJ) hz2 tw_1_227 dX7_init_5 (fun H w => ?_)
  have hk18 := kd_new (k := 9) (n := 0) (sl := 3) w0 hk0 (by decide)
  exact sb_X7_init_8 C hin2 hz2 N t0 _ _ _ _ _ hJ hk18 w hl
def J_X7_init (N : Nat) (t0 : Nat) (h : Hp) (x1 : Option Nat) (x2 : Int32) : Option (Hp × Unit) := B_X7_init_0 N t0 h x1 x2
theorem mo_X7_init (N : Nat) (t0 : Nat) (h : Hp) (x1 : Option Nat) (x2 : Int32) (hJ : J_X7_init N t0 h x1 x2 = some (hz, ())) : Mo h hz := mb_X7_init_0 N t0 h x1 x2 hJ
theorem cd_X7_init : Cd yX7_init 2 := ⟨by decide +kernel, by decide +kernel, by decide +kernel⟩
theorem cc_X7_init (N : Nat) (t0 : Nat) (h : Hp) (x1 : Option Nat) (x2 : Int32) (hk0 : h.kd t0 = 10) (hJ : J_X7_init N t0 h x1 x2 = some (hz, ())) : Cv l yX7_init cX7_init 3 none 4 100 D cs h hz [.ref t0, va_rf x1, .int x2] := by
  intro mc ms g1 g2
  refine je_any (by decide) (by simp [lg_sl, rf_cat, cat_i, cat_l, cat_r]) ?_
  intro p e s m args below meth c C hin2 w ls hl
  have hl : lv_has ls 3 [(0, .ref t0), (1, va_rf x1), (2, .int x2)] := by simpa [lv_args, rf_cat, cat_i, cat_l, cat_r] using hl
  exact sb_X7_init_0 C hin2 ⟨g1, g2⟩ N t0 h x1 x2 hJ hk0 w hl
end G_X7_init
section G_X7_becomeSafeIfDone
variable {p : Program} {l : Launch} {e : Env} {s : State} {m : MethodId} {args : Array Value} {below : List Frame} {meth : Method} {c : Code} {D : va_G} {cs : C4} {A : Nat → Prop} {h0 hz : Hp} {mc ms : Nat}
def B_X7_becomeSafeIfDone_25 (N : Nat) (t0 : Nat) (h : Hp) : Option (Hp × Unit) := some (h, ())
theorem mb_X7_becomeSafeIfDone_25 (N : Nat) (t0 : Nat) (h : Hp) (hJ : B_X7_becomeSafeIfDone_25 N t0 h = some (hz, ())) : Mo h hz := by
  unfold B_X7_becomeSafeIfDone_25 at hJ
  obtain ⟨rfl, -⟩ := rs2 hJ
  exact ⟨fun _ _ => rfl, Nat.le_refl _, Nat.le_refl _, rfl, fun _ _ => rfl⟩
set_option maxRecDepth 100000 in
set_option maxHeartbeats 4000000 in
theorem sb_X7_becomeSafeIfDone_25 (C : Cx p s m args meth c cX7_becomeSafeIfDone 1 none RX7 D cs A h0.se) (hz2 : hz.nx ≤ h0.nx + mc ∧ hz.su ≤ h0.su + ms) (N : Nat) (t0 : Nat) (h : Hp) (hJ : B_X7_becomeSafeIfDone_25 N t0 h = some (hz, ())) (hk0 : h.kd t0 = 10) {H : Heap} {locs : List Loc} {cells slots : Nat} (w : Wo D cs A s h0 h H locs cells slots) {ls : Array Slot} (hl : lv_has ls 1 [(0, .ref t0)]) : W p l e { frames := 0, cells := mc, slots := ms, locals := 0 } s m args below meth c H locs cells slots (MQ below (Zv D cs A hz) args s mc ms A) (F0 m 25 ls []) := by
  obtain ⟨hx, hb, hml, hown, hts, -⟩ := id C
  unfold B_X7_becomeSafeIfDone_25 at hJ
  obtain ⟨rfl, -⟩ := rs2 hJ
  exact jr_vret C w hz2 dX7_becomeSafeIfDone_25
def B_X7_becomeSafeIfDone_0 (N : Nat) (t0 : Nat) (h : Hp) : Option (Hp × Unit) := if (h.fi 1005 t0) = (1 : Int32) then (if (h.fi 1010 t0) = 0 then (B_X7_becomeSafeIfDone_25 N t0 ((h.sfi 1005 t0 (2 : Int32)).sfi 1008 t0 (0 : Int32))) else (B_X7_becomeSafeIfDone_25 N t0 h)) else (B_X7_becomeSafeIfDone_25 N t0 h)
theorem mb_X7_becomeSafeIfDone_0 (N : Nat) (t0 : Nat) (h : Hp) (hJ : B_X7_becomeSafeIfDone_0 N t0 h = some (hz, ())) : Mo h hz := by
  unfold B_X7_becomeSafeIfDone_0 at hJ
  by_cases c1 : (h.fi 1005 t0) = (1 : Int32)
  · have hJ := it_pos c1 hJ
    by_cases c2 : (h.fi 1010 t0) = 0
    · have hJ := it_pos c2 hJ
      exact (Mo.tr (show Mo h ((h.sfi 1005 t0 (2 : Int32)).sfi 1008 t0 (0 : Int32)) from ⟨fun _ _ => rfl, Nat.le_refl _, Nat.le_refl _, rfl, fun _ _ => rfl⟩) (mb_X7_becomeSafeIfDone_25 N t0 _ hJ))
    · have hJ := it_neg c2 hJ
      exact mb_X7_becomeSafeIfDone_25 N t0 _ hJ
  · have hJ := it_neg c1 hJ
    exact mb_X7_becomeSafeIfDone_25 N t0 _ hJ
set_option maxRecDepth 100000 in
set_option maxHeartbeats 4000000 in
theorem sb_X7_becomeSafeIfDone_0 (C : Cx p s m args meth c cX7_becomeSafeIfDone 1 none RX7 D cs A h0.se) (hz2 : hz.nx ≤ h0.nx + mc ∧ hz.su ≤ h0.su + ms) (N : Nat) (t0 : Nat) (h : Hp) (hJ : B_X7_becomeSafeIfDone_0 N t0 h = some (hz, ())) (hk0 : h.kd t0 = 10) {H : Heap} {locs : List Loc} {cells slots : Nat} (w : Wo D cs A s h0 h H locs cells slots) {ls : Array Slot} (hl : lv_has ls 1 [(0, .ref t0)]) : W p l e { frames := 0, cells := mc, slots := ms, locals := 0 } s m args below meth c H locs cells slots (MQ below (Zv D cs A hz) args s mc ms A) (F0 m 0 ls []) := by
  obtain ⟨hx, hb, hml, hown, hts, -⟩ := id C
  unfold B_X7_becomeSafeIfDone_0 at hJ
  refine lv_aload_n hx hb dX7_becomeSafeIfDone_0 rfl (lv_at hl 0 rfl) ?_
  refine fg_1005 C w hk0 tw_2_23 dX7_becomeSafeIfDone_1 ?_
  refine lv_iconst (v := (1 : Int32)) hx hb dX7_becomeSafeIfDone_4 (by decide) ?_
  refine lv_icmp_ne (tgt := 25) hx hb dX7_becomeSafeIfDone_5 (by decide) (fun c1 => ?_) (fun c1 => ?_)
  · have hJ := it_neg c1 hJ
    exact sb_X7_becomeSafeIfDone_25 C hz2 N t0 _ hJ hk0 w hl
  · have hJ := it_pos c1 hJ
    refine lv_aload_n hx hb dX7_becomeSafeIfDone_8 rfl (lv_at hl 0 rfl) ?_
    refine fg_1010 C w hk0 tw_2_34 dX7_becomeSafeIfDone_9 ?_
    refine lv_if_ne (tgt := 25) hx hb dX7_becomeSafeIfDone_12 (by decide) (fun c2 => ?_) (fun c2 => ?_)
    · have hJ := it_neg c2 hJ
      exact sb_X7_becomeSafeIfDone_25 C hz2 N t0 _ hJ hk0 w hl
    · have hJ := it_pos c2 hJ
      refine lv_aload_n hx hb dX7_becomeSafeIfDone_15 rfl (lv_at hl 0 rfl) ?_
      refine lv_iconst (v := (2 : Int32)) hx hb dX7_becomeSafeIfDone_16 (by decide) ?_
      refine fp_1005 (x := (2 : Int32)) C w hk0 tw_2_23 dX7_becomeSafeIfDone_17 (fun H locs w => ?_)
      refine lv_aload_n hx hb dX7_becomeSafeIfDone_20 rfl (lv_at hl 0 rfl) ?_
      refine lv_iconst (v := (0 : Int32)) hx hb dX7_becomeSafeIfDone_21 (by decide) ?_
      refine fp_1008 (x := (0 : Int32)) C w hk0 tw_2_30 dX7_becomeSafeIfDone_22 (fun H locs w => ?_)
      exact sb_X7_becomeSafeIfDone_25 C hz2 N t0 _ hJ hk0 w hl
def J_X7_becomeSafeIfDone (N : Nat) (t0 : Nat) (h : Hp) : Option (Hp × Unit) := B_X7_becomeSafeIfDone_0 N t0 h
theorem mo_X7_becomeSafeIfDone (N : Nat) (t0 : Nat) (h : Hp) (hJ : J_X7_becomeSafeIfDone N t0 h = some (hz, ())) : Mo h hz := mb_X7_becomeSafeIfDone_0 N t0 h hJ
theorem cd_X7_becomeSafeIfDone : Cd yX7_becomeSafeIfDone 0 := ⟨by decide +kernel, by decide +kernel, by decide +kernel⟩
theorem cc_X7_becomeSafeIfDone (N : Nat) (t0 : Nat) (h : Hp) (hk0 : h.kd t0 = 10) (hJ : J_X7_becomeSafeIfDone N t0 h = some (hz, ())) : Cv l yX7_becomeSafeIfDone cX7_becomeSafeIfDone 1 none 0 0 D cs h hz [.ref t0] := by
  intro mc ms g1 g2
  refine je_any (by decide) (by simp [lg_sl, rf_cat, cat_i, cat_l, cat_r]) ?_
  intro p e s m args below meth c C hin2 w ls hl
  have hl : lv_has ls 1 [(0, .ref t0)] := hl
  exact sb_X7_becomeSafeIfDone_0 C ⟨g1, g2⟩ N t0 h hJ hk0 w hl
end G_X7_becomeSafeIfDone
section G_X7_waitFor
variable {p : Program} {l : Launch} {e : Env} {s : State} {m : MethodId} {args : Array Value} {below : List Frame} {meth : Method} {c : Code} {D : va_G} {cs : C4} {A : Nat → Prop} {h0 hz : Hp} {mc ms : Nat}
def B_X7_waitFor_9 (N : Nat) (t0 : Nat) (h : Hp) : Option (Hp × Unit) := some (h, ())
theorem mb_X7_waitFor_9 (N : Nat) (t0 : Nat) (h : Hp) (hJ : B_X7_waitFor_9 N t0 h = some (hz, ())) : Mo h hz := by
  unfold B_X7_waitFor_9 at hJ
  obtain ⟨rfl, -⟩ := rs2 hJ
  exact ⟨fun _ _ => rfl, Nat.le_refl _, Nat.le_refl _, rfl, fun _ _ => rfl⟩
set_option maxRecDepth 100000 in
set_option maxHeartbeats 4000000 in
theorem sb_X7_waitFor_9 (C : Cx p s m args meth c cX7_waitFor 2 none RX7 D cs A h0.se) (hz2 : hz.nx ≤ h0.nx + mc ∧ hz.su ≤ h0.su + ms) (N : Nat) (t0 : Nat) (h : Hp) (hJ : B_X7_waitFor_9 N t0 h = some (hz, ())) (hk0 : h.kd t0 = 10) {H : Heap} {locs : List Loc} {cells slots : Nat} (w : Wo D cs A s h0 h H locs cells slots) {ls : Array Slot} (hl : lv_has ls 2 [(0, .ref t0)]) : W p l e { frames := 1, cells := mc, slots := ms, locals := 20 } s m args below meth c H locs cells slots (MQ below (Zv D cs A hz) args s mc ms A) (F0 m 9 ls []) := by
  obtain ⟨hx, hb, hml, hown, hts, -⟩ := id C
  unfold B_X7_waitFor_9 at hJ
  obtain ⟨rfl, -⟩ := rs2 hJ
  exact jr_vret C w hz2 dX7_waitFor_9
def B_X7_waitFor_0 (N : Nat) (t0 : Nat) (h : Hp) (x1 : Int32) : Option (Hp × Unit) := (J_X7_becomeSafeIfDone N t0 (h.sfi 1010 t0 x1)).bind (fun z => B_X7_waitFor_9 N t0 z.1)
theorem mb_X7_waitFor_0 (N : Nat) (t0 : Nat) (h : Hp) (x1 : Int32) (hJ : B_X7_waitFor_0 N t0 h x1 = some (hz, ())) : Mo h hz := by
  unfold B_X7_waitFor_0 at hJ
  obtain ⟨⟨h1, r2⟩, e3, hJ⟩ := ob_some hJ
  exact (Mo.tr (show Mo h (h.sfi 1010 t0 x1) from ⟨fun _ _ => rfl, Nat.le_refl _, Nat.le_refl _, rfl, fun _ _ => rfl⟩) ((mo_X7_becomeSafeIfDone N t0 (h.sfi 1010 t0 x1) e3).tr (mb_X7_waitFor_9 N t0 _ hJ)))
set_option maxRecDepth 100000 in
set_option maxHeartbeats 4000000 in
theorem sb_X7_waitFor_0 (C : Cx p s m args meth c cX7_waitFor 2 none RX7 D cs A h0.se) (hz2 : hz.nx ≤ h0.nx + mc ∧ hz.su ≤ h0.su + ms) (N : Nat) (t0 : Nat) (h : Hp) (x1 : Int32) (hJ : B_X7_waitFor_0 N t0 h x1 = some (hz, ())) (hk0 : h.kd t0 = 10) {H : Heap} {locs : List Loc} {cells slots : Nat} (w : Wo D cs A s h0 h H locs cells slots) {ls : Array Slot} (hl : lv_has ls 2 [(0, .ref t0), (1, .int x1)]) : W p l e { frames := 1, cells := mc, slots := ms, locals := 20 } s m args below meth c H locs cells slots (MQ below (Zv D cs A hz) args s mc ms A) (F0 m 0 ls []) := by
  obtain ⟨hx, hb, hml, hown, hts, -⟩ := id C
  unfold B_X7_waitFor_0 at hJ
  refine lv_aload_n hx hb dX7_waitFor_0 rfl (lv_at hl 0 rfl) ?_
  refine lv_iload_n hx hb dX7_waitFor_1 rfl (lv_at hl 1 rfl) ?_
  refine fp_1010 (x := x1) C w hk0 tw_2_34 dX7_waitFor_2 (fun H locs w => ?_)
  refine lv_aload_n hx hb dX7_waitFor_5 rfl (lv_at hl 0 rfl) ?_
  obtain ⟨⟨h1, r2⟩, e3, hJ⟩ := ob_some hJ
  refine jc_Vv (As := []) C w (cc_X7_becomeSafeIfDone N t0 (h.sfi 1010 t0 x1) hk0 e3) (mo_X7_becomeSafeIfDone N t0 (h.sfi 1010 t0 x1) e3) (mb_X7_waitFor_9 N t0 _ hJ) hz2 hk0 (by decide) rfl (fs := fs10 (h.sfi 1010 t0 x1) t0) rfl rfl ⟨tw_2_83, tw_2_80, tw_2_81, tw_2_82, tw_1_9⟩ cd_X7_becomeSafeIfDone ⟨by decide, by decide⟩ hl.1 (by first | exact Nat.le_of_ble_eq_true rfl | simp [rf_cat, cat_i, cat_l, cat_r]) rfl dX7_waitFor_6 (fun H locs w1 => ?_)
  have hk4 := kd_keep w (mo_X7_becomeSafeIfDone N t0 (h.sfi 1010 t0 x1) e3) hk0 (by decide)
  have w := w1
  exact sb_X7_waitFor_9 C hz2 N t0 _ hJ hk4 w (lv_sub (l' := [(0, .ref t0)]) hl [0] rfl)
def J_X7_waitFor (N : Nat) (t0 : Nat) (h : Hp) (x1 : Int32) : Option (Hp × Unit) := B_X7_waitFor_0 N t0 h x1
theorem mo_X7_waitFor (N : Nat) (t0 : Nat) (h : Hp) (x1 : Int32) (hJ : J_X7_waitFor N t0 h x1 = some (hz, ())) : Mo h hz := mb_X7_waitFor_0 N t0 h x1 hJ
theorem cd_X7_waitFor : Cd yX7_waitFor 1 := ⟨by decide +kernel, by decide +kernel, by decide +kernel⟩
theorem cc_X7_waitFor (N : Nat) (t0 : Nat) (h : Hp) (x1 : Int32) (hk0 : h.kd t0 = 10) (hJ : J_X7_waitFor N t0 h x1 = some (hz, ())) : Cv l yX7_waitFor cX7_waitFor 2 none 1 20 D cs h hz [.ref t0, .int x1] := by
  intro mc ms g1 g2
  refine je_any (by decide) (by simp [lg_sl, rf_cat, cat_i, cat_l, cat_r]) ?_
  intro p e s m args below meth c C hin2 w ls hl
  have hl : lv_has ls 2 [(0, .ref t0), (1, .int x1)] := hl
  exact sb_X7_waitFor_0 C ⟨g1, g2⟩ N t0 h x1 hJ hk0 w hl
end G_X7_waitFor
section G_X7_runs
variable {p : Program} {l : Launch} {e : Env} {s : State} {m : MethodId} {args : Array Value} {below : List Frame} {meth : Method} {c : Code} {D : va_G} {cs : C4} {A : Nat → Prop} {h0 hz : Hp} {mc ms : Nat} {rz : Int32}
def B_X7_runs_19 (N : Nat) (t0 : Nat) (h : Hp) (y0 : Int32) : Option (Hp × Int32) := some (h, y0)
theorem mb_X7_runs_19 (N : Nat) (t0 : Nat) (h : Hp) (y0 : Int32) (hJ : B_X7_runs_19 N t0 h y0 = some (hz, rz)) : Mo h hz := by
  unfold B_X7_runs_19 at hJ
  obtain ⟨rfl, -⟩ := rs2 hJ
  exact ⟨fun _ _ => rfl, Nat.le_refl _, Nat.le_refl _, rfl, fun _ _ => rfl⟩
set_option maxRecDepth 100000 in
set_option maxHeartbeats 4000000 in
theorem sb_X7_runs_19 (C : Cx p s m args meth c cX7_runs 1 (some .int) RX7 D cs A h0.se) (hz2 : hz.nx ≤ h0.nx + mc ∧ hz.su ≤ h0.su + ms) (N : Nat) (t0 : Nat) (h : Hp) (y0 : Int32) (hJ : B_X7_runs_19 N t0 h y0 = some (hz, rz)) (hk0 : h.kd t0 = 10) {H : Heap} {locs : List Loc} {cells slots : Nat} (w : Wo D cs A s h0 h H locs cells slots) {ls : Array Slot} (hl : lv_has ls 1 [(0, .ref t0)]) : W p l e { frames := 0, cells := mc, slots := ms, locals := 0 } s m args below meth c H locs cells slots (MQ below (Zi D cs A hz rz) args s mc ms A) (F0 m 19 ls [.int y0]) := by
  obtain ⟨hx, hb, hml, hown, hts, -⟩ := id C
  unfold B_X7_runs_19 at hJ
  obtain ⟨rfl, rfl⟩ := rs2 hJ
  exact jr_iret C w hz2 dX7_runs_19
def B_X7_runs_0 (N : Nat) (t0 : Nat) (h : Hp) : Option (Hp × Int32) := if (h.fi 1005 t0) = (2 : Int32) then (B_X7_runs_19 N t0 h (0 : Int32)) else (dr h 9 (h.fr 1003 t0) (fun a2 => B_X7_runs_19 N t0 h (h.fi 902 a2)))
theorem mb_X7_runs_0 (N : Nat) (t0 : Nat) (h : Hp) (hJ : B_X7_runs_0 N t0 h = some (hz, rz)) : Mo h hz := by
  unfold B_X7_runs_0 at hJ
  by_cases c1 : (h.fi 1005 t0) = (2 : Int32)
  · have hJ := it_pos c1 hJ
    exact mb_X7_runs_19 N t0 _ _ hJ
  · have hJ := it_neg c1 hJ
    obtain ⟨a2, ea2, -, hJ⟩ := dr_some hJ
    exact mb_X7_runs_19 N t0 _ _ hJ
set_option maxRecDepth 100000 in
set_option maxHeartbeats 4000000 in
theorem sb_X7_runs_0 (C : Cx p s m args meth c cX7_runs 1 (some .int) RX7 D cs A h0.se) (hz2 : hz.nx ≤ h0.nx + mc ∧ hz.su ≤ h0.su + ms) (N : Nat) (t0 : Nat) (h : Hp) (hJ : B_X7_runs_0 N t0 h = some (hz, rz)) (hk0 : h.kd t0 = 10) {H : Heap} {locs : List Loc} {cells slots : Nat} (w : Wo D cs A s h0 h H locs cells slots) {ls : Array Slot} (hl : lv_has ls 1 [(0, .ref t0)]) : W p l e { frames := 0, cells := mc, slots := ms, locals := 0 } s m args below meth c H locs cells slots (MQ below (Zi D cs A hz rz) args s mc ms A) (F0 m 0 ls []) := by
  obtain ⟨hx, hb, hml, hown, hts, -⟩ := id C
  unfold B_X7_runs_0 at hJ
  refine lv_aload_n hx hb dX7_runs_0 rfl (lv_at hl 0 rfl) ?_
  refine fg_1005 C w hk0 tw_2_23 dX7_runs_1 ?_
  refine lv_iconst (v := (2 : Int32)) hx hb dX7_runs_4 (by decide) ?_
  refine lv_icmp_ne (tgt := 12) hx hb dX7_runs_5 (by decide) (fun c1 => ?_) (fun c1 => ?_)
  · have hJ := it_neg c1 hJ
    refine lv_aload_n hx hb dX7_runs_12 rfl (lv_at hl 0 rfl) ?_
    refine fg_1003 C w hk0 tw_2_17 dX7_runs_13 ?_
    obtain ⟨a2, ea2, hka2, hJ⟩ := dr_some hJ
    rw [ea2]
    refine fg_902 C w hka2 tw_1_239 dX7_runs_16 ?_
    exact sb_X7_runs_19 C hz2 N t0 _ _ hJ hk0 w hl
  · have hJ := it_pos c1 hJ
    refine lv_iconst (v := (0 : Int32)) hx hb dX7_runs_8 (by decide) ?_
    refine lv_goto (tgt := 19) hx hb dX7_runs_9 (by decide) ?_
    exact sb_X7_runs_19 C hz2 N t0 _ _ hJ hk0 w hl
def J_X7_runs (N : Nat) (t0 : Nat) (h : Hp) : Option (Hp × Int32) := B_X7_runs_0 N t0 h
theorem mo_X7_runs (N : Nat) (t0 : Nat) (h : Hp) (hJ : J_X7_runs N t0 h = some (hz, rz)) : Mo h hz := mb_X7_runs_0 N t0 h hJ
theorem cd_X7_runs : Cd yX7_runs 0 := ⟨by decide +kernel, by decide +kernel, by decide +kernel⟩
theorem cc_X7_runs (N : Nat) (t0 : Nat) (h : Hp) (hk0 : h.kd t0 = 10) (hJ : J_X7_runs N t0 h = some (hz, rz)) : Ci l yX7_runs cX7_runs 1 (some .int) 0 0 D cs h hz [.ref t0] rz := by
  intro mc ms g1 g2
  refine je_any (by decide) (by simp [lg_sl, rf_cat, cat_i, cat_l, cat_r]) ?_
  intro p e s m args below meth c C hin2 w ls hl
  have hl : lv_has ls 1 [(0, .ref t0)] := hl
  exact sb_X7_runs_0 C ⟨g1, g2⟩ N t0 h hJ hk0 w hl
end G_X7_runs
section G_X7_mayNotPrecede
variable {p : Program} {l : Launch} {e : Env} {s : State} {m : MethodId} {args : Array Value} {below : List Frame} {meth : Method} {c : Code} {D : va_G} {cs : C4} {A : Nat → Prop} {h0 hz : Hp} {mc ms : Nat} {rz : Int32}
def B_X7_mayNotPrecede_34 (N : Nat) (t0 : Nat) (h : Hp) (y0 : Int32) : Option (Hp × Int32) := ck (y0 = 0 ∨ y0 = 1) (some (h, y0))
theorem mb_X7_mayNotPrecede_34 (N : Nat) (t0 : Nat) (h : Hp) (y0 : Int32) (hJ : B_X7_mayNotPrecede_34 N t0 h y0 = some (hz, rz)) : Mo h hz := by
  unfold B_X7_mayNotPrecede_34 at hJ
  obtain ⟨-, hJ⟩ := ck_some hJ
  obtain ⟨rfl, -⟩ := rs2 hJ
  exact ⟨fun _ _ => rfl, Nat.le_refl _, Nat.le_refl _, rfl, fun _ _ => rfl⟩
set_option maxRecDepth 100000 in
set_option maxHeartbeats 4000000 in
theorem sb_X7_mayNotPrecede_34 (C : Cx p s m args meth c cX7_mayNotPrecede 2 (some .boolean) RX7 D cs A h0.se) (hz2 : hz.nx ≤ h0.nx + mc ∧ hz.su ≤ h0.su + ms) (N : Nat) (t0 : Nat) (h : Hp) (y0 : Int32) (hJ : B_X7_mayNotPrecede_34 N t0 h y0 = some (hz, rz)) (hk0 : h.kd t0 = 10) {H : Heap} {locs : List Loc} {cells slots : Nat} (w : Wo D cs A s h0 h H locs cells slots) {ls : Array Slot} (hl : lv_has ls 2 [(0, .ref t0)]) : W p l e { frames := 0, cells := mc, slots := ms, locals := 0 } s m args below meth c H locs cells slots (MQ below (Zi D cs A hz rz) args s mc ms A) (F0 m 34 ls [.int y0]) := by
  obtain ⟨hx, hb, hml, hown, hts, -⟩ := id C
  unfold B_X7_mayNotPrecede_34 at hJ
  obtain ⟨hzo1, hJ⟩ := ck_some hJ
  obtain ⟨rfl, rfl⟩ := rs2 hJ
  exact jr_zret C w hzo1 hz2 dX7_mayNotPrecede_34
def B_X7_mayNotPrecede_29 (N : Nat) (t0 : Nat) (h : Hp) : Option (Hp × Int32) := B_X7_mayNotPrecede_34 N t0 h (1 : Int32)
theorem mb_X7_mayNotPrecede_29 (N : Nat) (t0 : Nat) (h : Hp) (hJ : B_X7_mayNotPrecede_29 N t0 h = some (hz, rz)) : Mo h hz := by
  unfold B_X7_mayNotPrecede_29 at hJ
  exact mb_X7_mayNotPrecede_34 N t0 _ _ hJ
set_option maxRecDepth 100000 in
set_option maxHeartbeats 4000000 in
theorem sb_X7_mayNotPrecede_29 (C : Cx p s m args meth c cX7_mayNotPrecede 2 (some .boolean) RX7 D cs A h0.se) (hz2 : hz.nx ≤ h0.nx + mc ∧ hz.su ≤ h0.su + ms) (N : Nat) (t0 : Nat) (h : Hp) (hJ : B_X7_mayNotPrecede_29 N t0 h = some (hz, rz)) (hk0 : h.kd t0 = 10) {H : Heap} {locs : List Loc} {cells slots : Nat} (w : Wo D cs A s h0 h H locs cells slots) {ls : Array Slot} (hl : lv_has ls 2 [(0, .ref t0)]) : W p l e { frames := 0, cells := mc, slots := ms, locals := 0 } s m args below meth c H locs cells slots (MQ below (Zi D cs A hz rz) args s mc ms A) (F0 m 29 ls []) := by
  obtain ⟨hx, hb, hml, hown, hts, -⟩ := id C
  unfold B_X7_mayNotPrecede_29 at hJ
  refine lv_iconst (v := (1 : Int32)) hx hb dX7_mayNotPrecede_29 (by decide) ?_
  refine lv_goto (tgt := 34) hx hb dX7_mayNotPrecede_30 (by decide) ?_
  exact sb_X7_mayNotPrecede_34 C hz2 N t0 _ _ hJ hk0 w hl
def B_X7_mayNotPrecede_48 (N : Nat) (t0 : Nat) (h : Hp) (y0 : Int32) : Option (Hp × Int32) := ck (y0 = 0 ∨ y0 = 1) (some (h, y0))
theorem mb_X7_mayNotPrecede_48 (N : Nat) (t0 : Nat) (h : Hp) (y0 : Int32) (hJ : B_X7_mayNotPrecede_48 N t0 h y0 = some (hz, rz)) : Mo h hz := by
  unfold B_X7_mayNotPrecede_48 at hJ
  obtain ⟨-, hJ⟩ := ck_some hJ
  obtain ⟨rfl, -⟩ := rs2 hJ
  exact ⟨fun _ _ => rfl, Nat.le_refl _, Nat.le_refl _, rfl, fun _ _ => rfl⟩
set_option maxRecDepth 100000 in
set_option maxHeartbeats 4000000 in
theorem sb_X7_mayNotPrecede_48 (C : Cx p s m args meth c cX7_mayNotPrecede 2 (some .boolean) RX7 D cs A h0.se) (hz2 : hz.nx ≤ h0.nx + mc ∧ hz.su ≤ h0.su + ms) (N : Nat) (t0 : Nat) (h : Hp) (y0 : Int32) (hJ : B_X7_mayNotPrecede_48 N t0 h y0 = some (hz, rz)) (hk0 : h.kd t0 = 10) {H : Heap} {locs : List Loc} {cells slots : Nat} (w : Wo D cs A s h0 h H locs cells slots) {ls : Array Slot} (hl : lv_has ls 2 [(0, .ref t0)]) : W p l e { frames := 0, cells := mc, slots := ms, locals := 0 } s m args below meth c H locs cells slots (MQ below (Zi D cs A hz rz) args s mc ms A) (F0 m 48 ls [.int y0]) := by
  obtain ⟨hx, hb, hml, hown, hts, -⟩ := id C
  unfold B_X7_mayNotPrecede_48 at hJ
  obtain ⟨hzo2, hJ⟩ := ck_some hJ
  obtain ⟨rfl, rfl⟩ := rs2 hJ
  exact jr_zret C w hzo2 hz2 dX7_mayNotPrecede_48
def B_X7_mayNotPrecede_0 (N : Nat) (t0 : Nat) (h : Hp) (x1 : Int32) : Option (Hp × Int32) := if x1 = 0 then (some (h, (0 : Int32))) else (if (h.fi 1005 t0) = 0 then (if (h.fi 1006 t0) = (1 : Int32) then (B_X7_mayNotPrecede_29 N t0 h) else (if (h.fi 1007 t0) < x1 then (B_X7_mayNotPrecede_34 N t0 h (0 : Int32)) else (B_X7_mayNotPrecede_29 N t0 h))) else (if (h.fi 1001 t0) < x1 then (B_X7_mayNotPrecede_48 N t0 h (0 : Int32)) else (B_X7_mayNotPrecede_48 N t0 h (1 : Int32))))
theorem mb_X7_mayNotPrecede_0 (N : Nat) (t0 : Nat) (h : Hp) (x1 : Int32) (hJ : B_X7_mayNotPrecede_0 N t0 h x1 = some (hz, rz)) : Mo h hz := by
  unfold B_X7_mayNotPrecede_0 at hJ
  by_cases c3 : x1 = 0
  · have hJ := it_pos c3 hJ
    obtain ⟨rfl, -⟩ := rs2 hJ
    exact ⟨fun _ _ => rfl, Nat.le_refl _, Nat.le_refl _, rfl, fun _ _ => rfl⟩
  · have hJ := it_neg c3 hJ
    by_cases c4 : (h.fi 1005 t0) = 0
    · have hJ := it_pos c4 hJ
      by_cases c6 : (h.fi 1006 t0) = (1 : Int32)
      · have hJ := it_pos c6 hJ
        exact mb_X7_mayNotPrecede_29 N t0 _ hJ
      · have hJ := it_neg c6 hJ
        by_cases c7 : (h.fi 1007 t0) < x1
        · have hJ := it_pos c7 hJ
          exact mb_X7_mayNotPrecede_34 N t0 _ _ hJ
        · have hJ := it_neg c7 hJ
          exact mb_X7_mayNotPrecede_29 N t0 _ hJ
    · have hJ := it_neg c4 hJ
      by_cases c5 : (h.fi 1001 t0) < x1
      · have hJ := it_pos c5 hJ
        exact mb_X7_mayNotPrecede_48 N t0 _ _ hJ
      · have hJ := it_neg c5 hJ
        exact mb_X7_mayNotPrecede_48 N t0 _ _ hJ
set_option maxRecDepth 100000 in
set_option maxHeartbeats 4000000 in
theorem sb_X7_mayNotPrecede_0 (C : Cx p s m args meth c cX7_mayNotPrecede 2 (some .boolean) RX7 D cs A h0.se) (hz2 : hz.nx ≤ h0.nx + mc ∧ hz.su ≤ h0.su + ms) (N : Nat) (t0 : Nat) (h : Hp) (x1 : Int32) (hJ : B_X7_mayNotPrecede_0 N t0 h x1 = some (hz, rz)) (hk0 : h.kd t0 = 10) {H : Heap} {locs : List Loc} {cells slots : Nat} (w : Wo D cs A s h0 h H locs cells slots) {ls : Array Slot} (hl : lv_has ls 2 [(0, .ref t0), (1, .int x1)]) : W p l e { frames := 0, cells := mc, slots := ms, locals := 0 } s m args below meth c H locs cells slots (MQ below (Zi D cs A hz rz) args s mc ms A) (F0 m 0 ls []) := by
  obtain ⟨hx, hb, hml, hown, hts, -⟩ := id C
  unfold B_X7_mayNotPrecede_0 at hJ
  refine lv_iload_n hx hb dX7_mayNotPrecede_0 rfl (lv_at hl 1 rfl) ?_
  refine lv_if_ne (tgt := 6) hx hb dX7_mayNotPrecede_1 (by decide) (fun c3 => ?_) (fun c3 => ?_)
  · have hJ := it_neg c3 hJ
    refine lv_aload_n hx hb dX7_mayNotPrecede_6 rfl (lv_at hl 0 rfl) ?_
    refine fg_1005 C w hk0 tw_2_23 dX7_mayNotPrecede_7 ?_
    refine lv_if_ne (tgt := 35) hx hb dX7_mayNotPrecede_10 (by decide) (fun c4 => ?_) (fun c4 => ?_)
    · have hJ := it_neg c4 hJ
      refine lv_iload_n hx hb dX7_mayNotPrecede_35 rfl (lv_at hl 1 rfl) ?_
      refine lv_aload_n hx hb dX7_mayNotPrecede_36 rfl (lv_at hl 0 rfl) ?_
      refine fg_1001 C w hk0 tw_2_12 dX7_mayNotPrecede_37 ?_
      refine lv_icmp_gt (tgt := 47) hx hb dX7_mayNotPrecede_40 (by decide) (fun c5 => ?_) (fun c5 => ?_)
      · have hJ := it_pos c5 hJ
        refine lv_iconst (v := (0 : Int32)) hx hb dX7_mayNotPrecede_47 (by decide) ?_
        exact sb_X7_mayNotPrecede_48 C hz2 N t0 _ _ hJ hk0 w (lv_sub (l' := [(0, .ref t0)]) hl [0] rfl)
      · have hJ := it_neg c5 hJ
        refine lv_iconst (v := (1 : Int32)) hx hb dX7_mayNotPrecede_43 (by decide) ?_
        refine lv_goto (tgt := 48) hx hb dX7_mayNotPrecede_44 (by decide) ?_
        exact sb_X7_mayNotPrecede_48 C hz2 N t0 _ _ hJ hk0 w (lv_sub (l' := [(0, .ref t0)]) hl [0] rfl)
    · have hJ := it_pos c4 hJ
      refine lv_aload_n hx hb dX7_mayNotPrecede_13 rfl (lv_at hl 0 rfl) ?_
      refine fg_1006 C w hk0 tw_2_25 dX7_mayNotPrecede_14 ?_
      refine lv_iconst (v := (1 : Int32)) hx hb dX7_mayNotPrecede_17 (by decide) ?_
      refine lv_icmp_eq (tgt := 29) hx hb dX7_mayNotPrecede_18 (by decide) (fun c6 => ?_) (fun c6 => ?_)
      · have hJ := it_pos c6 hJ
        exact sb_X7_mayNotPrecede_29 C hz2 N t0 _ hJ hk0 w (lv_sub (l' := [(0, .ref t0)]) hl [0] rfl)
      · have hJ := it_neg c6 hJ
        refine lv_iload_n hx hb dX7_mayNotPrecede_21 rfl (lv_at hl 1 rfl) ?_
        refine lv_aload_n hx hb dX7_mayNotPrecede_22 rfl (lv_at hl 0 rfl) ?_
        refine fg_1007 C w hk0 tw_2_27 dX7_mayNotPrecede_23 ?_
        refine lv_icmp_gt (tgt := 33) hx hb dX7_mayNotPrecede_26 (by decide) (fun c7 => ?_) (fun c7 => ?_)
        · have hJ := it_pos c7 hJ
          refine lv_iconst (v := (0 : Int32)) hx hb dX7_mayNotPrecede_33 (by decide) ?_
          exact sb_X7_mayNotPrecede_34 C hz2 N t0 _ _ hJ hk0 w (lv_sub (l' := [(0, .ref t0)]) hl [0] rfl)
        · have hJ := it_neg c7 hJ
          exact sb_X7_mayNotPrecede_29 C hz2 N t0 _ hJ hk0 w (lv_sub (l' := [(0, .ref t0)]) hl [0] rfl)
  · have hJ := it_pos c3 hJ
    refine lv_iconst (v := (0 : Int32)) hx hb dX7_mayNotPrecede_4 (by decide) ?_
    obtain ⟨rfl, rfl⟩ := rs2 hJ
    exact jr_zret C w (Or.inl rfl) hz2 dX7_mayNotPrecede_5
def J_X7_mayNotPrecede (N : Nat) (t0 : Nat) (h : Hp) (x1 : Int32) : Option (Hp × Int32) := B_X7_mayNotPrecede_0 N t0 h x1
theorem mo_X7_mayNotPrecede (N : Nat) (t0 : Nat) (h : Hp) (x1 : Int32) (hJ : J_X7_mayNotPrecede N t0 h x1 = some (hz, rz)) : Mo h hz := mb_X7_mayNotPrecede_0 N t0 h x1 hJ
theorem cd_X7_mayNotPrecede : Cd yX7_mayNotPrecede 1 := ⟨by decide +kernel, by decide +kernel, by decide +kernel⟩
theorem cc_X7_mayNotPrecede (N : Nat) (t0 : Nat) (h : Hp) (x1 : Int32) (hk0 : h.kd t0 = 10) (hJ : J_X7_mayNotPrecede N t0 h x1 = some (hz, rz)) : Ci l yX7_mayNotPrecede cX7_mayNotPrecede 2 (some .boolean) 0 0 D cs h hz [.ref t0, .int x1] rz := by
  intro mc ms g1 g2
  refine je_any (by decide) (by simp [lg_sl, rf_cat, cat_i, cat_l, cat_r]) ?_
  intro p e s m args below meth c C hin2 w ls hl
  have hl : lv_has ls 2 [(0, .ref t0), (1, .int x1)] := hl
  exact sb_X7_mayNotPrecede_0 C ⟨g1, g2⟩ N t0 h x1 hJ hk0 w hl
end G_X7_mayNotPrecede
section G_X7_heedEndOf
variable {p : Program} {l : Launch} {e : Env} {s : State} {m : MethodId} {args : Array Value} {below : List Frame} {meth : Method} {c : Code} {D : va_G} {cs : C4} {A : Nat → Prop} {h0 hz : Hp} {mc ms : Nat}
def B_X7_heedEndOf_18 (N : Nat) (t0 : Nat) (h : Hp) : Option (Hp × Unit) := some (h, ())
theorem mb_X7_heedEndOf_18 (N : Nat) (t0 : Nat) (h : Hp) (hJ : B_X7_heedEndOf_18 N t0 h = some (hz, ())) : Mo h hz := by
  unfold B_X7_heedEndOf_18 at hJ
  obtain ⟨rfl, -⟩ := rs2 hJ
  exact ⟨fun _ _ => rfl, Nat.le_refl _, Nat.le_refl _, rfl, fun _ _ => rfl⟩
set_option maxRecDepth 100000 in
set_option maxHeartbeats 4000000 in
theorem sb_X7_heedEndOf_18 (C : Cx p s m args meth c cX7_heedEndOf 2 none RX7 D cs A h0.se) (hz2 : hz.nx ≤ h0.nx + mc ∧ hz.su ≤ h0.su + ms) (N : Nat) (t0 : Nat) (h : Hp) (hJ : B_X7_heedEndOf_18 N t0 h = some (hz, ())) (hk0 : h.kd t0 = 10) {H : Heap} {locs : List Loc} {cells slots : Nat} (w : Wo D cs A s h0 h H locs cells slots) {ls : Array Slot} (hl : lv_has ls 2 [(0, .ref t0)]) : W p l e { frames := 1, cells := mc, slots := ms, locals := 20 } s m args below meth c H locs cells slots (MQ below (Zv D cs A hz) args s mc ms A) (F0 m 18 ls []) := by
  obtain ⟨hx, hb, hml, hown, hts, -⟩ := id C
  unfold B_X7_heedEndOf_18 at hJ
  obtain ⟨rfl, -⟩ := rs2 hJ
  exact jr_vret C w hz2 dX7_heedEndOf_18
def B_X7_heedEndOf_72 (N : Nat) (t0 : Nat) (h : Hp) : Option (Hp × Unit) := some (h, ())
theorem mb_X7_heedEndOf_72 (N : Nat) (t0 : Nat) (h : Hp) (hJ : B_X7_heedEndOf_72 N t0 h = some (hz, ())) : Mo h hz := by
  unfold B_X7_heedEndOf_72 at hJ
  obtain ⟨rfl, -⟩ := rs2 hJ
  exact ⟨fun _ _ => rfl, Nat.le_refl _, Nat.le_refl _, rfl, fun _ _ => rfl⟩
set_option maxRecDepth 100000 in
set_option maxHeartbeats 4000000 in
theorem sb_X7_heedEndOf_72 (C : Cx p s m args meth c cX7_heedEndOf 2 none RX7 D cs A h0.se) (hz2 : hz.nx ≤ h0.nx + mc ∧ hz.su ≤ h0.su + ms) (N : Nat) (t0 : Nat) (h : Hp) (hJ : B_X7_heedEndOf_72 N t0 h = some (hz, ())) (hk0 : h.kd t0 = 10) {H : Heap} {locs : List Loc} {cells slots : Nat} (w : Wo D cs A s h0 h H locs cells slots) {ls : Array Slot} (hl : lv_has ls 2 [(0, .ref t0)]) : W p l e { frames := 1, cells := mc, slots := ms, locals := 20 } s m args below meth c H locs cells slots (MQ below (Zv D cs A hz) args s mc ms A) (F0 m 72 ls []) := by
  obtain ⟨hx, hb, hml, hown, hts, -⟩ := id C
  unfold B_X7_heedEndOf_72 at hJ
  obtain ⟨rfl, -⟩ := rs2 hJ
  exact jr_vret C w hz2 dX7_heedEndOf_72
def B_X7_heedEndOf_68 (N : Nat) (t0 : Nat) (h : Hp) : Option (Hp × Unit) := (J_X7_becomeSafeIfDone N t0 h).bind (fun z => B_X7_heedEndOf_72 N t0 z.1)
theorem mb_X7_heedEndOf_68 (N : Nat) (t0 : Nat) (h : Hp) (hJ : B_X7_heedEndOf_68 N t0 h = some (hz, ())) : Mo h hz := by
  unfold B_X7_heedEndOf_68 at hJ
  obtain ⟨⟨h1, r2⟩, e3, hJ⟩ := ob_some hJ
  exact (mo_X7_becomeSafeIfDone N t0 h e3).tr (mb_X7_heedEndOf_72 N t0 _ hJ)
set_option maxRecDepth 100000 in
set_option maxHeartbeats 4000000 in
theorem sb_X7_heedEndOf_68 (C : Cx p s m args meth c cX7_heedEndOf 2 none RX7 D cs A h0.se) (hz2 : hz.nx ≤ h0.nx + mc ∧ hz.su ≤ h0.su + ms) (N : Nat) (t0 : Nat) (h : Hp) (hJ : B_X7_heedEndOf_68 N t0 h = some (hz, ())) (hk0 : h.kd t0 = 10) {H : Heap} {locs : List Loc} {cells slots : Nat} (w : Wo D cs A s h0 h H locs cells slots) {ls : Array Slot} (hl : lv_has ls 2 [(0, .ref t0)]) : W p l e { frames := 1, cells := mc, slots := ms, locals := 20 } s m args below meth c H locs cells slots (MQ below (Zv D cs A hz) args s mc ms A) (F0 m 68 ls []) := by
  obtain ⟨hx, hb, hml, hown, hts, -⟩ := id C
  unfold B_X7_heedEndOf_68 at hJ
  refine lv_aload_n hx hb dX7_heedEndOf_68 rfl (lv_at hl 0 rfl) ?_
  obtain ⟨⟨h1, r2⟩, e3, hJ⟩ := ob_some hJ
  refine jc_Vv (As := []) C w (cc_X7_becomeSafeIfDone N t0 h hk0 e3) (mo_X7_becomeSafeIfDone N t0 h e3) (mb_X7_heedEndOf_72 N t0 _ hJ) hz2 hk0 (by decide) rfl (fs := fs10 h t0) rfl rfl ⟨tw_2_83, tw_2_80, tw_2_81, tw_2_82, tw_1_9⟩ cd_X7_becomeSafeIfDone ⟨by decide, by decide⟩ hl.1 (by first | exact Nat.le_of_ble_eq_true rfl | simp [rf_cat, cat_i, cat_l, cat_r]) rfl dX7_heedEndOf_69 (fun H locs w1 => ?_)
  have hk4 := kd_keep w (mo_X7_becomeSafeIfDone N t0 h e3) hk0 (by decide)
  have w := w1
  exact sb_X7_heedEndOf_72 C hz2 N t0 _ hJ hk4 w hl
def B_X7_heedEndOf_0 (N : Nat) (t0 : Nat) (h : Hp) (x1 : Option Nat) : Option (Hp × Unit) := if (h.fi 1005 t0) = 0 then (B_X7_heedEndOf_18 N t0 h) else (dr h 10 x1 (fun a6 => if (h.fi 1000 a6) ≤ (h.fi 1000 t0) then (if ((h.sfi 1010 t0 ((h.fi 1010 t0) - (1 : Int32))).fi 1005 t0) = (1 : Int32) then (if ((h.sfi 1010 t0 ((h.fi 1010 t0) - (1 : Int32))).fi 1006 a6) = (2 : Int32) then (if ((h.sfi 1010 t0 ((h.fi 1010 t0) - (1 : Int32))).fi 1008 a6) = 0 then (B_X7_heedEndOf_68 N t0 (h.sfi 1010 t0 ((h.fi 1010 t0) - (1 : Int32)))) else (if ((h.sfi 1010 t0 ((h.fi 1010 t0) - (1 : Int32))).fi 1001 t0) < ((h.sfi 1010 t0 ((h.fi 1010 t0) - (1 : Int32))).fi 1008 a6) then (B_X7_heedEndOf_68 N t0 (h.sfi 1010 t0 ((h.fi 1010 t0) - (1 : Int32)))) else (B_X7_heedEndOf_68 N t0 ((h.sfi 1010 t0 ((h.fi 1010 t0) - (1 : Int32))).sfi 1005 t0 (3 : Int32))))) else (B_X7_heedEndOf_68 N t0 (h.sfi 1010 t0 ((h.fi 1010 t0) - (1 : Int32))))) else (B_X7_heedEndOf_68 N t0 (h.sfi 1010 t0 ((h.fi 1010 t0) - (1 : Int32))))) else (B_X7_heedEndOf_18 N t0 h)))
theorem mb_X7_heedEndOf_0 (N : Nat) (t0 : Nat) (h : Hp) (x1 : Option Nat) (hJ : B_X7_heedEndOf_0 N t0 h x1 = some (hz, ())) : Mo h hz := by
  unfold B_X7_heedEndOf_0 at hJ
  by_cases c5 : (h.fi 1005 t0) = 0
  · have hJ := it_pos c5 hJ
    exact mb_X7_heedEndOf_18 N t0 _ hJ
  · have hJ := it_neg c5 hJ
    obtain ⟨a6, ea6, -, hJ⟩ := dr_some hJ
    by_cases c7 : (h.fi 1000 a6) ≤ (h.fi 1000 t0)
    · have hJ := it_pos c7 hJ
      by_cases c8 : ((h.sfi 1010 t0 ((h.fi 1010 t0) - (1 : Int32))).fi 1005 t0) = (1 : Int32)
      · have hJ := it_pos c8 hJ
        by_cases c9 : ((h.sfi 1010 t0 ((h.fi 1010 t0) - (1 : Int32))).fi 1006 a6) = (2 : Int32)
        · have hJ := it_pos c9 hJ
          by_cases c10 : ((h.sfi 1010 t0 ((h.fi 1010 t0) - (1 : Int32))).fi 1008 a6) = 0
          · have hJ := it_pos c10 hJ
            exact (Mo.tr (show Mo h (h.sfi 1010 t0 ((h.fi 1010 t0) - (1 : Int32))) from ⟨fun _ _ => rfl, Nat.le_refl _, Nat.le_refl _, rfl, fun _ _ => rfl⟩) (mb_X7_heedEndOf_68 N t0 _ hJ))
          · have hJ := it_neg c10 hJ
            by_cases c11 : ((h.sfi 1010 t0 ((h.fi 1010 t0) - (1 : Int32))).fi 1001 t0) < ((h.sfi 1010 t0 ((h.fi 1010 t0) - (1 : Int32))).fi 1008 a6)
            · have hJ := it_pos c11 hJ
              exact (Mo.tr (show Mo h (h.sfi 1010 t0 ((h.fi 1010 t0) - (1 : Int32))) from ⟨fun _ _ => rfl, Nat.le_refl _, Nat.le_refl _, rfl, fun _ _ => rfl⟩) (mb_X7_heedEndOf_68 N t0 _ hJ))
            · have hJ := it_neg c11 hJ
              exact (Mo.tr (show Mo h ((h.sfi 1010 t0 ((h.fi 1010 t0) - (1 : Int32))).sfi 1005 t0 (3 : Int32)) from ⟨fun _ _ => rfl, Nat.le_refl _, Nat.le_refl _, rfl, fun _ _ => rfl⟩) (mb_X7_heedEndOf_68 N t0 _ hJ))
        · have hJ := it_neg c9 hJ
          exact (Mo.tr (show Mo h (h.sfi 1010 t0 ((h.fi 1010 t0) - (1 : Int32))) from ⟨fun _ _ => rfl, Nat.le_refl _, Nat.le_refl _, rfl, fun _ _ => rfl⟩) (mb_X7_heedEndOf_68 N t0 _ hJ))
      · have hJ := it_neg c8 hJ
        exact (Mo.tr (show Mo h (h.sfi 1010 t0 ((h.fi 1010 t0) - (1 : Int32))) from ⟨fun _ _ => rfl, Nat.le_refl _, Nat.le_refl _, rfl, fun _ _ => rfl⟩) (mb_X7_heedEndOf_68 N t0 _ hJ))
    · have hJ := it_neg c7 hJ
      exact mb_X7_heedEndOf_18 N t0 _ hJ
set_option maxRecDepth 100000 in
set_option maxHeartbeats 4000000 in
theorem sb_X7_heedEndOf_0 (C : Cx p s m args meth c cX7_heedEndOf 2 none RX7 D cs A h0.se) (hz2 : hz.nx ≤ h0.nx + mc ∧ hz.su ≤ h0.su + ms) (N : Nat) (t0 : Nat) (h : Hp) (x1 : Option Nat) (hJ : B_X7_heedEndOf_0 N t0 h x1 = some (hz, ())) (hk0 : h.kd t0 = 10) {H : Heap} {locs : List Loc} {cells slots : Nat} (w : Wo D cs A s h0 h H locs cells slots) {ls : Array Slot} (hl : lv_has ls 2 [(0, .ref t0), (1, va_rf x1)]) : W p l e { frames := 1, cells := mc, slots := ms, locals := 20 } s m args below meth c H locs cells slots (MQ below (Zv D cs A hz) args s mc ms A) (F0 m 0 ls []) := by
  obtain ⟨hx, hb, hml, hown, hts, -⟩ := id C
  unfold B_X7_heedEndOf_0 at hJ
  refine lv_aload_n hx hb dX7_heedEndOf_0 rfl (lv_at hl 0 rfl) ?_
  refine fg_1005 C w hk0 tw_2_23 dX7_heedEndOf_1 ?_
  refine lv_if_eq (tgt := 18) hx hb dX7_heedEndOf_4 (by decide) (fun c5 => ?_) (fun c5 => ?_)
  · have hJ := it_pos c5 hJ
    exact sb_X7_heedEndOf_18 C hz2 N t0 _ hJ hk0 w (lv_sub (l' := [(0, .ref t0)]) hl [0] rfl)
  · have hJ := it_neg c5 hJ
    refine jv_aload_n hx hb dX7_heedEndOf_7 rfl (lv_at hl 1 rfl) ?_
    obtain ⟨a6, ea6, hka6, hJ⟩ := dr_some hJ
    rw [ea6] at hl
    rw [ea6]
    refine fg_1000 C w hka6 tw_2_9 dX7_heedEndOf_8 ?_
    refine lv_aload_n hx hb dX7_heedEndOf_11 rfl (lv_at hl 0 rfl) ?_
    refine fg_1000 C w hk0 tw_2_9 dX7_heedEndOf_12 ?_
    refine lv_icmp_le (tgt := 19) hx hb dX7_heedEndOf_15 (by decide) (fun c7 => ?_) (fun c7 => ?_)
    · have hJ := it_pos c7 hJ
      refine lv_aload_n hx hb dX7_heedEndOf_19 rfl (lv_at hl 0 rfl) ?_
      refine lv_dup hx hb dX7_heedEndOf_20 rfl ?_
      refine fg_1010 C w hk0 tw_2_34 dX7_heedEndOf_21 ?_
      refine lv_iconst (v := (1 : Int32)) hx hb dX7_heedEndOf_24 (by decide) ?_
      refine lv_isub hx hb dX7_heedEndOf_25 ?_
      refine fp_1010 (x := (h.fi 1010 t0) - (1 : Int32)) C w hk0 tw_2_34 dX7_heedEndOf_26 (fun H locs w => ?_)
      refine lv_aload_n hx hb dX7_heedEndOf_29 rfl (lv_at hl 0 rfl) ?_
      refine fg_1005 C w hk0 tw_2_23 dX7_heedEndOf_30 ?_
      refine lv_iconst (v := (1 : Int32)) hx hb dX7_heedEndOf_33 (by decide) ?_
      refine lv_icmp_ne (tgt := 68) hx hb dX7_heedEndOf_34 (by decide) (fun c8 => ?_) (fun c8 => ?_)
      · have hJ := it_neg c8 hJ
        exact sb_X7_heedEndOf_68 C hz2 N t0 _ hJ hk0 w (lv_sub (l' := [(0, .ref t0)]) hl [0] rfl)
      · have hJ := it_pos c8 hJ
        refine lv_aload_n hx hb dX7_heedEndOf_37 rfl (lv_at hl 1 rfl) ?_
        refine fg_1006 C w hka6 tw_2_25 dX7_heedEndOf_38 ?_
        refine lv_iconst (v := (2 : Int32)) hx hb dX7_heedEndOf_41 (by decide) ?_
        refine lv_icmp_ne (tgt := 68) hx hb dX7_heedEndOf_42 (by decide) (fun c9 => ?_) (fun c9 => ?_)
        · have hJ := it_neg c9 hJ
          exact sb_X7_heedEndOf_68 C hz2 N t0 _ hJ hk0 w (lv_sub (l' := [(0, .ref t0)]) hl [0] rfl)
        · have hJ := it_pos c9 hJ
          refine lv_aload_n hx hb dX7_heedEndOf_45 rfl (lv_at hl 1 rfl) ?_
          refine fg_1008 C w hka6 tw_2_30 dX7_heedEndOf_46 ?_
          refine lv_if_eq (tgt := 68) hx hb dX7_heedEndOf_49 (by decide) (fun c10 => ?_) (fun c10 => ?_)
          · have hJ := it_pos c10 hJ
            exact sb_X7_heedEndOf_68 C hz2 N t0 _ hJ hk0 w (lv_sub (l' := [(0, .ref t0)]) hl [0] rfl)
          · have hJ := it_neg c10 hJ
            refine lv_aload_n hx hb dX7_heedEndOf_52 rfl (lv_at hl 1 rfl) ?_
            refine fg_1008 C w hka6 tw_2_30 dX7_heedEndOf_53 ?_
            refine lv_aload_n hx hb dX7_heedEndOf_56 rfl (lv_at hl 0 rfl) ?_
            refine fg_1001 C w hk0 tw_2_12 dX7_heedEndOf_57 ?_
            refine lv_icmp_gt (tgt := 68) hx hb dX7_heedEndOf_60 (by decide) (fun c11 => ?_) (fun c11 => ?_)
            · have hJ := it_pos c11 hJ
              exact sb_X7_heedEndOf_68 C hz2 N t0 _ hJ hk0 w (lv_sub (l' := [(0, .ref t0)]) hl [0] rfl)
            · have hJ := it_neg c11 hJ
              refine lv_aload_n hx hb dX7_heedEndOf_63 rfl (lv_at hl 0 rfl) ?_
              refine lv_iconst (v := (3 : Int32)) hx hb dX7_heedEndOf_64 (by decide) ?_
              refine fp_1005 (x := (3 : Int32)) C w hk0 tw_2_23 dX7_heedEndOf_65 (fun H locs w => ?_)
              exact sb_X7_heedEndOf_68 C hz2 N t0 _ hJ hk0 w (lv_sub (l' := [(0, .ref t0)]) hl [0] rfl)
    · have hJ := it_neg c7 hJ
      exact sb_X7_heedEndOf_18 C hz2 N t0 _ hJ hk0 w (lv_sub (l' := [(0, .ref t0)]) hl [0] rfl)
def J_X7_heedEndOf (N : Nat) (t0 : Nat) (h : Hp) (x1 : Option Nat) : Option (Hp × Unit) := B_X7_heedEndOf_0 N t0 h x1
theorem mo_X7_heedEndOf (N : Nat) (t0 : Nat) (h : Hp) (x1 : Option Nat) (hJ : J_X7_heedEndOf N t0 h x1 = some (hz, ())) : Mo h hz := mb_X7_heedEndOf_0 N t0 h x1 hJ
theorem cd_X7_heedEndOf : Cd yX7_heedEndOf 1 := ⟨by decide +kernel, by decide +kernel, by decide +kernel⟩
theorem cc_X7_heedEndOf (N : Nat) (t0 : Nat) (h : Hp) (x1 : Option Nat) (hk0 : h.kd t0 = 10) (hJ : J_X7_heedEndOf N t0 h x1 = some (hz, ())) : Cv l yX7_heedEndOf cX7_heedEndOf 2 none 1 20 D cs h hz [.ref t0, va_rf x1] := by
  intro mc ms g1 g2
  refine je_any (by decide) (by simp [lg_sl, rf_cat, cat_i, cat_l, cat_r]) ?_
  intro p e s m args below meth c C hin2 w ls hl
  have hl : lv_has ls 2 [(0, .ref t0), (1, va_rf x1)] := by simpa [lv_args, rf_cat, cat_i, cat_l, cat_r] using hl
  exact sb_X7_heedEndOf_0 C ⟨g1, g2⟩ N t0 h x1 hJ hk0 w hl
end G_X7_heedEndOf
section G_X7_noteOut
variable {p : Program} {l : Launch} {e : Env} {s : State} {m : MethodId} {args : Array Value} {below : List Frame} {meth : Method} {c : Code} {D : va_G} {cs : C4} {A : Nat → Prop} {h0 hz : Hp} {mc ms : Nat}
def B_X7_noteOut_20 (N : Nat) (t0 : Nat) (h : Hp) : Option (Hp × Unit) := some (h, ())
theorem mb_X7_noteOut_20 (N : Nat) (t0 : Nat) (h : Hp) (hJ : B_X7_noteOut_20 N t0 h = some (hz, ())) : Mo h hz := by
  unfold B_X7_noteOut_20 at hJ
  obtain ⟨rfl, -⟩ := rs2 hJ
  exact ⟨fun _ _ => rfl, Nat.le_refl _, Nat.le_refl _, rfl, fun _ _ => rfl⟩
set_option maxRecDepth 100000 in
set_option maxHeartbeats 4000000 in
theorem sb_X7_noteOut_20 (C : Cx p s m args meth c cX7_noteOut 2 none RX7 D cs A h0.se) (hz2 : hz.nx ≤ h0.nx + mc ∧ hz.su ≤ h0.su + ms) (N : Nat) (t0 : Nat) (h : Hp) (hJ : B_X7_noteOut_20 N t0 h = some (hz, ())) (hk0 : h.kd t0 = 10) {H : Heap} {locs : List Loc} {cells slots : Nat} (w : Wo D cs A s h0 h H locs cells slots) {ls : Array Slot} (hl : lv_has ls 2 [(0, .ref t0)]) : W p l e { frames := 0, cells := mc, slots := ms, locals := 0 } s m args below meth c H locs cells slots (MQ below (Zv D cs A hz) args s mc ms A) (F0 m 20 ls []) := by
  obtain ⟨hx, hb, hml, hown, hts, -⟩ := id C
  unfold B_X7_noteOut_20 at hJ
  obtain ⟨rfl, -⟩ := rs2 hJ
  exact jr_vret C w hz2 dX7_noteOut_20
def B_X7_noteOut_15 (N : Nat) (t0 : Nat) (h : Hp) (x1 : Int32) : Option (Hp × Unit) := B_X7_noteOut_20 N t0 (h.sfi 1008 t0 x1)
theorem mb_X7_noteOut_15 (N : Nat) (t0 : Nat) (h : Hp) (x1 : Int32) (hJ : B_X7_noteOut_15 N t0 h x1 = some (hz, ())) : Mo h hz := by
  unfold B_X7_noteOut_15 at hJ
  exact (Mo.tr (show Mo h (h.sfi 1008 t0 x1) from ⟨fun _ _ => rfl, Nat.le_refl _, Nat.le_refl _, rfl, fun _ _ => rfl⟩) (mb_X7_noteOut_20 N t0 _ hJ))
set_option maxRecDepth 100000 in
set_option maxHeartbeats 4000000 in
theorem sb_X7_noteOut_15 (C : Cx p s m args meth c cX7_noteOut 2 none RX7 D cs A h0.se) (hz2 : hz.nx ≤ h0.nx + mc ∧ hz.su ≤ h0.su + ms) (N : Nat) (t0 : Nat) (h : Hp) (x1 : Int32) (hJ : B_X7_noteOut_15 N t0 h x1 = some (hz, ())) (hk0 : h.kd t0 = 10) {H : Heap} {locs : List Loc} {cells slots : Nat} (w : Wo D cs A s h0 h H locs cells slots) {ls : Array Slot} (hl : lv_has ls 2 [(0, .ref t0), (1, .int x1)]) : W p l e { frames := 0, cells := mc, slots := ms, locals := 0 } s m args below meth c H locs cells slots (MQ below (Zv D cs A hz) args s mc ms A) (F0 m 15 ls []) := by
  obtain ⟨hx, hb, hml, hown, hts, -⟩ := id C
  unfold B_X7_noteOut_15 at hJ
  refine lv_aload_n hx hb dX7_noteOut_15 rfl (lv_at hl 0 rfl) ?_
  refine lv_iload_n hx hb dX7_noteOut_16 rfl (lv_at hl 1 rfl) ?_
  refine fp_1008 (x := x1) C w hk0 tw_2_30 dX7_noteOut_17 (fun H locs w => ?_)
  exact sb_X7_noteOut_20 C hz2 N t0 _ hJ hk0 w (lv_sub (l' := [(0, .ref t0)]) hl [0] rfl)
def B_X7_noteOut_0 (N : Nat) (t0 : Nat) (h : Hp) (x1 : Int32) : Option (Hp × Unit) := if (h.fi 1008 t0) = 0 then (B_X7_noteOut_15 N t0 h x1) else (if (h.fi 1008 t0) ≤ x1 then (B_X7_noteOut_20 N t0 h) else (B_X7_noteOut_15 N t0 h x1))
theorem mb_X7_noteOut_0 (N : Nat) (t0 : Nat) (h : Hp) (x1 : Int32) (hJ : B_X7_noteOut_0 N t0 h x1 = some (hz, ())) : Mo h hz := by
  unfold B_X7_noteOut_0 at hJ
  by_cases c1 : (h.fi 1008 t0) = 0
  · have hJ := it_pos c1 hJ
    exact mb_X7_noteOut_15 N t0 _ _ hJ
  · have hJ := it_neg c1 hJ
    by_cases c2 : (h.fi 1008 t0) ≤ x1
    · have hJ := it_pos c2 hJ
      exact mb_X7_noteOut_20 N t0 _ hJ
    · have hJ := it_neg c2 hJ
      exact mb_X7_noteOut_15 N t0 _ _ hJ
set_option maxRecDepth 100000 in
set_option maxHeartbeats 4000000 in
theorem sb_X7_noteOut_0 (C : Cx p s m args meth c cX7_noteOut 2 none RX7 D cs A h0.se) (hz2 : hz.nx ≤ h0.nx + mc ∧ hz.su ≤ h0.su + ms) (N : Nat) (t0 : Nat) (h : Hp) (x1 : Int32) (hJ : B_X7_noteOut_0 N t0 h x1 = some (hz, ())) (hk0 : h.kd t0 = 10) {H : Heap} {locs : List Loc} {cells slots : Nat} (w : Wo D cs A s h0 h H locs cells slots) {ls : Array Slot} (hl : lv_has ls 2 [(0, .ref t0), (1, .int x1)]) : W p l e { frames := 0, cells := mc, slots := ms, locals := 0 } s m args below meth c H locs cells slots (MQ below (Zv D cs A hz) args s mc ms A) (F0 m 0 ls []) := by
  obtain ⟨hx, hb, hml, hown, hts, -⟩ := id C
  unfold B_X7_noteOut_0 at hJ
  refine lv_aload_n hx hb dX7_noteOut_0 rfl (lv_at hl 0 rfl) ?_
  refine fg_1008 C w hk0 tw_2_30 dX7_noteOut_1 ?_
  refine lv_if_eq (tgt := 15) hx hb dX7_noteOut_4 (by decide) (fun c1 => ?_) (fun c1 => ?_)
  · have hJ := it_pos c1 hJ
    exact sb_X7_noteOut_15 C hz2 N t0 _ _ hJ hk0 w hl
  · have hJ := it_neg c1 hJ
    refine lv_iload_n hx hb dX7_noteOut_7 rfl (lv_at hl 1 rfl) ?_
    refine lv_aload_n hx hb dX7_noteOut_8 rfl (lv_at hl 0 rfl) ?_
    refine fg_1008 C w hk0 tw_2_30 dX7_noteOut_9 ?_
    refine lv_icmp_ge (tgt := 20) hx hb dX7_noteOut_12 (by decide) (fun c2 => ?_) (fun c2 => ?_)
    · have hJ := it_pos c2 hJ
      exact sb_X7_noteOut_20 C hz2 N t0 _ hJ hk0 w (lv_sub (l' := [(0, .ref t0)]) hl [0] rfl)
    · have hJ := it_neg c2 hJ
      exact sb_X7_noteOut_15 C hz2 N t0 _ _ hJ hk0 w hl
def J_X7_noteOut (N : Nat) (t0 : Nat) (h : Hp) (x1 : Int32) : Option (Hp × Unit) := B_X7_noteOut_0 N t0 h x1
theorem mo_X7_noteOut (N : Nat) (t0 : Nat) (h : Hp) (x1 : Int32) (hJ : J_X7_noteOut N t0 h x1 = some (hz, ())) : Mo h hz := mb_X7_noteOut_0 N t0 h x1 hJ
theorem cd_X7_noteOut : Cd yX7_noteOut 1 := ⟨by decide +kernel, by decide +kernel, by decide +kernel⟩
theorem cc_X7_noteOut (N : Nat) (t0 : Nat) (h : Hp) (x1 : Int32) (hk0 : h.kd t0 = 10) (hJ : J_X7_noteOut N t0 h x1 = some (hz, ())) : Cv l yX7_noteOut cX7_noteOut 2 none 0 0 D cs h hz [.ref t0, .int x1] := by
  intro mc ms g1 g2
  refine je_any (by decide) (by simp [lg_sl, rf_cat, cat_i, cat_l, cat_r]) ?_
  intro p e s m args below meth c C hin2 w ls hl
  have hl : lv_has ls 2 [(0, .ref t0), (1, .int x1)] := hl
  exact sb_X7_noteOut_0 C ⟨g1, g2⟩ N t0 h x1 hJ hk0 w hl
end G_X7_noteOut
section G_X7_hasReadKey
variable {p : Program} {l : Launch} {e : Env} {s : State} {m : MethodId} {args : Array Value} {below : List Frame} {meth : Method} {c : Code} {D : va_G} {cs : C4} {A : Nat → Prop} {h0 hz : Hp} {mc ms : Nat} {rz : Int32}
def B_X7_hasReadKey_24 (N : Nat) (t0 : Nat) (h : Hp) (y0 : Int32) : Option (Hp × Int32) := ck (y0 = 0 ∨ y0 = 1) (some (h, y0))
theorem mb_X7_hasReadKey_24 (N : Nat) (t0 : Nat) (h : Hp) (y0 : Int32) (hJ : B_X7_hasReadKey_24 N t0 h y0 = some (hz, rz)) : Mo h hz := by
  unfold B_X7_hasReadKey_24 at hJ
  obtain ⟨-, hJ⟩ := ck_some hJ
  obtain ⟨rfl, -⟩ := rs2 hJ
  exact ⟨fun _ _ => rfl, Nat.le_refl _, Nat.le_refl _, rfl, fun _ _ => rfl⟩
set_option maxRecDepth 100000 in
set_option maxHeartbeats 4000000 in
theorem sb_X7_hasReadKey_24 (C : Cx p s m args meth c cX7_hasReadKey 2 (some .boolean) RX7 D cs A h0.se) (hz2 : hz.nx ≤ h0.nx + mc ∧ hz.su ≤ h0.su + ms) (N : Nat) (t0 : Nat) (h : Hp) (y0 : Int32) (hJ : B_X7_hasReadKey_24 N t0 h y0 = some (hz, rz)) (hk0 : h.kd t0 = 10) {H : Heap} {locs : List Loc} {cells slots : Nat} (w : Wo D cs A s h0 h H locs cells slots) {ls : Array Slot} (hl : lv_has ls 2 [(0, .ref t0)]) : W p l e { frames := 2, cells := mc, slots := ms, locals := 60 } s m args below meth c H locs cells slots (MQ below (Zi D cs A hz rz) args s mc ms A) (F0 m 24 ls [.int y0]) := by
  obtain ⟨hx, hb, hml, hown, hts, -⟩ := id C
  unfold B_X7_hasReadKey_24 at hJ
  obtain ⟨hzo1, hJ⟩ := ck_some hJ
  obtain ⟨rfl, rfl⟩ := rs2 hJ
  exact jr_zret C w hzo1 hz2 dX7_hasReadKey_24
def B_X7_hasReadKey_23 (N : Nat) (t0 : Nat) (h : Hp) : Option (Hp × Int32) := B_X7_hasReadKey_24 N t0 h (0 : Int32)
theorem mb_X7_hasReadKey_23 (N : Nat) (t0 : Nat) (h : Hp) (hJ : B_X7_hasReadKey_23 N t0 h = some (hz, rz)) : Mo h hz := by
  unfold B_X7_hasReadKey_23 at hJ
  exact mb_X7_hasReadKey_24 N t0 _ _ hJ
set_option maxRecDepth 100000 in
set_option maxHeartbeats 4000000 in
theorem sb_X7_hasReadKey_23 (C : Cx p s m args meth c cX7_hasReadKey 2 (some .boolean) RX7 D cs A h0.se) (hz2 : hz.nx ≤ h0.nx + mc ∧ hz.su ≤ h0.su + ms) (N : Nat) (t0 : Nat) (h : Hp) (hJ : B_X7_hasReadKey_23 N t0 h = some (hz, rz)) (hk0 : h.kd t0 = 10) {H : Heap} {locs : List Loc} {cells slots : Nat} (w : Wo D cs A s h0 h H locs cells slots) {ls : Array Slot} (hl : lv_has ls 2 [(0, .ref t0)]) : W p l e { frames := 2, cells := mc, slots := ms, locals := 60 } s m args below meth c H locs cells slots (MQ below (Zi D cs A hz rz) args s mc ms A) (F0 m 23 ls []) := by
  obtain ⟨hx, hb, hml, hown, hts, -⟩ := id C
  unfold B_X7_hasReadKey_23 at hJ
  refine lv_iconst (v := (0 : Int32)) hx hb dX7_hasReadKey_23 (by decide) ?_
  exact sb_X7_hasReadKey_24 C hz2 N t0 _ _ hJ hk0 w hl
def B_X7_hasReadKey_16 (N : Nat) (t0 : Nat) (h : Hp) (y0 : Int32) : Option (Hp × Int32) := if y0 = 0 then (B_X7_hasReadKey_23 N t0 h) else (B_X7_hasReadKey_24 N t0 h (1 : Int32))
theorem mb_X7_hasReadKey_16 (N : Nat) (t0 : Nat) (h : Hp) (y0 : Int32) (hJ : B_X7_hasReadKey_16 N t0 h y0 = some (hz, rz)) : Mo h hz := by
  unfold B_X7_hasReadKey_16 at hJ
  by_cases c2 : y0 = 0
  · have hJ := it_pos c2 hJ
    exact mb_X7_hasReadKey_23 N t0 _ hJ
  · have hJ := it_neg c2 hJ
    exact mb_X7_hasReadKey_24 N t0 _ _ hJ
set_option maxRecDepth 100000 in
set_option maxHeartbeats 4000000 in
theorem sb_X7_hasReadKey_16 (C : Cx p s m args meth c cX7_hasReadKey 2 (some .boolean) RX7 D cs A h0.se) (hz2 : hz.nx ≤ h0.nx + mc ∧ hz.su ≤ h0.su + ms) (N : Nat) (t0 : Nat) (h : Hp) (y0 : Int32) (hJ : B_X7_hasReadKey_16 N t0 h y0 = some (hz, rz)) (hk0 : h.kd t0 = 10) {H : Heap} {locs : List Loc} {cells slots : Nat} (w : Wo D cs A s h0 h H locs cells slots) {ls : Array Slot} (hl : lv_has ls 2 [(0, .ref t0)]) : W p l e { frames := 2, cells := mc, slots := ms, locals := 60 } s m args below meth c H locs cells slots (MQ below (Zi D cs A hz rz) args s mc ms A) (F0 m 16 ls [.int y0]) := by
  obtain ⟨hx, hb, hml, hown, hts, -⟩ := id C
  unfold B_X7_hasReadKey_16 at hJ
  refine lv_if_eq (tgt := 23) hx hb dX7_hasReadKey_16 (by decide) (fun c2 => ?_) (fun c2 => ?_)
  · have hJ := it_pos c2 hJ
    exact sb_X7_hasReadKey_23 C hz2 N t0 _ hJ hk0 w hl
  · have hJ := it_neg c2 hJ
    refine lv_iconst (v := (1 : Int32)) hx hb dX7_hasReadKey_19 (by decide) ?_
    refine lv_goto (tgt := 24) hx hb dX7_hasReadKey_20 (by decide) ?_
    exact sb_X7_hasReadKey_24 C hz2 N t0 _ _ hJ hk0 w hl
def B_X7_hasReadKey_0 (N : Nat) (t0 : Nat) (h : Hp) (x1 : Int32) : Option (Hp × Int32) := if (h.fi 1005 t0) = (2 : Int32) then (B_X7_hasReadKey_23 N t0 h) else (dr h 9 (h.fr 1003 t0) (fun a4 => (J_X6_contains N a4 h x1).bind (fun z => B_X7_hasReadKey_16 N t0 z.1 z.2)))
theorem mb_X7_hasReadKey_0 (N : Nat) (t0 : Nat) (h : Hp) (x1 : Int32) (hJ : B_X7_hasReadKey_0 N t0 h x1 = some (hz, rz)) : Mo h hz := by
  unfold B_X7_hasReadKey_0 at hJ
  by_cases c3 : (h.fi 1005 t0) = (2 : Int32)
  · have hJ := it_pos c3 hJ
    exact mb_X7_hasReadKey_23 N t0 _ hJ
  · have hJ := it_neg c3 hJ
    obtain ⟨a4, ea4, -, hJ⟩ := dr_some hJ
    obtain ⟨⟨h5, r6⟩, e7, hJ⟩ := ob_some hJ
    exact (mo_X6_contains N a4 h x1 e7).tr (mb_X7_hasReadKey_16 N t0 _ _ hJ)
set_option maxRecDepth 100000 in
set_option maxHeartbeats 4000000 in
theorem sb_X7_hasReadKey_0 (C : Cx p s m args meth c cX7_hasReadKey 2 (some .boolean) RX7 D cs A h0.se) (hz2 : hz.nx ≤ h0.nx + mc ∧ hz.su ≤ h0.su + ms) (N : Nat) (t0 : Nat) (h : Hp) (x1 : Int32) (hJ : B_X7_hasReadKey_0 N t0 h x1 = some (hz, rz)) (hk0 : h.kd t0 = 10) {H : Heap} {locs : List Loc} {cells slots : Nat} (w : Wo D cs A s h0 h H locs cells slots) {ls : Array Slot} (hl : lv_has ls 2 [(0, .ref t0), (1, .int x1)]) : W p l e { frames := 2, cells := mc, slots := ms, locals := 60 } s m args below meth c H locs cells slots (MQ below (Zi D cs A hz rz) args s mc ms A) (F0 m 0 ls []) := by
  obtain ⟨hx, hb, hml, hown, hts, -⟩ := id C
  unfold B_X7_hasReadKey_0 at hJ
  refine lv_aload_n hx hb dX7_hasReadKey_0 rfl (lv_at hl 0 rfl) ?_
  refine fg_1005 C w hk0 tw_2_23 dX7_hasReadKey_1 ?_
  refine lv_iconst (v := (2 : Int32)) hx hb dX7_hasReadKey_4 (by decide) ?_
  refine lv_icmp_eq (tgt := 23) hx hb dX7_hasReadKey_5 (by decide) (fun c3 => ?_) (fun c3 => ?_)
  · have hJ := it_pos c3 hJ
    exact sb_X7_hasReadKey_23 C hz2 N t0 _ hJ hk0 w (lv_sub (l' := [(0, .ref t0)]) hl [0] rfl)
  · have hJ := it_neg c3 hJ
    refine lv_aload_n hx hb dX7_hasReadKey_8 rfl (lv_at hl 0 rfl) ?_
    refine fg_1003 C w hk0 tw_2_17 dX7_hasReadKey_9 ?_
    refine lv_iload_n hx hb dX7_hasReadKey_12 rfl (lv_at hl 1 rfl) ?_
    obtain ⟨a4, ea4, hka4, hJ⟩ := dr_some hJ
    rw [ea4]
    obtain ⟨⟨h5, r6⟩, e7, hJ⟩ := ob_some hJ
    refine jc_Vi (As := [.int x1]) C w (cc_X6_contains N a4 h x1 hka4 e7) (mo_X6_contains N a4 h x1 e7) (mb_X7_hasReadKey_16 N t0 _ _ hJ) hz2 hka4 (by decide) rfl (fs := fs9 h a4) rfl rfl ⟨tw_6_139, tw_6_136, tw_6_137, tw_6_138, tw_1_10⟩ cd_X6_contains ⟨by decide, by decide⟩ hl.1 (by first | exact Nat.le_of_ble_eq_true rfl | simp [rf_cat, cat_i, cat_l, cat_r]) rfl dX7_hasReadKey_13 (fun H locs w1 => ?_)
    have hk8 := kd_keep w (mo_X6_contains N a4 h x1 e7) hk0 (by decide)
    have w := w1
    exact sb_X7_hasReadKey_16 C hz2 N t0 _ _ hJ hk8 w (lv_sub (l' := [(0, .ref t0)]) hl [0] rfl)
def J_X7_hasReadKey (N : Nat) (t0 : Nat) (h : Hp) (x1 : Int32) : Option (Hp × Int32) := B_X7_hasReadKey_0 N t0 h x1
theorem mo_X7_hasReadKey (N : Nat) (t0 : Nat) (h : Hp) (x1 : Int32) (hJ : J_X7_hasReadKey N t0 h x1 = some (hz, rz)) : Mo h hz := mb_X7_hasReadKey_0 N t0 h x1 hJ
theorem cd_X7_hasReadKey : Cd yX7_hasReadKey 1 := ⟨by decide +kernel, by decide +kernel, by decide +kernel⟩
theorem cc_X7_hasReadKey (N : Nat) (t0 : Nat) (h : Hp) (x1 : Int32) (hk0 : h.kd t0 = 10) (hJ : J_X7_hasReadKey N t0 h x1 = some (hz, rz)) : Ci l yX7_hasReadKey cX7_hasReadKey 2 (some .boolean) 2 60 D cs h hz [.ref t0, .int x1] rz := by
  intro mc ms g1 g2
  refine je_any (by decide) (by simp [lg_sl, rf_cat, cat_i, cat_l, cat_r]) ?_
  intro p e s m args below meth c C hin2 w ls hl
  have hl : lv_has ls 2 [(0, .ref t0), (1, .int x1)] := hl
  exact sb_X7_hasReadKey_0 C ⟨g1, g2⟩ N t0 h x1 hJ hk0 w hl
end G_X7_hasReadKey
