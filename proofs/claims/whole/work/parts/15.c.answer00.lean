section G_X0_init
variable {p : Program} {l : Launch} {e : Env} {s : State} {m : MethodId} {args : Array Value} {below : List Frame} {meth : Method} {c : Code} {D : va_G} {cs : C4} {A : Nat → Prop} {h0 hz : Hp} {mc ms : Nat}
def B_X0_init_71 (N : Nat) (t0 : Nat) (h : Hp) (y0 : Option Nat) (y1 : Option Nat) : Option (Hp × Unit) := dr h 3 y0 (fun a1 => some (h.sfr 309 a1 y1, ()))
theorem mb_X0_init_71 (N : Nat) (t0 : Nat) (h : Hp) (y0 : Option Nat) (y1 : Option Nat) (hJ : B_X0_init_71 N t0 h y0 y1 = some (hz, ())) : Mo h hz := by
  unfold B_X0_init_71 at hJ
  obtain ⟨a1, ea1, -, hJ⟩ := dr_some hJ
  obtain ⟨rfl, -⟩ := rs2 hJ
  exact ⟨fun _ _ => rfl, Nat.le_refl _, Nat.le_refl _, rfl, fun _ _ => rfl⟩
set_option maxRecDepth 100000 in
set_option maxHeartbeats 4000000 in
theorem sb_X0_init_71 (C : Cx p s m args meth c cX0_init 2 none RX0 D cs A h0.se) (hin2 : meth.name = "<init>") (hz2 : hz.nx ≤ h0.nx + mc ∧ hz.su ≤ h0.su + ms) (N : Nat) (t0 : Nat) (h : Hp) (y0 : Option Nat) (y1 : Option Nat) (hJ : B_X0_init_71 N t0 h y0 y1 = some (hz, ())) (hk0 : h.kd t0 = 3) {H : Heap} {locs : List Loc} {cells slots : Nat} (w : Wo D cs A s h0 h H locs cells slots) {ls : Array Slot} (hl : lv_has ls 2 [(0, .ref t0)]) : W p l e { frames := 1, cells := mc, slots := ms, locals := 40 } s m args below meth c H locs cells slots (MQ below (Zv D cs A hz) args s mc ms A) (F0 m 71 ls [va_rf y1, va_rf y0]) := by
  obtain ⟨hx, hb, hml, hown, hts, -⟩ := id C
  unfold B_X0_init_71 at hJ
  obtain ⟨a1, ea1, hka1, hJ⟩ := dr_some hJ
  rw [ea1]
  refine fp_309 (x := y1) C hin2 w hka1 tw_1_107 dX0_init_71 (fun H locs w => ?_)
  obtain ⟨rfl, -⟩ := rs2 hJ
  exact jr_vret C w hz2 dX0_init_74
def B_X0_init_69 (N : Nat) (t0 : Nat) (h : Hp) (y0 : Option Nat) (y1 : Int32) : Option (Hp × Unit) := ck (¬ y1 < 0 ∧ y1.toNatClampNeg ≤ 67108864) (B_X0_init_71 N t0 (h.new 21 y1.toNatClampNeg y1.toNatClampNeg) y0 (some h.nx))
theorem mb_X0_init_69 (N : Nat) (t0 : Nat) (h : Hp) (y0 : Option Nat) (y1 : Int32) (hJ : B_X0_init_69 N t0 h y0 y1 = some (hz, ())) : Mo h hz := by
  unfold B_X0_init_69 at hJ
  obtain ⟨-, hJ⟩ := ck_some hJ
  exact (Mo.new h _ _ _).tr (mb_X0_init_71 N t0 _ _ _ hJ)
set_option maxRecDepth 100000 in
set_option maxHeartbeats 4000000 in
theorem sb_X0_init_69 (C : Cx p s m args meth c cX0_init 2 none RX0 D cs A h0.se) (hin2 : meth.name = "<init>") (hz2 : hz.nx ≤ h0.nx + mc ∧ hz.su ≤ h0.su + ms) (N : Nat) (t0 : Nat) (h : Hp) (y0 : Option Nat) (y1 : Int32) (hJ : B_X0_init_69 N t0 h y0 y1 = some (hz, ())) (hk0 : h.kd t0 = 3) {H : Heap} {locs : List Loc} {cells slots : Nat} (w : Wo D cs A s h0 h H locs cells slots) {ls : Array Slot} (hl : lv_has ls 2 [(0, .ref t0)]) : W p l e { frames := 1, cells := mc, slots := ms, locals := 40 } s m args below meth c H locs cells slots (MQ below (Zv D cs A hz) args s mc ms A) (F0 m 69 ls [.int y1, va_rf y0]) := by
  obtain ⟨hx, hb, hml, hown, hts, -⟩ := id C
  unfold B_X0_init_69 at hJ
  obtain ⟨hn2, hJ⟩ := ck_some hJ
  have w0 := w
  refine fa_21 C w hn2 (mb_X0_init_71 N t0 _ _ _ hJ) hz2 dX0_init_69 (fun H w => ?_)
  have hk3 := kd_new (k := 21) (n := y1.toNatClampNeg) (sl := y1.toNatClampNeg) w0 hk0 (by decide)
  exact sb_X0_init_71 C hin2 hz2 N t0 _ _ _ hJ hk3 w hl
def B_X0_init_56 (N : Nat) (t0 : Nat) (h : Hp) (x1 : Int32) (y0 : Option Nat) (y1 : Option Nat) : Option (Hp × Unit) := dr h 3 y0 (fun a4 => if x1 < 0 then (B_X0_init_69 N t0 (h.sfr 308 a4 y1) (some t0) (0 : Int32)) else (B_X0_init_69 N t0 (h.sfr 308 a4 y1) (some t0) x1))
theorem mb_X0_init_56 (N : Nat) (t0 : Nat) (h : Hp) (x1 : Int32) (y0 : Option Nat) (y1 : Option Nat) (hJ : B_X0_init_56 N t0 h x1 y0 y1 = some (hz, ())) : Mo h hz := by
  unfold B_X0_init_56 at hJ
  obtain ⟨a4, ea4, -, hJ⟩ := dr_some hJ
  by_cases c5 : x1 < 0
  · have hJ := it_pos c5 hJ
    exact (Mo.tr (show Mo h (h.sfr 308 a4 y1) from ⟨fun _ _ => rfl, Nat.le_refl _, Nat.le_refl _, rfl, fun _ _ => rfl⟩) (mb_X0_init_69 N t0 _ _ _ hJ))
  · have hJ := it_neg c5 hJ
    exact (Mo.tr (show Mo h (h.sfr 308 a4 y1) from ⟨fun _ _ => rfl, Nat.le_refl _, Nat.le_refl _, rfl, fun _ _ => rfl⟩) (mb_X0_init_69 N t0 _ _ _ hJ))
set_option maxRecDepth 100000 in
set_option maxHeartbeats 4000000 in
theorem sb_X0_init_56 (C : Cx p s m args meth c cX0_init 2 none RX0 D cs A h0.se) (hin2 : meth.name = "<init>") (hz2 : hz.nx ≤ h0.nx + mc ∧ hz.su ≤ h0.su + ms) (N : Nat) (t0 : Nat) (h : Hp) (x1 : Int32) (y0 : Option Nat) (y1 : Option Nat) (hJ : B_X0_init_56 N t0 h x1 y0 y1 = some (hz, ())) (hk0 : h.kd t0 = 3) {H : Heap} {locs : List Loc} {cells slots : Nat} (w : Wo D cs A s h0 h H locs cells slots) {ls : Array Slot} (hl : lv_has ls 2 [(0, .ref t0), (1, .int x1)]) : W p l e { frames := 1, cells := mc, slots := ms, locals := 40 } s m args below meth c H locs cells slots (MQ below (Zv D cs A hz) args s mc ms A) (F0 m 56 ls [va_rf y1, va_rf y0]) := by
  obtain ⟨hx, hb, hml, hown, hts, -⟩ := id C
  unfold B_X0_init_56 at hJ
  obtain ⟨a4, ea4, hka4, hJ⟩ := dr_some hJ
  rw [ea4]
  refine fp_308 (x := y1) C hin2 w hka4 tw_1_105 dX0_init_56 (fun H locs w => ?_)
  refine lv_aload_n hx hb dX0_init_59 rfl (lv_at hl 0 rfl) ?_
  refine lv_iload_n hx hb dX0_init_60 rfl (lv_at hl 1 rfl) ?_
  refine lv_if_lt (tgt := 68) hx hb dX0_init_61 (by decide) (fun c5 => ?_) (fun c5 => ?_)
  · have hJ := it_pos c5 hJ
    refine lv_iconst (v := (0 : Int32)) hx hb dX0_init_68 (by decide) ?_
    exact sb_X0_init_69 C hin2 hz2 N t0 _ _ _ hJ hk0 w (lv_sub (l' := [(0, .ref t0)]) hl [0] rfl)
  · have hJ := it_neg c5 hJ
    refine lv_iload_n hx hb dX0_init_64 rfl (lv_at hl 1 rfl) ?_
    refine lv_goto (tgt := 69) hx hb dX0_init_65 (by decide) ?_
    exact sb_X0_init_69 C hin2 hz2 N t0 _ _ _ hJ hk0 w (lv_sub (l' := [(0, .ref t0)]) hl [0] rfl)
def B_X0_init_54 (N : Nat) (t0 : Nat) (h : Hp) (x1 : Int32) (y0 : Option Nat) (y1 : Int32) : Option (Hp × Unit) := ck (¬ y1 < 0 ∧ y1.toNatClampNeg ≤ 67108864) (B_X0_init_56 N t0 (h.new 20 y1.toNatClampNeg y1.toNatClampNeg) x1 y0 (some h.nx))
theorem mb_X0_init_54 (N : Nat) (t0 : Nat) (h : Hp) (x1 : Int32) (y0 : Option Nat) (y1 : Int32) (hJ : B_X0_init_54 N t0 h x1 y0 y1 = some (hz, ())) : Mo h hz := by
  unfold B_X0_init_54 at hJ
  obtain ⟨-, hJ⟩ := ck_some hJ
  exact (Mo.new h _ _ _).tr (mb_X0_init_56 N t0 _ _ _ _ hJ)
set_option maxRecDepth 100000 in
set_option maxHeartbeats 4000000 in
theorem sb_X0_init_54 (C : Cx p s m args meth c cX0_init 2 none RX0 D cs A h0.se) (hin2 : meth.name = "<init>") (hz2 : hz.nx ≤ h0.nx + mc ∧ hz.su ≤ h0.su + ms) (N : Nat) (t0 : Nat) (h : Hp) (x1 : Int32) (y0 : Option Nat) (y1 : Int32) (hJ : B_X0_init_54 N t0 h x1 y0 y1 = some (hz, ())) (hk0 : h.kd t0 = 3) {H : Heap} {locs : List Loc} {cells slots : Nat} (w : Wo D cs A s h0 h H locs cells slots) {ls : Array Slot} (hl : lv_has ls 2 [(0, .ref t0), (1, .int x1)]) : W p l e { frames := 1, cells := mc, slots := ms, locals := 40 } s m args below meth c H locs cells slots (MQ below (Zv D cs A hz) args s mc ms A) (F0 m 54 ls [.int y1, va_rf y0]) := by
  obtain ⟨hx, hb, hml, hown, hts, -⟩ := id C
  unfold B_X0_init_54 at hJ
  obtain ⟨hn6, hJ⟩ := ck_some hJ
  have w0 := w
  refine fa_20 C w hn6 (mb_X0_init_56 N t0 _ _ _ _ hJ) hz2 dX0_init_54 (fun H w => ?_)
  have hk7 := kd_new (k := 20) (n := y1.toNatClampNeg) (sl := y1.toNatClampNeg) w0 hk0 (by decide)
  exact sb_X0_init_56 C hin2 hz2 N t0 _ _ _ _ hJ hk7 w hl
def B_X0_init_44 (N : Nat) (t0 : Nat) (h : Hp) (x1 : Int32) : Option (Hp × Unit) := if x1 < 0 then (B_X0_init_54 N t0 h x1 (some t0) (0 : Int32)) else (B_X0_init_54 N t0 h x1 (some t0) x1)
theorem mb_X0_init_44 (N : Nat) (t0 : Nat) (h : Hp) (x1 : Int32) (hJ : B_X0_init_44 N t0 h x1 = some (hz, ())) : Mo h hz := by
  unfold B_X0_init_44 at hJ
  by_cases c8 : x1 < 0
  · have hJ := it_pos c8 hJ
    exact mb_X0_init_54 N t0 _ _ _ _ hJ
  · have hJ := it_neg c8 hJ
    exact mb_X0_init_54 N t0 _ _ _ _ hJ
set_option maxRecDepth 100000 in
set_option maxHeartbeats 4000000 in
theorem sb_X0_init_44 (C : Cx p s m args meth c cX0_init 2 none RX0 D cs A h0.se) (hin2 : meth.name = "<init>") (hz2 : hz.nx ≤ h0.nx + mc ∧ hz.su ≤ h0.su + ms) (N : Nat) (t0 : Nat) (h : Hp) (x1 : Int32) (hJ : B_X0_init_44 N t0 h x1 = some (hz, ())) (hk0 : h.kd t0 = 3) {H : Heap} {locs : List Loc} {cells slots : Nat} (w : Wo D cs A s h0 h H locs cells slots) {ls : Array Slot} (hl : lv_has ls 2 [(0, .ref t0), (1, .int x1)]) : W p l e { frames := 1, cells := mc, slots := ms, locals := 40 } s m args below meth c H locs cells slots (MQ below (Zv D cs A hz) args s mc ms A) (F0 m 44 ls []) := by
  obtain ⟨hx, hb, hml, hown, hts, -⟩ := id C
  unfold B_X0_init_44 at hJ
  refine lv_aload_n hx hb dX0_init_44 rfl (lv_at hl 0 rfl) ?_
  refine lv_iload_n hx hb dX0_init_45 rfl (lv_at hl 1 rfl) ?_
  refine lv_if_lt (tgt := 53) hx hb dX0_init_46 (by decide) (fun c8 => ?_) (fun c8 => ?_)
  · have hJ := it_pos c8 hJ
    refine lv_iconst (v := (0 : Int32)) hx hb dX0_init_53 (by decide) ?_
    exact sb_X0_init_54 C hin2 hz2 N t0 _ _ _ _ hJ hk0 w hl
  · have hJ := it_neg c8 hJ
    refine lv_iload_n hx hb dX0_init_49 rfl (lv_at hl 1 rfl) ?_
    refine lv_goto (tgt := 54) hx hb dX0_init_50 (by decide) ?_
    exact sb_X0_init_54 C hin2 hz2 N t0 _ _ _ _ hJ hk0 w hl
def B_X0_init_24 (N : Nat) (t0 : Nat) (h : Hp) (x1 : Int32) : Option (Hp × Unit) := B_X0_init_44 N t0 ((((h.sfi 304 t0 (0 : Int32)).sfi 305 t0 (0 : Int32)).sfi 306 t0 (0 : Int32)).sfi 307 t0 (0 : Int32)) x1
theorem mb_X0_init_24 (N : Nat) (t0 : Nat) (h : Hp) (x1 : Int32) (hJ : B_X0_init_24 N t0 h x1 = some (hz, ())) : Mo h hz := by
  unfold B_X0_init_24 at hJ
  exact (Mo.tr (show Mo h ((((h.sfi 304 t0 (0 : Int32)).sfi 305 t0 (0 : Int32)).sfi 306 t0 (0 : Int32)).sfi 307 t0 (0 : Int32)) from ⟨fun _ _ => rfl, Nat.le_refl _, Nat.le_refl _, rfl, fun _ _ => rfl⟩) (mb_X0_init_44 N t0 _ _ hJ))
set_option maxRecDepth 100000 in
set_option maxHeartbeats 4000000 in
theorem sb_X0_init_24 (C : Cx p s m args meth c cX0_init 2 none RX0 D cs A h0.se) (hin2 : meth.name = "<init>") (hz2 : hz.nx ≤ h0.nx + mc ∧ hz.su ≤ h0.su + ms) (N : Nat) (t0 : Nat) (h : Hp) (x1 : Int32) (hJ : B_X0_init_24 N t0 h x1 = some (hz, ())) (hk0 : h.kd t0 = 3) {H : Heap} {locs : List Loc} {cells slots : Nat} (w : Wo D cs A s h0 h H locs cells slots) {ls : Array Slot} (hl : lv_has ls 2 [(0, .ref t0), (1, .int x1)]) : W p l e { frames := 1, cells := mc, slots := ms, locals := 40 } s m args below meth c H locs cells slots (MQ below (Zv D cs A hz) args s mc ms A) (F0 m 24 ls []) := by
  obtain ⟨hx, hb, hml, hown, hts, -⟩ := id C
  unfold B_X0_init_24 at hJ
  refine lv_aload_n hx hb dX0_init_24 rfl (lv_at hl 0 rfl) ?_
  refine lv_iconst (v := (0 : Int32)) hx hb dX0_init_25 (by decide) ?_
  refine fp_304 (x := (0 : Int32)) C w hk0 (Or.inl rfl) tw_1_97 dX0_init_26 (fun H locs w => ?_)
  refine lv_aload_n hx hb dX0_init_29 rfl (lv_at hl 0 rfl) ?_
  refine lv_iconst (v := (0 : Int32)) hx hb dX0_init_30 (by decide) ?_
  refine fp_305 (x := (0 : Int32)) C w hk0 tw_1_99 dX0_init_31 (fun H locs w => ?_)
  refine lv_aload_n hx hb dX0_init_34 rfl (lv_at hl 0 rfl) ?_
  refine lv_iconst (v := (0 : Int32)) hx hb dX0_init_35 (by decide) ?_
  refine fp_306 (x := (0 : Int32)) C w hk0 tw_1_101 dX0_init_36 (fun H locs w => ?_)
  refine lv_aload_n hx hb dX0_init_39 rfl (lv_at hl 0 rfl) ?_
  refine lv_iconst (v := (0 : Int32)) hx hb dX0_init_40 (by decide) ?_
  refine fp_307 (x := (0 : Int32)) C w hk0 tw_1_103 dX0_init_41 (fun H locs w => ?_)
  exact sb_X0_init_44 C hin2 hz2 N t0 _ _ hJ hk0 w hl
def B_X0_init_0 (N : Nat) (t0 : Nat) (h : Hp) (x1 : Int32) : Option (Hp × Unit) := B_X0_init_24 N t0 ((((h.sfi 300 t0 (0 : Int32)).sfi 301 t0 (0 : Int32)).sfi 302 t0 (0 : Int32)).sfl 303 t0 (0 : Int64)) x1
theorem mb_X0_init_0 (N : Nat) (t0 : Nat) (h : Hp) (x1 : Int32) (hJ : B_X0_init_0 N t0 h x1 = some (hz, ())) : Mo h hz := by
  unfold B_X0_init_0 at hJ
  exact (Mo.tr (show Mo h ((((h.sfi 300 t0 (0 : Int32)).sfi 301 t0 (0 : Int32)).sfi 302 t0 (0 : Int32)).sfl 303 t0 (0 : Int64)) from ⟨fun _ _ => rfl, Nat.le_refl _, Nat.le_refl _, rfl, fun _ _ => rfl⟩) (mb_X0_init_24 N t0 _ _ hJ))
set_option maxRecDepth 100000 in
set_option maxHeartbeats 4000000 in
theorem sb_X0_init_0 (C : Cx p s m args meth c cX0_init 2 none RX0 D cs A h0.se) (hin2 : meth.name = "<init>") (hz2 : hz.nx ≤ h0.nx + mc ∧ hz.su ≤ h0.su + ms) (N : Nat) (t0 : Nat) (h : Hp) (x1 : Int32) (hJ : B_X0_init_0 N t0 h x1 = some (hz, ())) (hk0 : h.kd t0 = 3) {H : Heap} {locs : List Loc} {cells slots : Nat} (w : Wo D cs A s h0 h H locs cells slots) {ls : Array Slot} (hl : lv_has ls 2 [(0, .ref t0), (1, .int x1)]) : W p l e { frames := 1, cells := mc, slots := ms, locals := 40 } s m args below meth c H locs cells slots (MQ below (Zv D cs A hz) args s mc ms A) (F0 m 0 ls []) := by
  obtain ⟨hx, hb, hml, hown, hts, -⟩ := id C
  unfold B_X0_init_0 at hJ
  refine lv_aload_n hx hb dX0_init_0 rfl (lv_at hl 0 rfl) ?_
  refine jc_O C tw_1_86 tw_1_41 tw_obj hl.1 (by first | exact Nat.le_of_ble_eq_true rfl | simp [rf_cat, cat_i, cat_l, cat_r]) (by decide) dX0_init_1 ?_
  refine lv_aload_n hx hb dX0_init_4 rfl (lv_at hl 0 rfl) ?_
  refine lv_iconst (v := (0 : Int32)) hx hb dX0_init_5 (by decide) ?_
  refine fp_300 (x := (0 : Int32)) C w hk0 tw_1_87 dX0_init_6 (fun H locs w => ?_)
  refine lv_aload_n hx hb dX0_init_9 rfl (lv_at hl 0 rfl) ?_
  refine lv_iconst (v := (0 : Int32)) hx hb dX0_init_10 (by decide) ?_
  refine fp_301 (x := (0 : Int32)) C w hk0 (Or.inl rfl) tw_1_91 dX0_init_11 (fun H locs w => ?_)
  refine lv_aload_n hx hb dX0_init_14 rfl (lv_at hl 0 rfl) ?_
  refine lv_iconst (v := (0 : Int32)) hx hb dX0_init_15 (by decide) ?_
  refine fp_302 (x := (0 : Int32)) C w hk0 tw_1_93 dX0_init_16 (fun H locs w => ?_)
  refine lv_aload_n hx hb dX0_init_19 rfl (lv_at hl 0 rfl) ?_
  refine lv_lconst (v := (0 : Int64)) hx hb dX0_init_20 (by decide) ?_
  refine fp_303 (x := (0 : Int64)) C w hk0 tw_1_95 dX0_init_21 (fun H locs w => ?_)
  exact sb_X0_init_24 C hin2 hz2 N t0 _ _ hJ hk0 w hl
def J_X0_init (N : Nat) (t0 : Nat) (h : Hp) (x1 : Int32) : Option (Hp × Unit) := B_X0_init_0 N t0 h x1
theorem mo_X0_init (N : Nat) (t0 : Nat) (h : Hp) (x1 : Int32) (hJ : J_X0_init N t0 h x1 = some (hz, ())) : Mo h hz := mb_X0_init_0 N t0 h x1 hJ
theorem cd_X0_init : Cd yX0_init 1 := ⟨by decide +kernel, by decide +kernel, by decide +kernel⟩
theorem cc_X0_init (N : Nat) (t0 : Nat) (h : Hp) (x1 : Int32) (hk0 : h.kd t0 = 3) (hJ : J_X0_init N t0 h x1 = some (hz, ())) : Cv l yX0_init cX0_init 2 none 1 40 D cs h hz [.ref t0, .int x1] := by
  intro mc ms g1 g2
  refine je_any (by decide) (by simp [lg_sl, rf_cat, cat_i, cat_l, cat_r]) ?_
  intro p e s m args below meth c C hin2 w ls hl
  have hl : lv_has ls 2 [(0, .ref t0), (1, .int x1)] := hl
  exact sb_X0_init_0 C hin2 ⟨g1, g2⟩ N t0 h x1 hJ hk0 w hl
end G_X0_init
section G_X0_clear
variable {p : Program} {l : Launch} {e : Env} {s : State} {m : MethodId} {args : Array Value} {below : List Frame} {meth : Method} {c : Code} {D : va_G} {cs : C4} {A : Nat → Prop} {h0 hz : Hp} {mc ms : Nat}
def B_X0_clear_20 (N : Nat) (t0 : Nat) (h : Hp) : Option (Hp × Unit) := some ((h.sfi 304 t0 (0 : Int32)).sfi 307 t0 (0 : Int32), ())
theorem mb_X0_clear_20 (N : Nat) (t0 : Nat) (h : Hp) (hJ : B_X0_clear_20 N t0 h = some (hz, ())) : Mo h hz := by
  unfold B_X0_clear_20 at hJ
  obtain ⟨rfl, -⟩ := rs2 hJ
  exact ⟨fun _ _ => rfl, Nat.le_refl _, Nat.le_refl _, rfl, fun _ _ => rfl⟩
set_option maxRecDepth 100000 in
set_option maxHeartbeats 4000000 in
theorem sb_X0_clear_20 (C : Cx p s m args meth c cX0_clear 1 none RX0 D cs A h0.se) (hz2 : hz.nx ≤ h0.nx + mc ∧ hz.su ≤ h0.su + ms) (N : Nat) (t0 : Nat) (h : Hp) (hJ : B_X0_clear_20 N t0 h = some (hz, ())) (hk0 : h.kd t0 = 3) {H : Heap} {locs : List Loc} {cells slots : Nat} (w : Wo D cs A s h0 h H locs cells slots) {ls : Array Slot} (hl : lv_has ls 1 [(0, .ref t0)]) : W p l e { frames := 0, cells := mc, slots := ms, locals := 0 } s m args below meth c H locs cells slots (MQ below (Zv D cs A hz) args s mc ms A) (F0 m 20 ls []) := by
  obtain ⟨hx, hb, hml, hown, hts, -⟩ := id C
  unfold B_X0_clear_20 at hJ
  refine lv_aload_n hx hb dX0_clear_20 rfl (lv_at hl 0 rfl) ?_
  refine lv_iconst (v := (0 : Int32)) hx hb dX0_clear_21 (by decide) ?_
  refine fp_304 (x := (0 : Int32)) C w hk0 (Or.inl rfl) tw_1_97 dX0_clear_22 (fun H locs w => ?_)
  refine lv_aload_n hx hb dX0_clear_25 rfl (lv_at hl 0 rfl) ?_
  refine lv_iconst (v := (0 : Int32)) hx hb dX0_clear_26 (by decide) ?_
  refine fp_307 (x := (0 : Int32)) C w hk0 tw_1_103 dX0_clear_27 (fun H locs w => ?_)
  obtain ⟨rfl, -⟩ := rs2 hJ
  exact jr_vret C w hz2 dX0_clear_30
def B_X0_clear_0 (N : Nat) (t0 : Nat) (h : Hp) : Option (Hp × Unit) := B_X0_clear_20 N t0 ((((h.sfi 300 t0 (0 : Int32)).sfi 301 t0 (0 : Int32)).sfi 302 t0 (0 : Int32)).sfl 303 t0 (0 : Int64))
theorem mb_X0_clear_0 (N : Nat) (t0 : Nat) (h : Hp) (hJ : B_X0_clear_0 N t0 h = some (hz, ())) : Mo h hz := by
  unfold B_X0_clear_0 at hJ
  exact (Mo.tr (show Mo h ((((h.sfi 300 t0 (0 : Int32)).sfi 301 t0 (0 : Int32)).sfi 302 t0 (0 : Int32)).sfl 303 t0 (0 : Int64)) from ⟨fun _ _ => rfl, Nat.le_refl _, Nat.le_refl _, rfl, fun _ _ => rfl⟩) (mb_X0_clear_20 N t0 _ hJ))
set_option maxRecDepth 100000 in
set_option maxHeartbeats 4000000 in
theorem sb_X0_clear_0 (C : Cx p s m args meth c cX0_clear 1 none RX0 D cs A h0.se) (hz2 : hz.nx ≤ h0.nx + mc ∧ hz.su ≤ h0.su + ms) (N : Nat) (t0 : Nat) (h : Hp) (hJ : B_X0_clear_0 N t0 h = some (hz, ())) (hk0 : h.kd t0 = 3) {H : Heap} {locs : List Loc} {cells slots : Nat} (w : Wo D cs A s h0 h H locs cells slots) {ls : Array Slot} (hl : lv_has ls 1 [(0, .ref t0)]) : W p l e { frames := 0, cells := mc, slots := ms, locals := 0 } s m args below meth c H locs cells slots (MQ below (Zv D cs A hz) args s mc ms A) (F0 m 0 ls []) := by
  obtain ⟨hx, hb, hml, hown, hts, -⟩ := id C
  unfold B_X0_clear_0 at hJ
  refine lv_aload_n hx hb dX0_clear_0 rfl (lv_at hl 0 rfl) ?_
  refine lv_iconst (v := (0 : Int32)) hx hb dX0_clear_1 (by decide) ?_
  refine fp_300 (x := (0 : Int32)) C w hk0 tw_1_87 dX0_clear_2 (fun H locs w => ?_)
  refine lv_aload_n hx hb dX0_clear_5 rfl (lv_at hl 0 rfl) ?_
  refine lv_iconst (v := (0 : Int32)) hx hb dX0_clear_6 (by decide) ?_
  refine fp_301 (x := (0 : Int32)) C w hk0 (Or.inl rfl) tw_1_91 dX0_clear_7 (fun H locs w => ?_)
  refine lv_aload_n hx hb dX0_clear_10 rfl (lv_at hl 0 rfl) ?_
  refine lv_iconst (v := (0 : Int32)) hx hb dX0_clear_11 (by decide) ?_
  refine fp_302 (x := (0 : Int32)) C w hk0 tw_1_93 dX0_clear_12 (fun H locs w => ?_)
  refine lv_aload_n hx hb dX0_clear_15 rfl (lv_at hl 0 rfl) ?_
  refine lv_lconst (v := (0 : Int64)) hx hb dX0_clear_16 (by decide) ?_
  refine fp_303 (x := (0 : Int64)) C w hk0 tw_1_95 dX0_clear_17 (fun H locs w => ?_)
  exact sb_X0_clear_20 C hz2 N t0 _ hJ hk0 w hl
def J_X0_clear (N : Nat) (t0 : Nat) (h : Hp) : Option (Hp × Unit) := B_X0_clear_0 N t0 h
theorem mo_X0_clear (N : Nat) (t0 : Nat) (h : Hp) (hJ : J_X0_clear N t0 h = some (hz, ())) : Mo h hz := mb_X0_clear_0 N t0 h hJ
theorem cd_X0_clear : Cd yX0_clear 0 := ⟨by decide +kernel, by decide +kernel, by decide +kernel⟩
theorem cc_X0_clear (N : Nat) (t0 : Nat) (h : Hp) (hk0 : h.kd t0 = 3) (hJ : J_X0_clear N t0 h = some (hz, ())) : Cv l yX0_clear cX0_clear 1 none 0 0 D cs h hz [.ref t0] := by
  intro mc ms g1 g2
  refine je_any (by decide) (by simp [lg_sl, rf_cat, cat_i, cat_l, cat_r]) ?_
  intro p e s m args below meth c C hin2 w ls hl
  have hl : lv_has ls 1 [(0, .ref t0)] := hl
  exact sb_X0_clear_0 C ⟨g1, g2⟩ N t0 h hJ hk0 w hl
end G_X0_clear
section G_X0_find
variable {p : Program} {l : Launch} {e : Env} {s : State} {m : MethodId} {args : Array Value} {below : List Frame} {meth : Method} {c : Code} {D : va_G} {cs : C4} {A : Nat → Prop} {h0 hz : Hp} {mc ms : Nat}
def B_X0_find_20 (N : Nat) (t0 : Nat) (h : Hp) : Option (Hp × Unit) := some (h, ())
theorem mb_X0_find_20 (N : Nat) (t0 : Nat) (h : Hp) (hJ : B_X0_find_20 N t0 h = some (hz, ())) : Mo h hz := by
  unfold B_X0_find_20 at hJ
  obtain ⟨rfl, -⟩ := rs2 hJ
  exact ⟨fun _ _ => rfl, Nat.le_refl _, Nat.le_refl _, rfl, fun _ _ => rfl⟩
set_option maxRecDepth 100000 in
set_option maxHeartbeats 4000000 in
theorem sb_X0_find_20 (C : Cx p s m args meth c cX0_find 4 none RX0 D cs A h0.se) (hz2 : hz.nx ≤ h0.nx + mc ∧ hz.su ≤ h0.su + ms) (N : Nat) (t0 : Nat) (h : Hp) (hJ : B_X0_find_20 N t0 h = some (hz, ())) (hk0 : h.kd t0 = 3) {H : Heap} {locs : List Loc} {cells slots : Nat} (w : Wo D cs A s h0 h H locs cells slots) {ls : Array Slot} (hl : lv_has ls 4 [(0, .ref t0)]) : W p l e { frames := 0, cells := mc, slots := ms, locals := 0 } s m args below meth c H locs cells slots (MQ below (Zv D cs A hz) args s mc ms A) (F0 m 20 ls []) := by
  obtain ⟨hx, hb, hml, hown, hts, -⟩ := id C
  unfold B_X0_find_20 at hJ
  obtain ⟨rfl, -⟩ := rs2 hJ
  exact jr_vret C w hz2 dX0_find_20
def B_X0_find_0 (N : Nat) (t0 : Nat) (h : Hp) (x1 : Int32) (x2 : Int64) : Option (Hp × Unit) := B_X0_find_20 N t0 ((((h.sfi 300 t0 (1 : Int32)).sfi 301 t0 (1 : Int32)).sfi 302 t0 x1).sfl 303 t0 x2)
theorem mb_X0_find_0 (N : Nat) (t0 : Nat) (h : Hp) (x1 : Int32) (x2 : Int64) (hJ : B_X0_find_0 N t0 h x1 x2 = some (hz, ())) : Mo h hz := by
  unfold B_X0_find_0 at hJ
  exact (Mo.tr (show Mo h ((((h.sfi 300 t0 (1 : Int32)).sfi 301 t0 (1 : Int32)).sfi 302 t0 x1).sfl 303 t0 x2) from ⟨fun _ _ => rfl, Nat.le_refl _, Nat.le_refl _, rfl, fun _ _ => rfl⟩) (mb_X0_find_20 N t0 _ hJ))
set_option maxRecDepth 100000 in
set_option maxHeartbeats 4000000 in
theorem sb_X0_find_0 (C : Cx p s m args meth c cX0_find 4 none RX0 D cs A h0.se) (hz2 : hz.nx ≤ h0.nx + mc ∧ hz.su ≤ h0.su + ms) (N : Nat) (t0 : Nat) (h : Hp) (x1 : Int32) (x2 : Int64) (hJ : B_X0_find_0 N t0 h x1 x2 = some (hz, ())) (hk0 : h.kd t0 = 3) {H : Heap} {locs : List Loc} {cells slots : Nat} (w : Wo D cs A s h0 h H locs cells slots) {ls : Array Slot} (hl : lv_has ls 4 [(0, .ref t0), (1, .int x1), (2, .long x2)]) : W p l e { frames := 0, cells := mc, slots := ms, locals := 0 } s m args below meth c H locs cells slots (MQ below (Zv D cs A hz) args s mc ms A) (F0 m 0 ls []) := by
  obtain ⟨hx, hb, hml, hown, hts, -⟩ := id C
  unfold B_X0_find_0 at hJ
  refine lv_aload_n hx hb dX0_find_0 rfl (lv_at hl 0 rfl) ?_
  refine lv_iconst (v := (1 : Int32)) hx hb dX0_find_1 (by decide) ?_
  refine fp_300 (x := (1 : Int32)) C w hk0 tw_1_87 dX0_find_2 (fun H locs w => ?_)
  refine lv_aload_n hx hb dX0_find_5 rfl (lv_at hl 0 rfl) ?_
  refine lv_iconst (v := (1 : Int32)) hx hb dX0_find_6 (by decide) ?_
  refine fp_301 (x := (1 : Int32)) C w hk0 (Or.inr rfl) tw_1_91 dX0_find_7 (fun H locs w => ?_)
  refine lv_aload_n hx hb dX0_find_10 rfl (lv_at hl 0 rfl) ?_
  refine lv_iload_n hx hb dX0_find_11 rfl (lv_at hl 1 rfl) ?_
  refine fp_302 (x := x1) C w hk0 tw_1_93 dX0_find_12 (fun H locs w => ?_)
  refine lv_aload_n hx hb dX0_find_15 rfl (lv_at hl 0 rfl) ?_
  refine lv_lload_n hx hb dX0_find_16 rfl (lv_at hl 2 rfl) ?_
  refine fp_303 (x := x2) C w hk0 tw_1_95 dX0_find_17 (fun H locs w => ?_)
  exact sb_X0_find_20 C hz2 N t0 _ hJ hk0 w (lv_sub (l' := [(0, .ref t0)]) hl [0] rfl)
def J_X0_find (N : Nat) (t0 : Nat) (h : Hp) (x1 : Int32) (x2 : Int64) : Option (Hp × Unit) := B_X0_find_0 N t0 h x1 x2
theorem mo_X0_find (N : Nat) (t0 : Nat) (h : Hp) (x1 : Int32) (x2 : Int64) (hJ : J_X0_find N t0 h x1 x2 = some (hz, ())) : Mo h hz := mb_X0_find_0 N t0 h x1 x2 hJ
theorem cd_X0_find : Cd yX0_find 2 := ⟨by decide +kernel, by decide +kernel, by decide +kernel⟩
theorem cc_X0_find (N : Nat) (t0 : Nat) (h : Hp) (x1 : Int32) (x2 : Int64) (hk0 : h.kd t0 = 3) (hJ : J_X0_find N t0 h x1 x2 = some (hz, ())) : Cv l yX0_find cX0_find 4 none 0 0 D cs h hz [.ref t0, .int x1, .long x2] := by
  intro mc ms g1 g2
  refine je_any (by decide) (by simp [lg_sl, rf_cat, cat_i, cat_l, cat_r]) ?_
  intro p e s m args below meth c C hin2 w ls hl
  have hl : lv_has ls 4 [(0, .ref t0), (1, .int x1), (2, .long x2)] := hl
  exact sb_X0_find_0 C ⟨g1, g2⟩ N t0 h x1 x2 hJ hk0 w hl
end G_X0_find
section G_X0_lookAt
variable {p : Program} {l : Launch} {e : Env} {s : State} {m : MethodId} {args : Array Value} {below : List Frame} {meth : Method} {c : Code} {D : va_G} {cs : C4} {A : Nat → Prop} {h0 hz : Hp} {mc ms : Nat}
def B_X0_lookAt_0 (N : Nat) (t0 : Nat) (h : Hp) (x1 : Int32) (x2 : Int32) : Option (Hp × Unit) := some (((h.sfi 304 t0 (1 : Int32)).sfi 305 t0 x1).sfi 306 t0 x2, ())
theorem mb_X0_lookAt_0 (N : Nat) (t0 : Nat) (h : Hp) (x1 : Int32) (x2 : Int32) (hJ : B_X0_lookAt_0 N t0 h x1 x2 = some (hz, ())) : Mo h hz := by
  unfold B_X0_lookAt_0 at hJ
  obtain ⟨rfl, -⟩ := rs2 hJ
  exact ⟨fun _ _ => rfl, Nat.le_refl _, Nat.le_refl _, rfl, fun _ _ => rfl⟩
set_option maxRecDepth 100000 in
set_option maxHeartbeats 4000000 in
theorem sb_X0_lookAt_0 (C : Cx p s m args meth c cX0_lookAt 3 none RX0 D cs A h0.se) (hz2 : hz.nx ≤ h0.nx + mc ∧ hz.su ≤ h0.su + ms) (N : Nat) (t0 : Nat) (h : Hp) (x1 : Int32) (x2 : Int32) (hJ : B_X0_lookAt_0 N t0 h x1 x2 = some (hz, ())) (hk0 : h.kd t0 = 3) {H : Heap} {locs : List Loc} {cells slots : Nat} (w : Wo D cs A s h0 h H locs cells slots) {ls : Array Slot} (hl : lv_has ls 3 [(0, .ref t0), (1, .int x1), (2, .int x2)]) : W p l e { frames := 0, cells := mc, slots := ms, locals := 0 } s m args below meth c H locs cells slots (MQ below (Zv D cs A hz) args s mc ms A) (F0 m 0 ls []) := by
  obtain ⟨hx, hb, hml, hown, hts, -⟩ := id C
  unfold B_X0_lookAt_0 at hJ
  refine lv_aload_n hx hb dX0_lookAt_0 rfl (lv_at hl 0 rfl) ?_
  refine lv_iconst (v := (1 : Int32)) hx hb dX0_lookAt_1 (by decide) ?_
  refine fp_304 (x := (1 : Int32)) C w hk0 (Or.inr rfl) tw_1_97 dX0_lookAt_2 (fun H locs w => ?_)
  refine lv_aload_n hx hb dX0_lookAt_5 rfl (lv_at hl 0 rfl) ?_
  refine lv_iload_n hx hb dX0_lookAt_6 rfl (lv_at hl 1 rfl) ?_
  refine fp_305 (x := x1) C w hk0 tw_1_99 dX0_lookAt_7 (fun H locs w => ?_)
  refine lv_aload_n hx hb dX0_lookAt_10 rfl (lv_at hl 0 rfl) ?_
  refine lv_iload_n hx hb dX0_lookAt_11 rfl (lv_at hl 2 rfl) ?_
  refine fp_306 (x := x2) C w hk0 tw_1_101 dX0_lookAt_12 (fun H locs w => ?_)
  obtain ⟨rfl, -⟩ := rs2 hJ
  exact jr_vret C w hz2 dX0_lookAt_15
def J_X0_lookAt (N : Nat) (t0 : Nat) (h : Hp) (x1 : Int32) (x2 : Int32) : Option (Hp × Unit) := B_X0_lookAt_0 N t0 h x1 x2
theorem mo_X0_lookAt (N : Nat) (t0 : Nat) (h : Hp) (x1 : Int32) (x2 : Int32) (hJ : J_X0_lookAt N t0 h x1 x2 = some (hz, ())) : Mo h hz := mb_X0_lookAt_0 N t0 h x1 x2 hJ
theorem cd_X0_lookAt : Cd yX0_lookAt 2 := ⟨by decide +kernel, by decide +kernel, by decide +kernel⟩
theorem cc_X0_lookAt (N : Nat) (t0 : Nat) (h : Hp) (x1 : Int32) (x2 : Int32) (hk0 : h.kd t0 = 3) (hJ : J_X0_lookAt N t0 h x1 x2 = some (hz, ())) : Cv l yX0_lookAt cX0_lookAt 3 none 0 0 D cs h hz [.ref t0, .int x1, .int x2] := by
  intro mc ms g1 g2
  refine je_any (by decide) (by simp [lg_sl, rf_cat, cat_i, cat_l, cat_r]) ?_
  intro p e s m args below meth c C hin2 w ls hl
  have hl : lv_has ls 3 [(0, .ref t0), (1, .int x1), (2, .int x2)] := hl
  exact sb_X0_lookAt_0 C ⟨g1, g2⟩ N t0 h x1 x2 hJ hk0 w hl
end G_X0_lookAt
section G_X0_addRow
variable {p : Program} {l : Launch} {e : Env} {s : State} {m : MethodId} {args : Array Value} {below : List Frame} {meth : Method} {c : Code} {D : va_G} {cs : C4} {A : Nat → Prop} {h0 hz : Hp} {mc ms : Nat}
def B_X0_addRow_54 (N : Nat) (t0 : Nat) (h : Hp) : Option (Hp × Unit) := some (h, ())
theorem mb_X0_addRow_54 (N : Nat) (t0 : Nat) (h : Hp) (hJ : B_X0_addRow_54 N t0 h = some (hz, ())) : Mo h hz := by
  unfold B_X0_addRow_54 at hJ
  obtain ⟨rfl, -⟩ := rs2 hJ
  exact ⟨fun _ _ => rfl, Nat.le_refl _, Nat.le_refl _, rfl, fun _ _ => rfl⟩
set_option maxRecDepth 100000 in
set_option maxHeartbeats 4000000 in
theorem sb_X0_addRow_54 (C : Cx p s m args meth c cX0_addRow 4 none RX0 D cs A h0.se) (hz2 : hz.nx ≤ h0.nx + mc ∧ hz.su ≤ h0.su + ms) (N : Nat) (t0 : Nat) (h : Hp) (hJ : B_X0_addRow_54 N t0 h = some (hz, ())) (hk0 : h.kd t0 = 3) {H : Heap} {locs : List Loc} {cells slots : Nat} (w : Wo D cs A s h0 h H locs cells slots) {ls : Array Slot} (hl : lv_has ls 4 [(0, .ref t0)]) : W p l e { frames := 0, cells := mc, slots := ms, locals := 0 } s m args below meth c H locs cells slots (MQ below (Zv D cs A hz) args s mc ms A) (F0 m 54 ls []) := by
  obtain ⟨hx, hb, hml, hown, hts, -⟩ := id C
  unfold B_X0_addRow_54 at hJ
  obtain ⟨rfl, -⟩ := rs2 hJ
  exact jr_vret C w hz2 dX0_addRow_54
def B_X0_addRow_0 (N : Nat) (t0 : Nat) (h : Hp) (x1 : Int32) (x2 : Int64) : Option (Hp × Unit) := dr h 20 (h.fr 308 t0) (fun a1 => if (nI (h.al a1)) ≤ (h.fi 307 t0) then (B_X0_addRow_54 N t0 h) else (dr h 21 (h.fr 309 t0) (fun a3 => if (nI (h.al a3)) ≤ (h.fi 307 t0) then (B_X0_addRow_54 N t0 h) else (dr h 20 (h.fr 308 t0) (fun a5 => ck (¬ (h.fi 307 t0 < 0 ∨ h.al a5 ≤ (h.fi 307 t0).toNatClampNeg)) (dr (h.sai a5 (h.fi 307 t0).toNatClampNeg x1) 21 ((h.sai a5 (h.fi 307 t0).toNatClampNeg x1).fr 309 t0) (fun a7 => ck (¬ ((h.sai a5 (h.fi 307 t0).toNatClampNeg x1).fi 307 t0 < 0 ∨ (h.sai a5 (h.fi 307 t0).toNatClampNeg x1).al a7 ≤ ((h.sai a5 (h.fi 307 t0).toNatClampNeg x1).fi 307 t0).toNatClampNeg)) (B_X0_addRow_54 N t0 (((h.sai a5 (h.fi 307 t0).toNatClampNeg x1).saw a7 ((h.sai a5 (h.fi 307 t0).toNatClampNeg x1).fi 307 t0).toNatClampNeg x2).sfi 307 t0 ((((h.sai a5 (h.fi 307 t0).toNatClampNeg x1).saw a7 ((h.sai a5 (h.fi 307 t0).toNatClampNeg x1).fi 307 t0).toNatClampNeg x2).fi 307 t0) + (1 : Int32)))))))))))
theorem mb_X0_addRow_0 (N : Nat) (t0 : Nat) (h : Hp) (x1 : Int32) (x2 : Int64) (hJ : B_X0_addRow_0 N t0 h x1 x2 = some (hz, ())) : Mo h hz := by
  unfold B_X0_addRow_0 at hJ
  obtain ⟨a1, ea1, -, hJ⟩ := dr_some hJ
  by_cases c2 : (nI (h.al a1)) ≤ (h.fi 307 t0)
  · have hJ := it_pos c2 hJ
    exact mb_X0_addRow_54 N t0 _ hJ
  · have hJ := it_neg c2 hJ
    obtain ⟨a3, ea3, -, hJ⟩ := dr_some hJ
    by_cases c4 : (nI (h.al a3)) ≤ (h.fi 307 t0)
    · have hJ := it_pos c4 hJ
      exact mb_X0_addRow_54 N t0 _ hJ
    · have hJ := it_neg c4 hJ
      obtain ⟨a5, ea5, -, hJ⟩ := dr_some hJ
      obtain ⟨-, hJ⟩ := ck_some hJ
      obtain ⟨a7, ea7, -, hJ⟩ := dr_some hJ
      obtain ⟨-, hJ⟩ := ck_some hJ
      exact (Mo.tr (show Mo h (((h.sai a5 (h.fi 307 t0).toNatClampNeg x1).saw a7 ((h.sai a5 (h.fi 307 t0).toNatClampNeg x1).fi 307 t0).toNatClampNeg x2).sfi 307 t0 ((((h.sai a5 (h.fi 307 t0).toNatClampNeg x1).saw a7 ((h.sai a5 (h.fi 307 t0).toNatClampNeg x1).fi 307 t0).toNatClampNeg x2).fi 307 t0) + (1 : Int32))) from ⟨fun _ _ => rfl, Nat.le_refl _, Nat.le_refl _, rfl, fun _ _ => rfl⟩) (mb_X0_addRow_54 N t0 _ hJ))
set_option maxRecDepth 100000 in
set_option maxHeartbeats 4000000 in
theorem sb_X0_addRow_0 (C : Cx p s m args meth c cX0_addRow 4 none RX0 D cs A h0.se) (hz2 : hz.nx ≤ h0.nx + mc ∧ hz.su ≤ h0.su + ms) (N : Nat) (t0 : Nat) (h : Hp) (x1 : Int32) (x2 : Int64) (hJ : B_X0_addRow_0 N t0 h x1 x2 = some (hz, ())) (hk0 : h.kd t0 = 3) {H : Heap} {locs : List Loc} {cells slots : Nat} (w : Wo D cs A s h0 h H locs cells slots) {ls : Array Slot} (hl : lv_has ls 4 [(0, .ref t0), (1, .int x1), (2, .long x2)]) : W p l e { frames := 0, cells := mc, slots := ms, locals := 0 } s m args below meth c H locs cells slots (MQ below (Zv D cs A hz) args s mc ms A) (F0 m 0 ls []) := by
  obtain ⟨hx, hb, hml, hown, hts, -⟩ := id C
  unfold B_X0_addRow_0 at hJ
  refine lv_aload_n hx hb dX0_addRow_0 rfl (lv_at hl 0 rfl) ?_
  refine fg_307 C w hk0 tw_1_103 dX0_addRow_1 ?_
  refine lv_aload_n hx hb dX0_addRow_4 rfl (lv_at hl 0 rfl) ?_
  refine fg_308 C w hk0 tw_1_105 dX0_addRow_5 ?_
  obtain ⟨a1, ea1, hka1, hJ⟩ := dr_some hJ
  rw [ea1]
  refine jr_alen C w hka1 (by decide) dX0_addRow_8 ?_
  refine lv_icmp_ge (tgt := 54) hx hb dX0_addRow_9 (by decide) (fun c2 => ?_) (fun c2 => ?_)
  · have hJ := it_pos c2 hJ
    exact sb_X0_addRow_54 C hz2 N t0 _ hJ hk0 w (lv_sub (l' := [(0, .ref t0)]) hl [0] rfl)
  · have hJ := it_neg c2 hJ
    refine lv_aload_n hx hb dX0_addRow_12 rfl (lv_at hl 0 rfl) ?_
    refine fg_307 C w hk0 tw_1_103 dX0_addRow_13 ?_
    refine lv_aload_n hx hb dX0_addRow_16 rfl (lv_at hl 0 rfl) ?_
    refine fg_309 C w hk0 tw_1_107 dX0_addRow_17 ?_
    obtain ⟨a3, ea3, hka3, hJ⟩ := dr_some hJ
    rw [ea3]
    refine jr_alen C w hka3 (by decide) dX0_addRow_20 ?_
    refine lv_icmp_ge (tgt := 54) hx hb dX0_addRow_21 (by decide) (fun c4 => ?_) (fun c4 => ?_)
    · have hJ := it_pos c4 hJ
      exact sb_X0_addRow_54 C hz2 N t0 _ hJ hk0 w (lv_sub (l' := [(0, .ref t0)]) hl [0] rfl)
    · have hJ := it_neg c4 hJ
      refine lv_aload_n hx hb dX0_addRow_24 rfl (lv_at hl 0 rfl) ?_
      refine fg_308 C w hk0 tw_1_105 dX0_addRow_25 ?_
      refine lv_aload_n hx hb dX0_addRow_28 rfl (lv_at hl 0 rfl) ?_
      refine fg_307 C w hk0 tw_1_103 dX0_addRow_29 ?_
      refine lv_iload_n hx hb dX0_addRow_32 rfl (lv_at hl 1 rfl) ?_
      obtain ⟨a5, ea5, hka5, hJ⟩ := dr_some hJ
      rw [ea5]
      obtain ⟨hi6, hJ⟩ := ck_some hJ
      refine jr_iast C w hka5 hi6 dX0_addRow_33 (fun H locs w => ?_)
      refine lv_aload_n hx hb dX0_addRow_34 rfl (lv_at hl 0 rfl) ?_
      refine fg_309 C w hk0 tw_1_107 dX0_addRow_35 ?_
      refine lv_aload_n hx hb dX0_addRow_38 rfl (lv_at hl 0 rfl) ?_
      refine fg_307 C w hk0 tw_1_103 dX0_addRow_39 ?_
      refine lv_lload_n hx hb dX0_addRow_42 rfl (lv_at hl 2 rfl) ?_
      obtain ⟨a7, ea7, hka7, hJ⟩ := dr_some hJ
      rw [ea7]
      obtain ⟨hi8, hJ⟩ := ck_some hJ
      refine jr_last C w hka7 hi8 dX0_addRow_43 (fun H locs w => ?_)
      refine lv_aload_n hx hb dX0_addRow_44 rfl (lv_at hl 0 rfl) ?_
      refine lv_dup hx hb dX0_addRow_45 rfl ?_
      refine fg_307 C w hk0 tw_1_103 dX0_addRow_46 ?_
      refine lv_iconst (v := (1 : Int32)) hx hb dX0_addRow_49 (by decide) ?_
      refine lv_iadd hx hb dX0_addRow_50 ?_
      refine fp_307 (x := (((h.sai a5 (h.fi 307 t0).toNatClampNeg x1).saw a7 ((h.sai a5 (h.fi 307 t0).toNatClampNeg x1).fi 307 t0).toNatClampNeg x2).fi 307 t0) + (1 : Int32)) C w hk0 tw_1_103 dX0_addRow_51 (fun H locs w => ?_)
      exact sb_X0_addRow_54 C hz2 N t0 _ hJ hk0 w (lv_sub (l' := [(0, .ref t0)]) hl [0] rfl)
def J_X0_addRow (N : Nat) (t0 : Nat) (h : Hp) (x1 : Int32) (x2 : Int64) : Option (Hp × Unit) := B_X0_addRow_0 N t0 h x1 x2
theorem mo_X0_addRow (N : Nat) (t0 : Nat) (h : Hp) (x1 : Int32) (x2 : Int64) (hJ : J_X0_addRow N t0 h x1 x2 = some (hz, ())) : Mo h hz := mb_X0_addRow_0 N t0 h x1 x2 hJ
theorem cd_X0_addRow : Cd yX0_addRow 2 := ⟨by decide +kernel, by decide +kernel, by decide +kernel⟩
theorem cc_X0_addRow (N : Nat) (t0 : Nat) (h : Hp) (x1 : Int32) (x2 : Int64) (hk0 : h.kd t0 = 3) (hJ : J_X0_addRow N t0 h x1 x2 = some (hz, ())) : Cv l yX0_addRow cX0_addRow 4 none 0 0 D cs h hz [.ref t0, .int x1, .long x2] := by
  intro mc ms g1 g2
  refine je_any (by decide) (by simp [lg_sl, rf_cat, cat_i, cat_l, cat_r]) ?_
  intro p e s m args below meth c C hin2 w ls hl
  have hl : lv_has ls 4 [(0, .ref t0), (1, .int x1), (2, .long x2)] := hl
  exact sb_X0_addRow_0 C ⟨g1, g2⟩ N t0 h x1 x2 hJ hk0 w hl
end G_X0_addRow
section G_X0_hasRow
variable {p : Program} {l : Launch} {e : Env} {s : State} {m : MethodId} {args : Array Value} {below : List Frame} {meth : Method} {c : Code} {D : va_G} {cs : C4} {A : Nat → Prop} {h0 hz : Hp} {mc ms : Nat} {rz : Int32}
def B_X0_hasRow_35 (N : Nat) (t0 : Nat) (h : Hp) (y0 : Int32) : Option (Hp × Int32) := ck (y0 = 0 ∨ y0 = 1) (some (h, y0))
theorem mb_X0_hasRow_35 (N : Nat) (t0 : Nat) (h : Hp) (y0 : Int32) (hJ : B_X0_hasRow_35 N t0 h y0 = some (hz, rz)) : Mo h hz := by
  unfold B_X0_hasRow_35 at hJ
  obtain ⟨-, hJ⟩ := ck_some hJ
  obtain ⟨rfl, -⟩ := rs2 hJ
  exact ⟨fun _ _ => rfl, Nat.le_refl _, Nat.le_refl _, rfl, fun _ _ => rfl⟩
set_option maxRecDepth 100000 in
set_option maxHeartbeats 4000000 in
theorem sb_X0_hasRow_35 (C : Cx p s m args meth c cX0_hasRow 2 (some .boolean) RX0 D cs A h0.se) (hz2 : hz.nx ≤ h0.nx + mc ∧ hz.su ≤ h0.su + ms) (N : Nat) (t0 : Nat) (h : Hp) (y0 : Int32) (hJ : B_X0_hasRow_35 N t0 h y0 = some (hz, rz)) (hk0 : h.kd t0 = 3) {H : Heap} {locs : List Loc} {cells slots : Nat} (w : Wo D cs A s h0 h H locs cells slots) {ls : Array Slot} (hl : lv_has ls 2 [(0, .ref t0)]) : W p l e { frames := 0, cells := mc, slots := ms, locals := 0 } s m args below meth c H locs cells slots (MQ below (Zi D cs A hz rz) args s mc ms A) (F0 m 35 ls [.int y0]) := by
  obtain ⟨hx, hb, hml, hown, hts, -⟩ := id C
  unfold B_X0_hasRow_35 at hJ
  obtain ⟨hzo1, hJ⟩ := ck_some hJ
  obtain ⟨rfl, rfl⟩ := rs2 hJ
  exact jr_zret C w hzo1 hz2 dX0_hasRow_35
def B_X0_hasRow_34 (N : Nat) (t0 : Nat) (h : Hp) : Option (Hp × Int32) := B_X0_hasRow_35 N t0 h (0 : Int32)
theorem mb_X0_hasRow_34 (N : Nat) (t0 : Nat) (h : Hp) (hJ : B_X0_hasRow_34 N t0 h = some (hz, rz)) : Mo h hz := by
  unfold B_X0_hasRow_34 at hJ
  exact mb_X0_hasRow_35 N t0 _ _ hJ
set_option maxRecDepth 100000 in
set_option maxHeartbeats 4000000 in
theorem sb_X0_hasRow_34 (C : Cx p s m args meth c cX0_hasRow 2 (some .boolean) RX0 D cs A h0.se) (hz2 : hz.nx ≤ h0.nx + mc ∧ hz.su ≤ h0.su + ms) (N : Nat) (t0 : Nat) (h : Hp) (hJ : B_X0_hasRow_34 N t0 h = some (hz, rz)) (hk0 : h.kd t0 = 3) {H : Heap} {locs : List Loc} {cells slots : Nat} (w : Wo D cs A s h0 h H locs cells slots) {ls : Array Slot} (hl : lv_has ls 2 [(0, .ref t0)]) : W p l e { frames := 0, cells := mc, slots := ms, locals := 0 } s m args below meth c H locs cells slots (MQ below (Zi D cs A hz rz) args s mc ms A) (F0 m 34 ls []) := by
  obtain ⟨hx, hb, hml, hown, hts, -⟩ := id C
  unfold B_X0_hasRow_34 at hJ
  refine lv_iconst (v := (0 : Int32)) hx hb dX0_hasRow_34 (by decide) ?_
  exact sb_X0_hasRow_35 C hz2 N t0 _ _ hJ hk0 w hl
def B_X0_hasRow_0 (N : Nat) (t0 : Nat) (h : Hp) (x1 : Int32) : Option (Hp × Int32) := if x1 < 0 then (B_X0_hasRow_34 N t0 h) else (if (h.fi 307 t0) ≤ x1 then (B_X0_hasRow_34 N t0 h) else (dr h 20 (h.fr 308 t0) (fun a4 => if (nI (h.al a4)) ≤ x1 then (B_X0_hasRow_34 N t0 h) else (dr h 21 (h.fr 309 t0) (fun a6 => if (nI (h.al a6)) ≤ x1 then (B_X0_hasRow_34 N t0 h) else (B_X0_hasRow_35 N t0 h (1 : Int32)))))))
theorem mb_X0_hasRow_0 (N : Nat) (t0 : Nat) (h : Hp) (x1 : Int32) (hJ : B_X0_hasRow_0 N t0 h x1 = some (hz, rz)) : Mo h hz := by
  unfold B_X0_hasRow_0 at hJ
  by_cases c2 : x1 < 0
  · have hJ := it_pos c2 hJ
    exact mb_X0_hasRow_34 N t0 _ hJ
  · have hJ := it_neg c2 hJ
    by_cases c3 : (h.fi 307 t0) ≤ x1
    · have hJ := it_pos c3 hJ
      exact mb_X0_hasRow_34 N t0 _ hJ
    · have hJ := it_neg c3 hJ
      obtain ⟨a4, ea4, -, hJ⟩ := dr_some hJ
      by_cases c5 : (nI (h.al a4)) ≤ x1
      · have hJ := it_pos c5 hJ
        exact mb_X0_hasRow_34 N t0 _ hJ
      · have hJ := it_neg c5 hJ
        obtain ⟨a6, ea6, -, hJ⟩ := dr_some hJ
        by_cases c7 : (nI (h.al a6)) ≤ x1
        · have hJ := it_pos c7 hJ
          exact mb_X0_hasRow_34 N t0 _ hJ
        · have hJ := it_neg c7 hJ
          exact mb_X0_hasRow_35 N t0 _ _ hJ
set_option maxRecDepth 100000 in
set_option maxHeartbeats 4000000 in
theorem sb_X0_hasRow_0 (C : Cx p s m args meth c cX0_hasRow 2 (some .boolean) RX0 D cs A h0.se) (hz2 : hz.nx ≤ h0.nx + mc ∧ hz.su ≤ h0.su + ms) (N : Nat) (t0 : Nat) (h : Hp) (x1 : Int32) (hJ : B_X0_hasRow_0 N t0 h x1 = some (hz, rz)) (hk0 : h.kd t0 = 3) {H : Heap} {locs : List Loc} {cells slots : Nat} (w : Wo D cs A s h0 h H locs cells slots) {ls : Array Slot} (hl : lv_has ls 2 [(0, .ref t0), (1, .int x1)]) : W p l e { frames := 0, cells := mc, slots := ms, locals := 0 } s m args below meth c H locs cells slots (MQ below (Zi D cs A hz rz) args s mc ms A) (F0 m 0 ls []) := by
  obtain ⟨hx, hb, hml, hown, hts, -⟩ := id C
  unfold B_X0_hasRow_0 at hJ
  refine lv_iload_n hx hb dX0_hasRow_0 rfl (lv_at hl 1 rfl) ?_
  refine lv_if_lt (tgt := 34) hx hb dX0_hasRow_1 (by decide) (fun c2 => ?_) (fun c2 => ?_)
  · have hJ := it_pos c2 hJ
    exact sb_X0_hasRow_34 C hz2 N t0 _ hJ hk0 w (lv_sub (l' := [(0, .ref t0)]) hl [0] rfl)
  · have hJ := it_neg c2 hJ
    refine lv_iload_n hx hb dX0_hasRow_4 rfl (lv_at hl 1 rfl) ?_
    refine lv_aload_n hx hb dX0_hasRow_5 rfl (lv_at hl 0 rfl) ?_
    refine fg_307 C w hk0 tw_1_103 dX0_hasRow_6 ?_
    refine lv_icmp_ge (tgt := 34) hx hb dX0_hasRow_9 (by decide) (fun c3 => ?_) (fun c3 => ?_)
    · have hJ := it_pos c3 hJ
      exact sb_X0_hasRow_34 C hz2 N t0 _ hJ hk0 w (lv_sub (l' := [(0, .ref t0)]) hl [0] rfl)
    · have hJ := it_neg c3 hJ
      refine lv_iload_n hx hb dX0_hasRow_12 rfl (lv_at hl 1 rfl) ?_
      refine lv_aload_n hx hb dX0_hasRow_13 rfl (lv_at hl 0 rfl) ?_
      refine fg_308 C w hk0 tw_1_105 dX0_hasRow_14 ?_
      obtain ⟨a4, ea4, hka4, hJ⟩ := dr_some hJ
      rw [ea4]
      refine jr_alen C w hka4 (by decide) dX0_hasRow_17 ?_
      refine lv_icmp_ge (tgt := 34) hx hb dX0_hasRow_18 (by decide) (fun c5 => ?_) (fun c5 => ?_)
      · have hJ := it_pos c5 hJ
        exact sb_X0_hasRow_34 C hz2 N t0 _ hJ hk0 w (lv_sub (l' := [(0, .ref t0)]) hl [0] rfl)
      · have hJ := it_neg c5 hJ
        refine lv_iload_n hx hb dX0_hasRow_21 rfl (lv_at hl 1 rfl) ?_
        refine lv_aload_n hx hb dX0_hasRow_22 rfl (lv_at hl 0 rfl) ?_
        refine fg_309 C w hk0 tw_1_107 dX0_hasRow_23 ?_
        obtain ⟨a6, ea6, hka6, hJ⟩ := dr_some hJ
        rw [ea6]
        refine jr_alen C w hka6 (by decide) dX0_hasRow_26 ?_
        refine lv_icmp_ge (tgt := 34) hx hb dX0_hasRow_27 (by decide) (fun c7 => ?_) (fun c7 => ?_)
        · have hJ := it_pos c7 hJ
          exact sb_X0_hasRow_34 C hz2 N t0 _ hJ hk0 w (lv_sub (l' := [(0, .ref t0)]) hl [0] rfl)
        · have hJ := it_neg c7 hJ
          refine lv_iconst (v := (1 : Int32)) hx hb dX0_hasRow_30 (by decide) ?_
          refine lv_goto (tgt := 35) hx hb dX0_hasRow_31 (by decide) ?_
          exact sb_X0_hasRow_35 C hz2 N t0 _ _ hJ hk0 w (lv_sub (l' := [(0, .ref t0)]) hl [0] rfl)
def J_X0_hasRow (N : Nat) (t0 : Nat) (h : Hp) (x1 : Int32) : Option (Hp × Int32) := B_X0_hasRow_0 N t0 h x1
theorem mo_X0_hasRow (N : Nat) (t0 : Nat) (h : Hp) (x1 : Int32) (hJ : J_X0_hasRow N t0 h x1 = some (hz, rz)) : Mo h hz := mb_X0_hasRow_0 N t0 h x1 hJ
theorem cd_X0_hasRow : Cd yX0_hasRow 1 := ⟨by decide +kernel, by decide +kernel, by decide +kernel⟩
theorem cc_X0_hasRow (N : Nat) (t0 : Nat) (h : Hp) (x1 : Int32) (hk0 : h.kd t0 = 3) (hJ : J_X0_hasRow N t0 h x1 = some (hz, rz)) : Ci l yX0_hasRow cX0_hasRow 2 (some .boolean) 0 0 D cs h hz [.ref t0, .int x1] rz := by
  intro mc ms g1 g2
  refine je_any (by decide) (by simp [lg_sl, rf_cat, cat_i, cat_l, cat_r]) ?_
  intro p e s m args below meth c C hin2 w ls hl
  have hl : lv_has ls 2 [(0, .ref t0), (1, .int x1)] := hl
  exact sb_X0_hasRow_0 C ⟨g1, g2⟩ N t0 h x1 hJ hk0 w hl
end G_X0_hasRow
section G_X0_tellsAs
variable {p : Program} {l : Launch} {e : Env} {s : State} {m : MethodId} {args : Array Value} {below : List Frame} {meth : Method} {c : Code} {D : va_G} {cs : C4} {A : Nat → Prop} {h0 hz : Hp} {mc ms : Nat} {rz : Int32}
def B_X0_tellsAs_33 (N : Nat) (t0 : Nat) (h : Hp) : Option (Hp × Int32) := some (h, (0 : Int32))
theorem mb_X0_tellsAs_33 (N : Nat) (t0 : Nat) (h : Hp) (hJ : B_X0_tellsAs_33 N t0 h = some (hz, rz)) : Mo h hz := by
  unfold B_X0_tellsAs_33 at hJ
  obtain ⟨rfl, -⟩ := rs2 hJ
  exact ⟨fun _ _ => rfl, Nat.le_refl _, Nat.le_refl _, rfl, fun _ _ => rfl⟩
set_option maxRecDepth 100000 in
set_option maxHeartbeats 4000000 in
theorem sb_X0_tellsAs_33 (C : Cx p s m args meth c cX0_tellsAs 3 (some .boolean) RX0 D cs A h0.se) (hz2 : hz.nx ≤ h0.nx + mc ∧ hz.su ≤ h0.su + ms) (N : Nat) (t0 : Nat) (h : Hp) (hJ : B_X0_tellsAs_33 N t0 h = some (hz, rz)) (hk0 : h.kd t0 = 3) {H : Heap} {locs : List Loc} {cells slots : Nat} (w : Wo D cs A s h0 h H locs cells slots) {ls : Array Slot} (hl : lv_has ls 3 [(0, .ref t0)]) : W p l e { frames := 1, cells := mc, slots := ms, locals := 30 } s m args below meth c H locs cells slots (MQ below (Zi D cs A hz rz) args s mc ms A) (F0 m 33 ls []) := by
  obtain ⟨hx, hb, hml, hown, hts, -⟩ := id C
  unfold B_X0_tellsAs_33 at hJ
  refine lv_iconst (v := (0 : Int32)) hx hb dX0_tellsAs_33 (by decide) ?_
  obtain ⟨rfl, rfl⟩ := rs2 hJ
  exact jr_zret C w (Or.inl rfl) hz2 dX0_tellsAs_34
def B_X0_tellsAs_58 (N : Nat) (t0 : Nat) (h : Hp) : Option (Hp × Int32) := some (h, (0 : Int32))
theorem mb_X0_tellsAs_58 (N : Nat) (t0 : Nat) (h : Hp) (hJ : B_X0_tellsAs_58 N t0 h = some (hz, rz)) : Mo h hz := by
  unfold B_X0_tellsAs_58 at hJ
  obtain ⟨rfl, -⟩ := rs2 hJ
  exact ⟨fun _ _ => rfl, Nat.le_refl _, Nat.le_refl _, rfl, fun _ _ => rfl⟩
set_option maxRecDepth 100000 in
set_option maxHeartbeats 4000000 in
theorem sb_X0_tellsAs_58 (C : Cx p s m args meth c cX0_tellsAs 3 (some .boolean) RX0 D cs A h0.se) (hz2 : hz.nx ≤ h0.nx + mc ∧ hz.su ≤ h0.su + ms) (N : Nat) (t0 : Nat) (h : Hp) (hJ : B_X0_tellsAs_58 N t0 h = some (hz, rz)) (hk0 : h.kd t0 = 3) {H : Heap} {locs : List Loc} {cells slots : Nat} (w : Wo D cs A s h0 h H locs cells slots) {ls : Array Slot} (hl : lv_has ls 3 [(0, .ref t0)]) : W p l e { frames := 1, cells := mc, slots := ms, locals := 30 } s m args below meth c H locs cells slots (MQ below (Zi D cs A hz rz) args s mc ms A) (F0 m 58 ls []) := by
  obtain ⟨hx, hb, hml, hown, hts, -⟩ := id C
  unfold B_X0_tellsAs_58 at hJ
  refine lv_iconst (v := (0 : Int32)) hx hb dX0_tellsAs_58 (by decide) ?_
  obtain ⟨rfl, rfl⟩ := rs2 hJ
  exact jr_zret C w (Or.inl rfl) hz2 dX0_tellsAs_59
def B_X0_tellsAs_117 (N : Nat) (t0 : Nat) (h : Hp) : Option (Hp × Int32) := some (h, (0 : Int32))
theorem mb_X0_tellsAs_117 (N : Nat) (t0 : Nat) (h : Hp) (hJ : B_X0_tellsAs_117 N t0 h = some (hz, rz)) : Mo h hz := by
  unfold B_X0_tellsAs_117 at hJ
  obtain ⟨rfl, -⟩ := rs2 hJ
  exact ⟨fun _ _ => rfl, Nat.le_refl _, Nat.le_refl _, rfl, fun _ _ => rfl⟩
set_option maxRecDepth 100000 in
set_option maxHeartbeats 4000000 in
theorem sb_X0_tellsAs_117 (C : Cx p s m args meth c cX0_tellsAs 3 (some .boolean) RX0 D cs A h0.se) (hz2 : hz.nx ≤ h0.nx + mc ∧ hz.su ≤ h0.su + ms) (N : Nat) (t0 : Nat) (h : Hp) (hJ : B_X0_tellsAs_117 N t0 h = some (hz, rz)) (hk0 : h.kd t0 = 3) {H : Heap} {locs : List Loc} {cells slots : Nat} (w : Wo D cs A s h0 h H locs cells slots) {ls : Array Slot} (hl : lv_has ls 3 [(0, .ref t0)]) : W p l e { frames := 1, cells := mc, slots := ms, locals := 30 } s m args below meth c H locs cells slots (MQ below (Zi D cs A hz rz) args s mc ms A) (F0 m 117 ls []) := by
  obtain ⟨hx, hb, hml, hown, hts, -⟩ := id C
  unfold B_X0_tellsAs_117 at hJ
  refine lv_iconst (v := (0 : Int32)) hx hb dX0_tellsAs_117 (by decide) ?_
  obtain ⟨rfl, rfl⟩ := rs2 hJ
  exact jr_zret C w (Or.inl rfl) hz2 dX0_tellsAs_118
def B_X0_tellsAs_125 (N : Nat) (t0 : Nat) (h : Hp) : Option (Hp × Int32) := some (h, (1 : Int32))
theorem mb_X0_tellsAs_125 (N : Nat) (t0 : Nat) (h : Hp) (hJ : B_X0_tellsAs_125 N t0 h = some (hz, rz)) : Mo h hz := by
  unfold B_X0_tellsAs_125 at hJ
  obtain ⟨rfl, -⟩ := rs2 hJ
  exact ⟨fun _ _ => rfl, Nat.le_refl _, Nat.le_refl _, rfl, fun _ _ => rfl⟩
set_option maxRecDepth 100000 in
set_option maxHeartbeats 4000000 in
theorem sb_X0_tellsAs_125 (C : Cx p s m args meth c cX0_tellsAs 3 (some .boolean) RX0 D cs A h0.se) (hz2 : hz.nx ≤ h0.nx + mc ∧ hz.su ≤ h0.su + ms) (N : Nat) (t0 : Nat) (h : Hp) (hJ : B_X0_tellsAs_125 N t0 h = some (hz, rz)) (hk0 : h.kd t0 = 3) {H : Heap} {locs : List Loc} {cells slots : Nat} (w : Wo D cs A s h0 h H locs cells slots) {ls : Array Slot} (hl : lv_has ls 3 [(0, .ref t0)]) : W p l e { frames := 1, cells := mc, slots := ms, locals := 30 } s m args below meth c H locs cells slots (MQ below (Zi D cs A hz rz) args s mc ms A) (F0 m 125 ls []) := by
  obtain ⟨hx, hb, hml, hown, hts, -⟩ := id C
  unfold B_X0_tellsAs_125 at hJ
  refine lv_iconst (v := (1 : Int32)) hx hb dX0_tellsAs_125 (by decide) ?_
  obtain ⟨rfl, rfl⟩ := rs2 hJ
  exact jr_zret C w (Or.inr rfl) hz2 dX0_tellsAs_126
def B_X0_tellsAs_83 (N : Nat) (k62 : Hp → (Option Nat) → Int32 → Option (Hp × Int32)) (t0 : Nat) (h : Hp) (x1 : Option Nat) (x2 : Int32) (y0 : Int32) : Option (Hp × Int32) := if y0 = 0 then (B_X0_tellsAs_125 N t0 h) else (dr h 20 (h.fr 308 t0) (fun a2 => ck (¬ (x2 < 0 ∨ h.al a2 ≤ x2.toNatClampNeg)) (dr h 3 x1 (fun a4 => dr h 20 (h.fr 308 a4) (fun a5 => ck (¬ (x2 < 0 ∨ h.al a5 ≤ x2.toNatClampNeg)) (if (h.ai a2 x2.toNatClampNeg) = (h.ai a5 x2.toNatClampNeg) then (dr h 21 (h.fr 309 t0) (fun a8 => ck (¬ (x2 < 0 ∨ h.al a8 ≤ x2.toNatClampNeg)) (dr h 21 (h.fr 309 a4) (fun a10 => ck (¬ (x2 < 0 ∨ h.al a10 ≤ x2.toNatClampNeg)) (if (lg_cmp (h.aw a8 x2.toNatClampNeg) (h.aw a10 x2.toNatClampNeg)) = 0 then (k62 h (some a4) (x2 + (1 : Int32))) else (B_X0_tellsAs_117 N t0 h)))))) else (B_X0_tellsAs_117 N t0 h)))))))
theorem mb_X0_tellsAs_83 (N : Nat) (k62 : Hp → (Option Nat) → Int32 → Option (Hp × Int32)) (t0 : Nat) (h : Hp) (x1 : Option Nat) (x2 : Int32) (y0 : Int32) (m62 : ∀ (h : Hp) (x1 : Option Nat) (x2 : Int32), k62 h x1 x2 = some (hz, rz) → Mo h hz) (hJ : B_X0_tellsAs_83 N k62 t0 h x1 x2 y0 = some (hz, rz)) : Mo h hz := by
  unfold B_X0_tellsAs_83 at hJ
  by_cases c1 : y0 = 0
  · have hJ := it_pos c1 hJ
    exact mb_X0_tellsAs_125 N t0 _ hJ
  · have hJ := it_neg c1 hJ
    obtain ⟨a2, ea2, -, hJ⟩ := dr_some hJ
    obtain ⟨-, hJ⟩ := ck_some hJ
    obtain ⟨a4, ea4, -, hJ⟩ := dr_some hJ
    obtain ⟨a5, ea5, -, hJ⟩ := dr_some hJ
    obtain ⟨-, hJ⟩ := ck_some hJ
    by_cases c7 : (h.ai a2 x2.toNatClampNeg) = (h.ai a5 x2.toNatClampNeg)
    · have hJ := it_pos c7 hJ
      obtain ⟨a8, ea8, -, hJ⟩ := dr_some hJ
      obtain ⟨-, hJ⟩ := ck_some hJ
      obtain ⟨a10, ea10, -, hJ⟩ := dr_some hJ
      obtain ⟨-, hJ⟩ := ck_some hJ
      by_cases c12 : (lg_cmp (h.aw a8 x2.toNatClampNeg) (h.aw a10 x2.toNatClampNeg)) = 0
      · have hJ := it_pos c12 hJ
        exact m62 _ _ _ hJ
      · have hJ := it_neg c12 hJ
        exact mb_X0_tellsAs_117 N t0 _ hJ
    · have hJ := it_neg c7 hJ
      exact mb_X0_tellsAs_117 N t0 _ hJ
set_option maxRecDepth 100000 in
set_option maxHeartbeats 4000000 in
theorem sb_X0_tellsAs_83 (C : Cx p s m args meth c cX0_tellsAs 3 (some .boolean) RX0 D cs A h0.se) (hz2 : hz.nx ≤ h0.nx + mc ∧ hz.su ≤ h0.su + ms) (N : Nat) (k62 : Hp → (Option Nat) → Int32 → Option (Hp × Int32)) (t0 : Nat) (m62 : ∀ (h : Hp) (x1 : Option Nat) (x2 : Int32), k62 h x1 x2 = some (hz, rz) → Mo h hz) (i62 : ∀ (h : Hp) (x1 : Option Nat) (x2 : Int32) (H : Heap) (locs : List Loc) (cells slots : Nat) (ls : Array Slot), k62 h x1 x2 = some (hz, rz) → h.kd t0 = 3 → Wo D cs A s h0 h H locs cells slots → lv_has ls 3 [(0, .ref t0), (1, va_rf x1), (2, .int x2)] → W p l e { frames := 1, cells := mc, slots := ms, locals := 30 } s m args below meth c H locs cells slots (MQ below (Zi D cs A hz rz) args s mc ms A) (F0 m 62 ls [])) (h : Hp) (x1 : Option Nat) (x2 : Int32) (y0 : Int32) (hJ : B_X0_tellsAs_83 N k62 t0 h x1 x2 y0 = some (hz, rz)) (hk0 : h.kd t0 = 3) {H : Heap} {locs : List Loc} {cells slots : Nat} (w : Wo D cs A s h0 h H locs cells slots) {ls : Array Slot} (hl : lv_has ls 3 [(0, .ref t0), (1, va_rf x1), (2, .int x2)]) : W p l e { frames := 1, cells := mc, slots := ms, locals := 30 } s m args below meth c H locs cells slots (MQ below (Zi D cs A hz rz) args s mc ms A) (F0 m 83 ls [.int y0]) := by
  obtain ⟨hx, hb, hml, hown, hts, -⟩ := id C
  unfold B_X0_tellsAs_83 at hJ
  refine lv_if_eq (tgt := 125) hx hb dX0_tellsAs_83 (by decide) (fun c1 => ?_) (fun c1 => ?_)
  · have hJ := it_pos c1 hJ
    exact sb_X0_tellsAs_125 C hz2 N t0 _ hJ hk0 w (lv_sub (l' := [(0, .ref t0)]) hl [0] rfl)
  · have hJ := it_neg c1 hJ
    refine lv_aload_n hx hb dX0_tellsAs_86 rfl (lv_at hl 0 rfl) ?_
    refine fg_308 C w hk0 tw_1_105 dX0_tellsAs_87 ?_
    refine lv_iload_n hx hb dX0_tellsAs_90 rfl (lv_at hl 2 rfl) ?_
    obtain ⟨a2, ea2, hka2, hJ⟩ := dr_some hJ
    rw [ea2]
    obtain ⟨hi3, hJ⟩ := ck_some hJ
    refine jr_iald C w hka2 hi3 dX0_tellsAs_91 ?_
    refine jv_aload_n hx hb dX0_tellsAs_92 rfl (lv_at hl 1 rfl) ?_
    obtain ⟨a4, ea4, hka4, hJ⟩ := dr_some hJ
    rw [ea4] at hl
    rw [ea4]
    refine fg_308 C w hka4 tw_1_105 dX0_tellsAs_93 ?_
    refine lv_iload_n hx hb dX0_tellsAs_96 rfl (lv_at hl 2 rfl) ?_
    obtain ⟨a5, ea5, hka5, hJ⟩ := dr_some hJ
    rw [ea5]
    obtain ⟨hi6, hJ⟩ := ck_some hJ
    refine jr_iald C w hka5 hi6 dX0_tellsAs_97 ?_
    refine lv_icmp_ne (tgt := 117) hx hb dX0_tellsAs_98 (by decide) (fun c7 => ?_) (fun c7 => ?_)
    · have hJ := it_neg c7 hJ
      exact sb_X0_tellsAs_117 C hz2 N t0 _ hJ hk0 w (lv_sub (l' := [(0, .ref t0)]) hl [0] rfl)
    · have hJ := it_pos c7 hJ
      refine lv_aload_n hx hb dX0_tellsAs_101 rfl (lv_at hl 0 rfl) ?_
      refine fg_309 C w hk0 tw_1_107 dX0_tellsAs_102 ?_
      refine lv_iload_n hx hb dX0_tellsAs_105 rfl (lv_at hl 2 rfl) ?_
      obtain ⟨a8, ea8, hka8, hJ⟩ := dr_some hJ
      rw [ea8]
      obtain ⟨hi9, hJ⟩ := ck_some hJ
      refine jr_lald C w hka8 hi9 dX0_tellsAs_106 ?_
      refine lv_aload_n hx hb dX0_tellsAs_107 rfl (lv_at hl 1 rfl) ?_
      refine fg_309 C w hka4 tw_1_107 dX0_tellsAs_108 ?_
      refine lv_iload_n hx hb dX0_tellsAs_111 rfl (lv_at hl 2 rfl) ?_
      obtain ⟨a10, ea10, hka10, hJ⟩ := dr_some hJ
      rw [ea10]
      obtain ⟨hi11, hJ⟩ := ck_some hJ
      refine jr_lald C w hka10 hi11 dX0_tellsAs_112 ?_
      refine W.lcmp hx hb dX0_tellsAs_113 ?_
      refine lv_if_eq (tgt := 119) hx hb dX0_tellsAs_114 (by decide) (fun c12 => ?_) (fun c12 => ?_)
      · have hJ := it_pos c12 hJ
        refine lv_iinc (v := x2 + (1 : Int32)) (lv' := [(2, .int (x2 + (1 : Int32))), (0, .ref t0), (1, .ref a4)]) hx hb dX0_tellsAs_119 hl (k := 2) rfl rfl (by decide) rfl (fun ls hl => ?_)
        refine lv_goto (tgt := 62) hx hb dX0_tellsAs_122 (by decide) ?_
        exact i62 _ _ _ _ _ _ _ _ hJ hk0 w (lv_sub (l' := [(0, .ref t0), (1, .ref a4), (2, .int (x2 + (1 : Int32)))]) hl [1, 2, 0] rfl)
      · have hJ := it_neg c12 hJ
        exact sb_X0_tellsAs_117 C hz2 N t0 _ hJ hk0 w (lv_sub (l' := [(0, .ref t0)]) hl [0] rfl)
def B_X0_tellsAs_75 (N : Nat) (k62 : Hp → (Option Nat) → Int32 → Option (Hp × Int32)) (t0 : Nat) (h : Hp) (x1 : Option Nat) (x2 : Int32) (y0 : Int32) : Option (Hp × Int32) := if y0 = 0 then (B_X0_tellsAs_125 N t0 h) else (dr h 3 x1 (fun a14 => (J_X0_hasRow N a14 h x2).bind (fun z => B_X0_tellsAs_83 N k62 t0 z.1 (some a14) x2 z.2)))
theorem mb_X0_tellsAs_75 (N : Nat) (k62 : Hp → (Option Nat) → Int32 → Option (Hp × Int32)) (t0 : Nat) (h : Hp) (x1 : Option Nat) (x2 : Int32) (y0 : Int32) (m62 : ∀ (h : Hp) (x1 : Option Nat) (x2 : Int32), k62 h x1 x2 = some (hz, rz) → Mo h hz) (hJ : B_X0_tellsAs_75 N k62 t0 h x1 x2 y0 = some (hz, rz)) : Mo h hz := by
  unfold B_X0_tellsAs_75 at hJ
  by_cases c13 : y0 = 0
  · have hJ := it_pos c13 hJ
    exact mb_X0_tellsAs_125 N t0 _ hJ
  · have hJ := it_neg c13 hJ
    obtain ⟨a14, ea14, -, hJ⟩ := dr_some hJ
    obtain ⟨⟨h15, r16⟩, e17, hJ⟩ := ob_some hJ
    exact (mo_X0_hasRow N a14 h x2 e17).tr (mb_X0_tellsAs_83 N k62 t0 _ _ _ _ m62 hJ)
set_option maxRecDepth 100000 in
set_option maxHeartbeats 4000000 in
theorem sb_X0_tellsAs_75 (C : Cx p s m args meth c cX0_tellsAs 3 (some .boolean) RX0 D cs A h0.se) (hz2 : hz.nx ≤ h0.nx + mc ∧ hz.su ≤ h0.su + ms) (N : Nat) (k62 : Hp → (Option Nat) → Int32 → Option (Hp × Int32)) (t0 : Nat) (m62 : ∀ (h : Hp) (x1 : Option Nat) (x2 : Int32), k62 h x1 x2 = some (hz, rz) → Mo h hz) (i62 : ∀ (h : Hp) (x1 : Option Nat) (x2 : Int32) (H : Heap) (locs : List Loc) (cells slots : Nat) (ls : Array Slot), k62 h x1 x2 = some (hz, rz) → h.kd t0 = 3 → Wo D cs A s h0 h H locs cells slots → lv_has ls 3 [(0, .ref t0), (1, va_rf x1), (2, .int x2)] → W p l e { frames := 1, cells := mc, slots := ms, locals := 30 } s m args below meth c H locs cells slots (MQ below (Zi D cs A hz rz) args s mc ms A) (F0 m 62 ls [])) (h : Hp) (x1 : Option Nat) (x2 : Int32) (y0 : Int32) (hJ : B_X0_tellsAs_75 N k62 t0 h x1 x2 y0 = some (hz, rz)) (hk0 : h.kd t0 = 3) {H : Heap} {locs : List Loc} {cells slots : Nat} (w : Wo D cs A s h0 h H locs cells slots) {ls : Array Slot} (hl : lv_has ls 3 [(0, .ref t0), (1, va_rf x1), (2, .int x2)]) : W p l e { frames := 1, cells := mc, slots := ms, locals := 30 } s m args below meth c H locs cells slots (MQ below (Zi D cs A hz rz) args s mc ms A) (F0 m 75 ls [.int y0]) := by
  obtain ⟨hx, hb, hml, hown, hts, -⟩ := id C
  unfold B_X0_tellsAs_75 at hJ
  refine lv_if_eq (tgt := 125) hx hb dX0_tellsAs_75 (by decide) (fun c13 => ?_) (fun c13 => ?_)
  · have hJ := it_pos c13 hJ
    exact sb_X0_tellsAs_125 C hz2 N t0 _ hJ hk0 w (lv_sub (l' := [(0, .ref t0)]) hl [0] rfl)
  · have hJ := it_neg c13 hJ
    refine jv_aload_n hx hb dX0_tellsAs_78 rfl (lv_at hl 1 rfl) ?_
    refine lv_iload_n hx hb dX0_tellsAs_79 rfl (lv_at hl 2 rfl) ?_
    obtain ⟨a14, ea14, hka14, hJ⟩ := dr_some hJ
    rw [ea14] at hl
    rw [ea14]
    obtain ⟨⟨h15, r16⟩, e17, hJ⟩ := ob_some hJ
    refine jc_Vi (As := [.int x2]) C w (cc_X0_hasRow N a14 h x2 hka14 e17) (mo_X0_hasRow N a14 h x2 e17) (mb_X0_tellsAs_83 N k62 t0 _ _ _ _ m62 hJ) hz2 hka14 (by decide) rfl (fs := fs3 h a14) rfl rfl ⟨tw_5_80, tw_5_77, tw_5_78, tw_5_79, tw_1_6⟩ cd_X0_hasRow ⟨by decide, by decide⟩ hl.1 (by first | exact Nat.le_of_ble_eq_true rfl | simp [rf_cat, cat_i, cat_l, cat_r]) rfl dX0_tellsAs_80 (fun H locs w1 => ?_)
    have hk18 := kd_keep w (mo_X0_hasRow N a14 h x2 e17) hk0 (by decide)
    have w := w1
    exact sb_X0_tellsAs_83 C hz2 N k62 t0 m62 i62 _ _ _ _ hJ hk18 w hl
def B_X0_tellsAs_62 (N : Nat) (k62 : Hp → (Option Nat) → Int32 → Option (Hp × Int32)) (t0 : Nat) (h : Hp) (x1 : Option Nat) (x2 : Int32) : Option (Hp × Int32) := if (h.fi 307 t0) ≤ x2 then (B_X0_tellsAs_125 N t0 h) else ((J_X0_hasRow N t0 h x2).bind (fun z => B_X0_tellsAs_75 N k62 t0 z.1 x1 x2 z.2))
theorem mb_X0_tellsAs_62 (N : Nat) (k62 : Hp → (Option Nat) → Int32 → Option (Hp × Int32)) (t0 : Nat) (h : Hp) (x1 : Option Nat) (x2 : Int32) (m62 : ∀ (h : Hp) (x1 : Option Nat) (x2 : Int32), k62 h x1 x2 = some (hz, rz) → Mo h hz) (hJ : B_X0_tellsAs_62 N k62 t0 h x1 x2 = some (hz, rz)) : Mo h hz := by
  unfold B_X0_tellsAs_62 at hJ
  by_cases c19 : (h.fi 307 t0) ≤ x2
  · have hJ := it_pos c19 hJ
    exact mb_X0_tellsAs_125 N t0 _ hJ
  · have hJ := it_neg c19 hJ
    obtain ⟨⟨h20, r21⟩, e22, hJ⟩ := ob_some hJ
    exact (mo_X0_hasRow N t0 h x2 e22).tr (mb_X0_tellsAs_75 N k62 t0 _ _ _ _ m62 hJ)
set_option maxRecDepth 100000 in
set_option maxHeartbeats 4000000 in
theorem sb_X0_tellsAs_62 (C : Cx p s m args meth c cX0_tellsAs 3 (some .boolean) RX0 D cs A h0.se) (hz2 : hz.nx ≤ h0.nx + mc ∧ hz.su ≤ h0.su + ms) (N : Nat) (k62 : Hp → (Option Nat) → Int32 → Option (Hp × Int32)) (t0 : Nat) (m62 : ∀ (h : Hp) (x1 : Option Nat) (x2 : Int32), k62 h x1 x2 = some (hz, rz) → Mo h hz) (i62 : ∀ (h : Hp) (x1 : Option Nat) (x2 : Int32) (H : Heap) (locs : List Loc) (cells slots : Nat) (ls : Array Slot), k62 h x1 x2 = some (hz, rz) → h.kd t0 = 3 → Wo D cs A s h0 h H locs cells slots → lv_has ls 3 [(0, .ref t0), (1, va_rf x1), (2, .int x2)] → W p l e { frames := 1, cells := mc, slots := ms, locals := 30 } s m args below meth c H locs cells slots (MQ below (Zi D cs A hz rz) args s mc ms A) (F0 m 62 ls [])) (h : Hp) (x1 : Option Nat) (x2 : Int32) (hJ : B_X0_tellsAs_62 N k62 t0 h x1 x2 = some (hz, rz)) (hk0 : h.kd t0 = 3) {H : Heap} {locs : List Loc} {cells slots : Nat} (w : Wo D cs A s h0 h H locs cells slots) {ls : Array Slot} (hl : lv_has ls 3 [(0, .ref t0), (1, va_rf x1), (2, .int x2)]) : W p l e { frames := 1, cells := mc, slots := ms, locals := 30 } s m args below meth c H locs cells slots (MQ below (Zi D cs A hz rz) args s mc ms A) (F0 m 62 ls []) := by
  obtain ⟨hx, hb, hml, hown, hts, -⟩ := id C
  unfold B_X0_tellsAs_62 at hJ
  refine lv_iload_n hx hb dX0_tellsAs_62 rfl (lv_at hl 2 rfl) ?_
  refine lv_aload_n hx hb dX0_tellsAs_63 rfl (lv_at hl 0 rfl) ?_
  refine fg_307 C w hk0 tw_1_103 dX0_tellsAs_64 ?_
  refine lv_icmp_ge (tgt := 125) hx hb dX0_tellsAs_67 (by decide) (fun c19 => ?_) (fun c19 => ?_)
  · have hJ := it_pos c19 hJ
    exact sb_X0_tellsAs_125 C hz2 N t0 _ hJ hk0 w (lv_sub (l' := [(0, .ref t0)]) hl [0] rfl)
  · have hJ := it_neg c19 hJ
    refine lv_aload_n hx hb dX0_tellsAs_70 rfl (lv_at hl 0 rfl) ?_
    refine lv_iload_n hx hb dX0_tellsAs_71 rfl (lv_at hl 2 rfl) ?_
    obtain ⟨⟨h20, r21⟩, e22, hJ⟩ := ob_some hJ
    refine jc_Vi (As := [.int x2]) C w (cc_X0_hasRow N t0 h x2 hk0 e22) (mo_X0_hasRow N t0 h x2 e22) (mb_X0_tellsAs_75 N k62 t0 _ _ _ _ m62 hJ) hz2 hk0 (by decide) rfl (fs := fs3 h t0) rfl rfl ⟨tw_5_80, tw_5_77, tw_5_78, tw_5_79, tw_1_6⟩ cd_X0_hasRow ⟨by decide, by decide⟩ hl.1 (by first | exact Nat.le_of_ble_eq_true rfl | simp [rf_cat, cat_i, cat_l, cat_r]) rfl dX0_tellsAs_72 (fun H locs w1 => ?_)
    have hk23 := kd_keep w (mo_X0_hasRow N t0 h x2 e22) hk0 (by decide)
    have w := w1
    exact sb_X0_tellsAs_75 C hz2 N k62 t0 m62 i62 _ _ _ _ hJ hk23 w hl
def L_X0_tellsAs_62 (N : Nat) (t0 : Nat) : Nat → Hp → (Option Nat) → Int32 → Option (Hp × Int32)
  | 0 => fun _ _ _ => none
  | n + 1 => fun h x1 x2 => B_X0_tellsAs_62 N (L_X0_tellsAs_62 N t0 n) t0 h x1 x2
theorem ml_X0_tellsAs_62 (N : Nat) (t0 : Nat) : ∀ (n : Nat) (h : Hp) (x1 : Option Nat) (x2 : Int32), L_X0_tellsAs_62 N t0 n h x1 x2 = some (hz, rz) → Mo h hz := by
  intro n
  induction n with
  | zero => intro h x1 x2 hJ; cases hJ
  | succ n ih => intro h x1 x2 hJ; exact mb_X0_tellsAs_62 N (L_X0_tellsAs_62 N t0 n) t0 h x1 x2 ih hJ
theorem sl_X0_tellsAs_62 (C : Cx p s m args meth c cX0_tellsAs 3 (some .boolean) RX0 D cs A h0.se) (hz2 : hz.nx ≤ h0.nx + mc ∧ hz.su ≤ h0.su + ms) (N : Nat) (t0 : Nat) : ∀ n : Nat, ∀ (h : Hp) (x1 : Option Nat) (x2 : Int32) (H : Heap) (locs : List Loc) (cells slots : Nat) (ls : Array Slot), L_X0_tellsAs_62 N t0 n h x1 x2 = some (hz, rz) → h.kd t0 = 3 → Wo D cs A s h0 h H locs cells slots → lv_has ls 3 [(0, .ref t0), (1, va_rf x1), (2, .int x2)] → W p l e { frames := 1, cells := mc, slots := ms, locals := 30 } s m args below meth c H locs cells slots (MQ below (Zi D cs A hz rz) args s mc ms A) (F0 m 62 ls []) := by
  intro n
  induction n with
  | zero => intro h x1 x2 H locs cells slots ls hJ; cases hJ
  | succ n ih =>
    intro h x1 x2 H locs cells slots ls hJ hk0 w hl
    exact sb_X0_tellsAs_62 C hz2 N (L_X0_tellsAs_62 N t0 n) t0 (ml_X0_tellsAs_62 N t0 n) ih h x1 x2 hJ hk0 w hl
def B_X0_tellsAs_0 (N : Nat) (t0 : Nat) (h : Hp) (x1 : Option Nat) : Option (Hp × Int32) := dr h 3 x1 (fun a24 => if (h.fi 300 t0) = (h.fi 300 a24) then (if (h.fi 301 t0) = (h.fi 301 a24) then (if (h.fi 307 t0) = (h.fi 307 a24) then (if (h.fi 302 t0) = (h.fi 302 a24) then (if (lg_cmp (h.fl 303 t0) (h.fl 303 a24)) = 0 then (L_X0_tellsAs_62 N t0 N h (some a24) (0 : Int32)) else (B_X0_tellsAs_58 N t0 h)) else (B_X0_tellsAs_58 N t0 h)) else (B_X0_tellsAs_33 N t0 h)) else (B_X0_tellsAs_33 N t0 h)) else (B_X0_tellsAs_33 N t0 h))
theorem mb_X0_tellsAs_0 (N : Nat) (t0 : Nat) (h : Hp) (x1 : Option Nat) (hJ : B_X0_tellsAs_0 N t0 h x1 = some (hz, rz)) : Mo h hz := by
  unfold B_X0_tellsAs_0 at hJ
  obtain ⟨a24, ea24, -, hJ⟩ := dr_some hJ
  by_cases c25 : (h.fi 300 t0) = (h.fi 300 a24)
  · have hJ := it_pos c25 hJ
    by_cases c26 : (h.fi 301 t0) = (h.fi 301 a24)
    · have hJ := it_pos c26 hJ
      by_cases c27 : (h.fi 307 t0) = (h.fi 307 a24)
      · have hJ := it_pos c27 hJ
        by_cases c28 : (h.fi 302 t0) = (h.fi 302 a24)
        · have hJ := it_pos c28 hJ
          by_cases c29 : (lg_cmp (h.fl 303 t0) (h.fl 303 a24)) = 0
          · have hJ := it_pos c29 hJ
            exact ml_X0_tellsAs_62 N t0 N _ _ _ hJ
          · have hJ := it_neg c29 hJ
            exact mb_X0_tellsAs_58 N t0 _ hJ
        · have hJ := it_neg c28 hJ
          exact mb_X0_tellsAs_58 N t0 _ hJ
      · have hJ := it_neg c27 hJ
        exact mb_X0_tellsAs_33 N t0 _ hJ
    · have hJ := it_neg c26 hJ
      exact mb_X0_tellsAs_33 N t0 _ hJ
  · have hJ := it_neg c25 hJ
    exact mb_X0_tellsAs_33 N t0 _ hJ
set_option maxRecDepth 100000 in
set_option maxHeartbeats 4000000 in
theorem sb_X0_tellsAs_0 (C : Cx p s m args meth c cX0_tellsAs 3 (some .boolean) RX0 D cs A h0.se) (hz2 : hz.nx ≤ h0.nx + mc ∧ hz.su ≤ h0.su + ms) (N : Nat) (t0 : Nat) (h : Hp) (x1 : Option Nat) (hJ : B_X0_tellsAs_0 N t0 h x1 = some (hz, rz)) (hk0 : h.kd t0 = 3) {H : Heap} {locs : List Loc} {cells slots : Nat} (w : Wo D cs A s h0 h H locs cells slots) {ls : Array Slot} (hl : lv_has ls 3 [(0, .ref t0), (1, va_rf x1)]) : W p l e { frames := 1, cells := mc, slots := ms, locals := 30 } s m args below meth c H locs cells slots (MQ below (Zi D cs A hz rz) args s mc ms A) (F0 m 0 ls []) := by
  obtain ⟨hx, hb, hml, hown, hts, -⟩ := id C
  unfold B_X0_tellsAs_0 at hJ
  refine lv_aload_n hx hb dX0_tellsAs_0 rfl (lv_at hl 0 rfl) ?_
  refine fg_300 C w hk0 tw_1_87 dX0_tellsAs_1 ?_
  refine jv_aload_n hx hb dX0_tellsAs_4 rfl (lv_at hl 1 rfl) ?_
  obtain ⟨a24, ea24, hka24, hJ⟩ := dr_some hJ
  rw [ea24] at hl
  rw [ea24]
  refine fg_300 C w hka24 tw_1_87 dX0_tellsAs_5 ?_
  refine lv_icmp_ne (tgt := 33) hx hb dX0_tellsAs_8 (by decide) (fun c25 => ?_) (fun c25 => ?_)
  · have hJ := it_neg c25 hJ
    exact sb_X0_tellsAs_33 C hz2 N t0 _ hJ hk0 w (lv_sub (l' := [(0, .ref t0)]) hl [0] rfl)
  · have hJ := it_pos c25 hJ
    refine lv_aload_n hx hb dX0_tellsAs_11 rfl (lv_at hl 0 rfl) ?_
    refine fg_301 C w hk0 tw_1_91 dX0_tellsAs_12 ?_
    refine lv_aload_n hx hb dX0_tellsAs_15 rfl (lv_at hl 1 rfl) ?_
    refine fg_301 C w hka24 tw_1_91 dX0_tellsAs_16 ?_
    refine lv_icmp_ne (tgt := 33) hx hb dX0_tellsAs_19 (by decide) (fun c26 => ?_) (fun c26 => ?_)
    · have hJ := it_neg c26 hJ
      exact sb_X0_tellsAs_33 C hz2 N t0 _ hJ hk0 w (lv_sub (l' := [(0, .ref t0)]) hl [0] rfl)
    · have hJ := it_pos c26 hJ
      refine lv_aload_n hx hb dX0_tellsAs_22 rfl (lv_at hl 0 rfl) ?_
      refine fg_307 C w hk0 tw_1_103 dX0_tellsAs_23 ?_
      refine lv_aload_n hx hb dX0_tellsAs_26 rfl (lv_at hl 1 rfl) ?_
      refine fg_307 C w hka24 tw_1_103 dX0_tellsAs_27 ?_
      refine lv_icmp_eq (tgt := 35) hx hb dX0_tellsAs_30 (by decide) (fun c27 => ?_) (fun c27 => ?_)
      · have hJ := it_pos c27 hJ
        refine lv_aload_n hx hb dX0_tellsAs_35 rfl (lv_at hl 0 rfl) ?_
        refine fg_302 C w hk0 tw_1_93 dX0_tellsAs_36 ?_
        refine lv_aload_n hx hb dX0_tellsAs_39 rfl (lv_at hl 1 rfl) ?_
        refine fg_302 C w hka24 tw_1_93 dX0_tellsAs_40 ?_
        refine lv_icmp_ne (tgt := 58) hx hb dX0_tellsAs_43 (by decide) (fun c28 => ?_) (fun c28 => ?_)
        · have hJ := it_neg c28 hJ
          exact sb_X0_tellsAs_58 C hz2 N t0 _ hJ hk0 w (lv_sub (l' := [(0, .ref t0)]) hl [0] rfl)
        · have hJ := it_pos c28 hJ
          refine lv_aload_n hx hb dX0_tellsAs_46 rfl (lv_at hl 0 rfl) ?_
          refine fg_303 C w hk0 tw_1_95 dX0_tellsAs_47 ?_
          refine lv_aload_n hx hb dX0_tellsAs_50 rfl (lv_at hl 1 rfl) ?_
          refine fg_303 C w hka24 tw_1_95 dX0_tellsAs_51 ?_
          refine W.lcmp hx hb dX0_tellsAs_54 ?_
          refine lv_if_eq (tgt := 60) hx hb dX0_tellsAs_55 (by decide) (fun c29 => ?_) (fun c29 => ?_)
          · have hJ := it_pos c29 hJ
            refine lv_iconst (v := (0 : Int32)) hx hb dX0_tellsAs_60 (by decide) ?_
            refine lv_istore_n (i := 2) (lv' := [(2, .int (0 : Int32)), (0, .ref t0), (1, .ref a24)]) hx hb dX0_tellsAs_61 rfl hl (by decide) rfl (fun ls hl => ?_)
            exact sl_X0_tellsAs_62 C hz2 N t0 N _ _ _ _ _ _ _ _ hJ hk0 w (lv_sub (l' := [(0, .ref t0), (1, .ref a24), (2, .int (0 : Int32))]) hl [1, 2, 0] rfl)
          · have hJ := it_neg c29 hJ
            exact sb_X0_tellsAs_58 C hz2 N t0 _ hJ hk0 w (lv_sub (l' := [(0, .ref t0)]) hl [0] rfl)
      · have hJ := it_neg c27 hJ
        exact sb_X0_tellsAs_33 C hz2 N t0 _ hJ hk0 w (lv_sub (l' := [(0, .ref t0)]) hl [0] rfl)
def J_X0_tellsAs (N : Nat) (t0 : Nat) (h : Hp) (x1 : Option Nat) : Option (Hp × Int32) := B_X0_tellsAs_0 N t0 h x1
theorem mo_X0_tellsAs (N : Nat) (t0 : Nat) (h : Hp) (x1 : Option Nat) (hJ : J_X0_tellsAs N t0 h x1 = some (hz, rz)) : Mo h hz := mb_X0_tellsAs_0 N t0 h x1 hJ
theorem cd_X0_tellsAs : Cd yX0_tellsAs 1 := ⟨by decide +kernel, by decide +kernel, by decide +kernel⟩
theorem cc_X0_tellsAs (N : Nat) (t0 : Nat) (h : Hp) (x1 : Option Nat) (hk0 : h.kd t0 = 3) (hJ : J_X0_tellsAs N t0 h x1 = some (hz, rz)) : Ci l yX0_tellsAs cX0_tellsAs 3 (some .boolean) 1 30 D cs h hz [.ref t0, va_rf x1] rz := by
  intro mc ms g1 g2
  refine je_any (by decide) (by simp [lg_sl, rf_cat, cat_i, cat_l, cat_r]) ?_
  intro p e s m args below meth c C hin2 w ls hl
  have hl : lv_has ls 3 [(0, .ref t0), (1, va_rf x1)] := by simpa [lv_args, rf_cat, cat_i, cat_l, cat_r] using hl
  exact sb_X0_tellsAs_0 C ⟨g1, g2⟩ N t0 h x1 hJ hk0 w hl
end G_X0_tellsAs
section G_X0_copy
variable {p : Program} {l : Launch} {e : Env} {s : State} {m : MethodId} {args : Array Value} {below : List Frame} {meth : Method} {c : Code} {D : va_G} {cs : C4} {A : Nat → Prop} {h0 hz : Hp} {mc ms : Nat} {rz : Option Nat}
def B_X0_copy_78 (N : Nat) (k46 : Hp → (Option Nat) → Int32 → Option (Hp × Option Nat)) (t0 : Nat) (h : Hp) (x1 : Option Nat) (x2 : Int32) : Option (Hp × Option Nat) := k46 h x1 (x2 + (1 : Int32))
theorem mb_X0_copy_78 (N : Nat) (k46 : Hp → (Option Nat) → Int32 → Option (Hp × Option Nat)) (t0 : Nat) (h : Hp) (x1 : Option Nat) (x2 : Int32) (m46 : ∀ (h : Hp) (x1 : Option Nat) (x2 : Int32), k46 h x1 x2 = some (hz, rz) → Mo h hz) (hJ : B_X0_copy_78 N k46 t0 h x1 x2 = some (hz, rz)) : Mo h hz := by
  unfold B_X0_copy_78 at hJ
  exact m46 _ _ _ hJ
set_option maxRecDepth 100000 in
set_option maxHeartbeats 4000000 in
theorem sb_X0_copy_78 (C : Cx p s m args meth c cX0_copy 3 (some (.object "RingKeeper$Answer")) RX0 D cs A h0.se) (hz2 : hz.nx ≤ h0.nx + mc ∧ hz.su ≤ h0.su + ms) (N : Nat) (k46 : Hp → (Option Nat) → Int32 → Option (Hp × Option Nat)) (t0 : Nat) (m46 : ∀ (h : Hp) (x1 : Option Nat) (x2 : Int32), k46 h x1 x2 = some (hz, rz) → Mo h hz) (i46 : ∀ (h : Hp) (x1 : Option Nat) (x2 : Int32) (H : Heap) (locs : List Loc) (cells slots : Nat) (ls : Array Slot), k46 h x1 x2 = some (hz, rz) → h.kd t0 = 3 → Wo D cs A s h0 h H locs cells slots → lv_has ls 3 [(0, .ref t0), (1, va_rf x1), (2, .int x2)] → W p l e { frames := 2, cells := mc, slots := ms, locals := 70 } s m args below meth c H locs cells slots (MQ below (Zq D cs A hz rz) args s mc ms A) (F0 m 46 ls [])) (h : Hp) (x1 : Option Nat) (x2 : Int32) (hJ : B_X0_copy_78 N k46 t0 h x1 x2 = some (hz, rz)) (hk0 : h.kd t0 = 3) {H : Heap} {locs : List Loc} {cells slots : Nat} (w : Wo D cs A s h0 h H locs cells slots) {ls : Array Slot} (hl : lv_has ls 3 [(0, .ref t0), (1, va_rf x1), (2, .int x2)]) : W p l e { frames := 2, cells := mc, slots := ms, locals := 70 } s m args below meth c H locs cells slots (MQ below (Zq D cs A hz rz) args s mc ms A) (F0 m 78 ls []) := by
  obtain ⟨hx, hb, hml, hown, hts, -⟩ := id C
  unfold B_X0_copy_78 at hJ
  refine lv_iinc (v := x2 + (1 : Int32)) (lv' := [(2, .int (x2 + (1 : Int32))), (0, .ref t0), (1, va_rf x1)]) hx hb dX0_copy_78 hl (k := 2) rfl rfl (by decide) (by simp [List.filter, rf_cat, cat_i, cat_l, cat_r]) (fun ls hl => ?_)
  refine lv_goto (tgt := 46) hx hb dX0_copy_81 (by decide) ?_
  exact i46 _ _ _ _ _ _ _ _ hJ hk0 w (lv_sub (l' := [(0, .ref t0), (1, va_rf x1), (2, .int (x2 + (1 : Int32)))]) hl [1, 2, 0] rfl)
def B_X0_copy_84 (N : Nat) (t0 : Nat) (h : Hp) (x1 : Option Nat) : Option (Hp × Option Nat) := some (h, x1)
theorem mb_X0_copy_84 (N : Nat) (t0 : Nat) (h : Hp) (x1 : Option Nat) (hJ : B_X0_copy_84 N t0 h x1 = some (hz, rz)) : Mo h hz := by
  unfold B_X0_copy_84 at hJ
  obtain ⟨rfl, -⟩ := rs2 hJ
  exact ⟨fun _ _ => rfl, Nat.le_refl _, Nat.le_refl _, rfl, fun _ _ => rfl⟩
set_option maxRecDepth 100000 in
set_option maxHeartbeats 4000000 in
theorem sb_X0_copy_84 (C : Cx p s m args meth c cX0_copy 3 (some (.object "RingKeeper$Answer")) RX0 D cs A h0.se) (hz2 : hz.nx ≤ h0.nx + mc ∧ hz.su ≤ h0.su + ms) (N : Nat) (t0 : Nat) (h : Hp) (x1 : Option Nat) (hJ : B_X0_copy_84 N t0 h x1 = some (hz, rz)) (hk0 : h.kd t0 = 3) {H : Heap} {locs : List Loc} {cells slots : Nat} (w : Wo D cs A s h0 h H locs cells slots) {ls : Array Slot} (hl : lv_has ls 3 [(0, .ref t0), (1, va_rf x1)]) : W p l e { frames := 2, cells := mc, slots := ms, locals := 70 } s m args below meth c H locs cells slots (MQ below (Zq D cs A hz rz) args s mc ms A) (F0 m 84 ls []) := by
  obtain ⟨hx, hb, hml, hown, hts, -⟩ := id C
  unfold B_X0_copy_84 at hJ
  refine jv_aload_n hx hb dX0_copy_84 rfl (lv_at hl 1 rfl) ?_
  obtain ⟨rfl, rfl⟩ := rs2 hJ
  exact jr_aret (r := x1) C w (Or.inl ⟨_, rfl⟩) hz2 dX0_copy_85
def B_X0_copy_59 (N : Nat) (k46 : Hp → (Option Nat) → Int32 → Option (Hp × Option Nat)) (t0 : Nat) (h : Hp) (x1 : Option Nat) (x2 : Int32) (y0 : Int32) : Option (Hp × Option Nat) := if y0 = 0 then (B_X0_copy_84 N t0 h x1) else (dr h 20 (h.fr 308 t0) (fun a2 => ck (¬ (x2 < 0 ∨ h.al a2 ≤ x2.toNatClampNeg)) (dr h 21 (h.fr 309 t0) (fun a4 => ck (¬ (x2 < 0 ∨ h.al a4 ≤ x2.toNatClampNeg)) (dr h 3 x1 (fun a6 => (J_X0_addRow N a6 h (h.ai a2 x2.toNatClampNeg) (h.aw a4 x2.toNatClampNeg)).bind (fun z => B_X0_copy_78 N k46 t0 z.1 (some a6) x2)))))))
theorem mb_X0_copy_59 (N : Nat) (k46 : Hp → (Option Nat) → Int32 → Option (Hp × Option Nat)) (t0 : Nat) (h : Hp) (x1 : Option Nat) (x2 : Int32) (y0 : Int32) (m46 : ∀ (h : Hp) (x1 : Option Nat) (x2 : Int32), k46 h x1 x2 = some (hz, rz) → Mo h hz) (hJ : B_X0_copy_59 N k46 t0 h x1 x2 y0 = some (hz, rz)) : Mo h hz := by
  unfold B_X0_copy_59 at hJ
  by_cases c1 : y0 = 0
  · have hJ := it_pos c1 hJ
    exact mb_X0_copy_84 N t0 _ _ hJ
  · have hJ := it_neg c1 hJ
    obtain ⟨a2, ea2, -, hJ⟩ := dr_some hJ
    obtain ⟨-, hJ⟩ := ck_some hJ
    obtain ⟨a4, ea4, -, hJ⟩ := dr_some hJ
    obtain ⟨-, hJ⟩ := ck_some hJ
    obtain ⟨a6, ea6, -, hJ⟩ := dr_some hJ
    obtain ⟨⟨h7, r8⟩, e9, hJ⟩ := ob_some hJ
    exact (mo_X0_addRow N a6 h (h.ai a2 x2.toNatClampNeg) (h.aw a4 x2.toNatClampNeg) e9).tr (mb_X0_copy_78 N k46 t0 _ _ _ m46 hJ)
set_option maxRecDepth 100000 in
set_option maxHeartbeats 4000000 in
theorem sb_X0_copy_59 (C : Cx p s m args meth c cX0_copy 3 (some (.object "RingKeeper$Answer")) RX0 D cs A h0.se) (hz2 : hz.nx ≤ h0.nx + mc ∧ hz.su ≤ h0.su + ms) (N : Nat) (k46 : Hp → (Option Nat) → Int32 → Option (Hp × Option Nat)) (t0 : Nat) (m46 : ∀ (h : Hp) (x1 : Option Nat) (x2 : Int32), k46 h x1 x2 = some (hz, rz) → Mo h hz) (i46 : ∀ (h : Hp) (x1 : Option Nat) (x2 : Int32) (H : Heap) (locs : List Loc) (cells slots : Nat) (ls : Array Slot), k46 h x1 x2 = some (hz, rz) → h.kd t0 = 3 → Wo D cs A s h0 h H locs cells slots → lv_has ls 3 [(0, .ref t0), (1, va_rf x1), (2, .int x2)] → W p l e { frames := 2, cells := mc, slots := ms, locals := 70 } s m args below meth c H locs cells slots (MQ below (Zq D cs A hz rz) args s mc ms A) (F0 m 46 ls [])) (h : Hp) (x1 : Option Nat) (x2 : Int32) (y0 : Int32) (hJ : B_X0_copy_59 N k46 t0 h x1 x2 y0 = some (hz, rz)) (hk0 : h.kd t0 = 3) {H : Heap} {locs : List Loc} {cells slots : Nat} (w : Wo D cs A s h0 h H locs cells slots) {ls : Array Slot} (hl : lv_has ls 3 [(0, .ref t0), (1, va_rf x1), (2, .int x2)]) : W p l e { frames := 2, cells := mc, slots := ms, locals := 70 } s m args below meth c H locs cells slots (MQ below (Zq D cs A hz rz) args s mc ms A) (F0 m 59 ls [.int y0]) := by
  obtain ⟨hx, hb, hml, hown, hts, -⟩ := id C
  unfold B_X0_copy_59 at hJ
  refine lv_if_eq (tgt := 84) hx hb dX0_copy_59 (by decide) (fun c1 => ?_) (fun c1 => ?_)
  · have hJ := it_pos c1 hJ
    exact sb_X0_copy_84 C hz2 N t0 _ _ hJ hk0 w (lv_sub (l' := [(0, .ref t0), (1, va_rf x1)]) hl [0, 1] rfl)
  · have hJ := it_neg c1 hJ
    refine jv_aload_n hx hb dX0_copy_62 rfl (lv_at hl 1 rfl) ?_
    refine lv_aload_n hx hb dX0_copy_63 rfl (lv_at hl 0 rfl) ?_
    refine fg_308 C w hk0 tw_1_105 dX0_copy_64 ?_
    refine lv_iload_n hx hb dX0_copy_67 rfl (lv_at hl 2 rfl) ?_
    obtain ⟨a2, ea2, hka2, hJ⟩ := dr_some hJ
    rw [ea2]
    obtain ⟨hi3, hJ⟩ := ck_some hJ
    refine jr_iald C w hka2 hi3 dX0_copy_68 ?_
    refine lv_aload_n hx hb dX0_copy_69 rfl (lv_at hl 0 rfl) ?_
    refine fg_309 C w hk0 tw_1_107 dX0_copy_70 ?_
    refine lv_iload_n hx hb dX0_copy_73 rfl (lv_at hl 2 rfl) ?_
    obtain ⟨a4, ea4, hka4, hJ⟩ := dr_some hJ
    rw [ea4]
    obtain ⟨hi5, hJ⟩ := ck_some hJ
    refine jr_lald C w hka4 hi5 dX0_copy_74 ?_
    obtain ⟨a6, ea6, hka6, hJ⟩ := dr_some hJ
    rw [ea6] at hl
    rw [ea6]
    obtain ⟨⟨h7, r8⟩, e9, hJ⟩ := ob_some hJ
    refine jc_Vv (As := [.int (h.ai a2 x2.toNatClampNeg), .long (h.aw a4 x2.toNatClampNeg)]) C w (cc_X0_addRow N a6 h (h.ai a2 x2.toNatClampNeg) (h.aw a4 x2.toNatClampNeg) hka6 e9) (mo_X0_addRow N a6 h (h.ai a2 x2.toNatClampNeg) (h.aw a4 x2.toNatClampNeg) e9) (mb_X0_copy_78 N k46 t0 _ _ _ m46 hJ) hz2 hka6 (by decide) rfl (fs := fs3 h a6) rfl rfl ⟨tw_3_132, tw_6_6, tw_3_130, tw_3_131, tw_1_6⟩ cd_X0_addRow ⟨by decide, by decide⟩ hl.1 (by first | exact Nat.le_of_ble_eq_true rfl | simp [rf_cat, cat_i, cat_l, cat_r]) rfl dX0_copy_75 (fun H locs w1 => ?_)
    have hk10 := kd_keep w (mo_X0_addRow N a6 h (h.ai a2 x2.toNatClampNeg) (h.aw a4 x2.toNatClampNeg) e9) hk0 (by decide)
    have w := w1
    exact sb_X0_copy_78 C hz2 N k46 t0 m46 i46 _ _ _ hJ hk10 w hl
def B_X0_copy_46 (N : Nat) (k46 : Hp → (Option Nat) → Int32 → Option (Hp × Option Nat)) (t0 : Nat) (h : Hp) (x1 : Option Nat) (x2 : Int32) : Option (Hp × Option Nat) := if (h.fi 307 t0) ≤ x2 then (B_X0_copy_84 N t0 h x1) else ((J_X0_hasRow N t0 h x2).bind (fun z => B_X0_copy_59 N k46 t0 z.1 x1 x2 z.2))
theorem mb_X0_copy_46 (N : Nat) (k46 : Hp → (Option Nat) → Int32 → Option (Hp × Option Nat)) (t0 : Nat) (h : Hp) (x1 : Option Nat) (x2 : Int32) (m46 : ∀ (h : Hp) (x1 : Option Nat) (x2 : Int32), k46 h x1 x2 = some (hz, rz) → Mo h hz) (hJ : B_X0_copy_46 N k46 t0 h x1 x2 = some (hz, rz)) : Mo h hz := by
  unfold B_X0_copy_46 at hJ
  by_cases c11 : (h.fi 307 t0) ≤ x2
  · have hJ := it_pos c11 hJ
    exact mb_X0_copy_84 N t0 _ _ hJ
  · have hJ := it_neg c11 hJ
    obtain ⟨⟨h12, r13⟩, e14, hJ⟩ := ob_some hJ
    exact (mo_X0_hasRow N t0 h x2 e14).tr (mb_X0_copy_59 N k46 t0 _ _ _ _ m46 hJ)
set_option maxRecDepth 100000 in
set_option maxHeartbeats 4000000 in
theorem sb_X0_copy_46 (C : Cx p s m args meth c cX0_copy 3 (some (.object "RingKeeper$Answer")) RX0 D cs A h0.se) (hz2 : hz.nx ≤ h0.nx + mc ∧ hz.su ≤ h0.su + ms) (N : Nat) (k46 : Hp → (Option Nat) → Int32 → Option (Hp × Option Nat)) (t0 : Nat) (m46 : ∀ (h : Hp) (x1 : Option Nat) (x2 : Int32), k46 h x1 x2 = some (hz, rz) → Mo h hz) (i46 : ∀ (h : Hp) (x1 : Option Nat) (x2 : Int32) (H : Heap) (locs : List Loc) (cells slots : Nat) (ls : Array Slot), k46 h x1 x2 = some (hz, rz) → h.kd t0 = 3 → Wo D cs A s h0 h H locs cells slots → lv_has ls 3 [(0, .ref t0), (1, va_rf x1), (2, .int x2)] → W p l e { frames := 2, cells := mc, slots := ms, locals := 70 } s m args below meth c H locs cells slots (MQ below (Zq D cs A hz rz) args s mc ms A) (F0 m 46 ls [])) (h : Hp) (x1 : Option Nat) (x2 : Int32) (hJ : B_X0_copy_46 N k46 t0 h x1 x2 = some (hz, rz)) (hk0 : h.kd t0 = 3) {H : Heap} {locs : List Loc} {cells slots : Nat} (w : Wo D cs A s h0 h H locs cells slots) {ls : Array Slot} (hl : lv_has ls 3 [(0, .ref t0), (1, va_rf x1), (2, .int x2)]) : W p l e { frames := 2, cells := mc, slots := ms, locals := 70 } s m args below meth c H locs cells slots (MQ below (Zq D cs A hz rz) args s mc ms A) (F0 m 46 ls []) := by
  obtain ⟨hx, hb, hml, hown, hts, -⟩ := id C
  unfold B_X0_copy_46 at hJ
  refine lv_iload_n hx hb dX0_copy_46 rfl (lv_at hl 2 rfl) ?_
  refine lv_aload_n hx hb dX0_copy_47 rfl (lv_at hl 0 rfl) ?_
  refine fg_307 C w hk0 tw_1_103 dX0_copy_48 ?_
  refine lv_icmp_ge (tgt := 84) hx hb dX0_copy_51 (by decide) (fun c11 => ?_) (fun c11 => ?_)
  · have hJ := it_pos c11 hJ
    exact sb_X0_copy_84 C hz2 N t0 _ _ hJ hk0 w (lv_sub (l' := [(0, .ref t0), (1, va_rf x1)]) hl [0, 1] rfl)
  · have hJ := it_neg c11 hJ
    refine lv_aload_n hx hb dX0_copy_54 rfl (lv_at hl 0 rfl) ?_
    refine lv_iload_n hx hb dX0_copy_55 rfl (lv_at hl 2 rfl) ?_
    obtain ⟨⟨h12, r13⟩, e14, hJ⟩ := ob_some hJ
    refine jc_Vi (As := [.int x2]) C w (cc_X0_hasRow N t0 h x2 hk0 e14) (mo_X0_hasRow N t0 h x2 e14) (mb_X0_copy_59 N k46 t0 _ _ _ _ m46 hJ) hz2 hk0 (by decide) rfl (fs := fs3 h t0) rfl rfl ⟨tw_5_80, tw_5_77, tw_5_78, tw_5_79, tw_1_6⟩ cd_X0_hasRow ⟨by decide, by decide⟩ hl.1 (by first | exact Nat.le_of_ble_eq_true rfl | simp [rf_cat, cat_i, cat_l, cat_r]) rfl dX0_copy_56 (fun H locs w1 => ?_)
    have hk15 := kd_keep w (mo_X0_hasRow N t0 h x2 e14) hk0 (by decide)
    have w := w1
    exact sb_X0_copy_59 C hz2 N k46 t0 m46 i46 _ _ _ _ hJ hk15 w hl
def L_X0_copy_46 (N : Nat) (t0 : Nat) : Nat → Hp → (Option Nat) → Int32 → Option (Hp × Option Nat)
  | 0 => fun _ _ _ => none
  | n + 1 => fun h x1 x2 => B_X0_copy_46 N (L_X0_copy_46 N t0 n) t0 h x1 x2
theorem ml_X0_copy_46 (N : Nat) (t0 : Nat) : ∀ (n : Nat) (h : Hp) (x1 : Option Nat) (x2 : Int32), L_X0_copy_46 N t0 n h x1 x2 = some (hz, rz) → Mo h hz := by
  intro n
  induction n with
  | zero => intro h x1 x2 hJ; cases hJ
  | succ n ih => intro h x1 x2 hJ; exact mb_X0_copy_46 N (L_X0_copy_46 N t0 n) t0 h x1 x2 ih hJ
theorem sl_X0_copy_46 (C : Cx p s m args meth c cX0_copy 3 (some (.object "RingKeeper$Answer")) RX0 D cs A h0.se) (hz2 : hz.nx ≤ h0.nx + mc ∧ hz.su ≤ h0.su + ms) (N : Nat) (t0 : Nat) : ∀ n : Nat, ∀ (h : Hp) (x1 : Option Nat) (x2 : Int32) (H : Heap) (locs : List Loc) (cells slots : Nat) (ls : Array Slot), L_X0_copy_46 N t0 n h x1 x2 = some (hz, rz) → h.kd t0 = 3 → Wo D cs A s h0 h H locs cells slots → lv_has ls 3 [(0, .ref t0), (1, va_rf x1), (2, .int x2)] → W p l e { frames := 2, cells := mc, slots := ms, locals := 70 } s m args below meth c H locs cells slots (MQ below (Zq D cs A hz rz) args s mc ms A) (F0 m 46 ls []) := by
  intro n
  induction n with
  | zero => intro h x1 x2 H locs cells slots ls hJ; cases hJ
  | succ n ih =>
    intro h x1 x2 H locs cells slots ls hJ hk0 w hl
    exact sb_X0_copy_46 C hz2 N (L_X0_copy_46 N t0 n) t0 (ml_X0_copy_46 N t0 n) ih h x1 x2 hJ hk0 w hl
def B_X0_copy_44 (N : Nat) (t0 : Nat) (h : Hp) (x1 : Option Nat) : Option (Hp × Option Nat) := L_X0_copy_46 N t0 N h x1 (0 : Int32)
theorem mb_X0_copy_44 (N : Nat) (t0 : Nat) (h : Hp) (x1 : Option Nat) (hJ : B_X0_copy_44 N t0 h x1 = some (hz, rz)) : Mo h hz := by
  unfold B_X0_copy_44 at hJ
  exact ml_X0_copy_46 N t0 N _ _ _ hJ
set_option maxRecDepth 100000 in
set_option maxHeartbeats 4000000 in
theorem sb_X0_copy_44 (C : Cx p s m args meth c cX0_copy 3 (some (.object "RingKeeper$Answer")) RX0 D cs A h0.se) (hz2 : hz.nx ≤ h0.nx + mc ∧ hz.su ≤ h0.su + ms) (N : Nat) (t0 : Nat) (h : Hp) (x1 : Option Nat) (hJ : B_X0_copy_44 N t0 h x1 = some (hz, rz)) (hk0 : h.kd t0 = 3) {H : Heap} {locs : List Loc} {cells slots : Nat} (w : Wo D cs A s h0 h H locs cells slots) {ls : Array Slot} (hl : lv_has ls 3 [(0, .ref t0), (1, va_rf x1)]) : W p l e { frames := 2, cells := mc, slots := ms, locals := 70 } s m args below meth c H locs cells slots (MQ below (Zq D cs A hz rz) args s mc ms A) (F0 m 44 ls []) := by
  obtain ⟨hx, hb, hml, hown, hts, -⟩ := id C
  unfold B_X0_copy_44 at hJ
  refine lv_iconst (v := (0 : Int32)) hx hb dX0_copy_44 (by decide) ?_
  refine lv_istore_n (i := 2) (lv' := [(2, .int (0 : Int32)), (0, .ref t0), (1, va_rf x1)]) hx hb dX0_copy_45 rfl hl (by decide) (by simp [List.filter, rf_cat, cat_i, cat_l, cat_r]) (fun ls hl => ?_)
  exact sl_X0_copy_46 C hz2 N t0 N _ _ _ _ _ _ _ _ hJ hk0 w (lv_sub (l' := [(0, .ref t0), (1, va_rf x1), (2, .int (0 : Int32))]) hl [1, 2, 0] rfl)
def B_X0_copy_11 (N : Nat) (t0 : Nat) (h : Hp) (y0 : Option Nat) : Option (Hp × Option Nat) := dr h 3 y0 (fun a16 => ck ((h.sfi 300 a16 (h.fi 300 t0)).fi 301 t0 = 0 ∨ (h.sfi 300 a16 (h.fi 300 t0)).fi 301 t0 = 1) (B_X0_copy_44 N t0 ((((h.sfi 300 a16 (h.fi 300 t0)).sfi 301 a16 ((h.sfi 300 a16 (h.fi 300 t0)).fi 301 t0)).sfi 302 a16 (((h.sfi 300 a16 (h.fi 300 t0)).sfi 301 a16 ((h.sfi 300 a16 (h.fi 300 t0)).fi 301 t0)).fi 302 t0)).sfl 303 a16 ((((h.sfi 300 a16 (h.fi 300 t0)).sfi 301 a16 ((h.sfi 300 a16 (h.fi 300 t0)).fi 301 t0)).sfi 302 a16 (((h.sfi 300 a16 (h.fi 300 t0)).sfi 301 a16 ((h.sfi 300 a16 (h.fi 300 t0)).fi 301 t0)).fi 302 t0)).fl 303 t0)) (some a16)))
theorem mb_X0_copy_11 (N : Nat) (t0 : Nat) (h : Hp) (y0 : Option Nat) (hJ : B_X0_copy_11 N t0 h y0 = some (hz, rz)) : Mo h hz := by
  unfold B_X0_copy_11 at hJ
  obtain ⟨a16, ea16, -, hJ⟩ := dr_some hJ
  obtain ⟨-, hJ⟩ := ck_some hJ
  exact (Mo.tr (show Mo h ((((h.sfi 300 a16 (h.fi 300 t0)).sfi 301 a16 ((h.sfi 300 a16 (h.fi 300 t0)).fi 301 t0)).sfi 302 a16 (((h.sfi 300 a16 (h.fi 300 t0)).sfi 301 a16 ((h.sfi 300 a16 (h.fi 300 t0)).fi 301 t0)).fi 302 t0)).sfl 303 a16 ((((h.sfi 300 a16 (h.fi 300 t0)).sfi 301 a16 ((h.sfi 300 a16 (h.fi 300 t0)).fi 301 t0)).sfi 302 a16 (((h.sfi 300 a16 (h.fi 300 t0)).sfi 301 a16 ((h.sfi 300 a16 (h.fi 300 t0)).fi 301 t0)).fi 302 t0)).fl 303 t0)) from ⟨fun _ _ => rfl, Nat.le_refl _, Nat.le_refl _, rfl, fun _ _ => rfl⟩) (mb_X0_copy_44 N t0 _ _ hJ))
set_option maxRecDepth 100000 in
set_option maxHeartbeats 4000000 in
theorem sb_X0_copy_11 (C : Cx p s m args meth c cX0_copy 3 (some (.object "RingKeeper$Answer")) RX0 D cs A h0.se) (hz2 : hz.nx ≤ h0.nx + mc ∧ hz.su ≤ h0.su + ms) (N : Nat) (t0 : Nat) (h : Hp) (y0 : Option Nat) (hJ : B_X0_copy_11 N t0 h y0 = some (hz, rz)) (hk0 : h.kd t0 = 3) {H : Heap} {locs : List Loc} {cells slots : Nat} (w : Wo D cs A s h0 h H locs cells slots) {ls : Array Slot} (hl : lv_has ls 3 [(0, .ref t0)]) : W p l e { frames := 2, cells := mc, slots := ms, locals := 70 } s m args below meth c H locs cells slots (MQ below (Zq D cs A hz rz) args s mc ms A) (F0 m 11 ls [va_rf y0]) := by
  obtain ⟨hx, hb, hml, hown, hts, -⟩ := id C
  unfold B_X0_copy_11 at hJ
  refine jv_astore_n (i := 1) (lv' := [(1, va_rf y0), (0, .ref t0)]) hx hb dX0_copy_11 rfl hl (by decide) rfl (fun ls hl => ?_)
  refine jv_aload_n hx hb dX0_copy_12 rfl (lv_at hl 0 rfl) ?_
  refine lv_aload_n hx hb dX0_copy_13 rfl (lv_at hl 1 rfl) ?_
  refine fg_300 C w hk0 tw_1_87 dX0_copy_14 ?_
  obtain ⟨a16, ea16, hka16, hJ⟩ := dr_some hJ
  rw [ea16] at hl
  rw [ea16]
  refine fp_300 (x := h.fi 300 t0) C w hka16 tw_1_87 dX0_copy_17 (fun H locs w => ?_)
  refine lv_aload_n hx hb dX0_copy_20 rfl (lv_at hl 0 rfl) ?_
  refine lv_aload_n hx hb dX0_copy_21 rfl (lv_at hl 1 rfl) ?_
  refine fg_301 C w hk0 tw_1_91 dX0_copy_22 ?_
  obtain ⟨hzo17, hJ⟩ := ck_some hJ
  refine fp_301 (x := (h.sfi 300 a16 (h.fi 300 t0)).fi 301 t0) C w hka16 hzo17 tw_1_91 dX0_copy_25 (fun H locs w => ?_)
  refine lv_aload_n hx hb dX0_copy_28 rfl (lv_at hl 0 rfl) ?_
  refine lv_aload_n hx hb dX0_copy_29 rfl (lv_at hl 1 rfl) ?_
  refine fg_302 C w hk0 tw_1_93 dX0_copy_30 ?_
  refine fp_302 (x := ((h.sfi 300 a16 (h.fi 300 t0)).sfi 301 a16 ((h.sfi 300 a16 (h.fi 300 t0)).fi 301 t0)).fi 302 t0) C w hka16 tw_1_93 dX0_copy_33 (fun H locs w => ?_)
  refine lv_aload_n hx hb dX0_copy_36 rfl (lv_at hl 0 rfl) ?_
  refine lv_aload_n hx hb dX0_copy_37 rfl (lv_at hl 1 rfl) ?_
  refine fg_303 C w hk0 tw_1_95 dX0_copy_38 ?_
  refine fp_303 (x := (((h.sfi 300 a16 (h.fi 300 t0)).sfi 301 a16 ((h.sfi 300 a16 (h.fi 300 t0)).fi 301 t0)).sfi 302 a16 (((h.sfi 300 a16 (h.fi 300 t0)).sfi 301 a16 ((h.sfi 300 a16 (h.fi 300 t0)).fi 301 t0)).fi 302 t0)).fl 303 t0) C w hka16 tw_1_95 dX0_copy_41 (fun H locs w => ?_)
  exact sb_X0_copy_44 C hz2 N t0 _ _ hJ hk0 w (lv_sub (l' := [(0, .ref t0), (1, .ref a16)]) hl [1, 0] rfl)
def B_X0_copy_3 (N : Nat) (t0 : Nat) (h : Hp) (y0 : Option Nat) : Option (Hp × Option Nat) := dr h 3 y0 (fun a18 => (J_X0_init N a18 h (h.fi 307 t0)).bind (fun z => B_X0_copy_11 N t0 z.1 (some a18)))
theorem mb_X0_copy_3 (N : Nat) (t0 : Nat) (h : Hp) (y0 : Option Nat) (hJ : B_X0_copy_3 N t0 h y0 = some (hz, rz)) : Mo h hz := by
  unfold B_X0_copy_3 at hJ
  obtain ⟨a18, ea18, -, hJ⟩ := dr_some hJ
  obtain ⟨⟨h19, r20⟩, e21, hJ⟩ := ob_some hJ
  exact (mo_X0_init N a18 h (h.fi 307 t0) e21).tr (mb_X0_copy_11 N t0 _ _ hJ)
set_option maxRecDepth 100000 in
set_option maxHeartbeats 4000000 in
theorem sb_X0_copy_3 (C : Cx p s m args meth c cX0_copy 3 (some (.object "RingKeeper$Answer")) RX0 D cs A h0.se) (hz2 : hz.nx ≤ h0.nx + mc ∧ hz.su ≤ h0.su + ms) (N : Nat) (t0 : Nat) (h : Hp) (y0 : Option Nat) (hJ : B_X0_copy_3 N t0 h y0 = some (hz, rz)) (hk0 : h.kd t0 = 3) {H : Heap} {locs : List Loc} {cells slots : Nat} (w : Wo D cs A s h0 h H locs cells slots) {ls : Array Slot} (hl : lv_has ls 3 [(0, .ref t0)]) : W p l e { frames := 2, cells := mc, slots := ms, locals := 70 } s m args below meth c H locs cells slots (MQ below (Zq D cs A hz rz) args s mc ms A) (F0 m 3 ls [va_rf y0]) := by
  obtain ⟨hx, hb, hml, hown, hts, -⟩ := id C
  unfold B_X0_copy_3 at hJ
  refine lv_dup hx hb dX0_copy_3 (rf_cat _) ?_
  refine lv_aload_n hx hb dX0_copy_4 rfl (lv_at hl 0 rfl) ?_
  refine fg_307 C w hk0 tw_1_103 dX0_copy_5 ?_
  obtain ⟨a18, ea18, hka18, hJ⟩ := dr_some hJ
  rw [ea18]
  obtain ⟨⟨h19, r20⟩, e21, hJ⟩ := ob_some hJ
  refine jc_I (As := [.int (h.fi 307 t0)]) C w (cc_X0_init N a18 h (h.fi 307 t0) hka18 e21) (mo_X0_init N a18 h (h.fi 307 t0) e21) (mb_X0_copy_11 N t0 _ _ hJ) hz2 tw_1_85 tw_6_5 tw_1_84 tw_1_6 rfl cd_X0_init ⟨by decide, by decide⟩ hl.1 (by first | exact Nat.le_of_ble_eq_true rfl | simp [rf_cat, cat_i, cat_l, cat_r]) rfl dX0_copy_8 (fun H locs w1 => ?_)
  have hk22 := kd_keep w (mo_X0_init N a18 h (h.fi 307 t0) e21) hk0 (by decide)
  have w := w1
  exact sb_X0_copy_11 C hz2 N t0 _ _ hJ hk22 w hl
def B_X0_copy_0 (N : Nat) (t0 : Nat) (h : Hp) : Option (Hp × Option Nat) := B_X0_copy_3 N t0 (h.new 3 0 10) (some h.nx)
theorem mb_X0_copy_0 (N : Nat) (t0 : Nat) (h : Hp) (hJ : B_X0_copy_0 N t0 h = some (hz, rz)) : Mo h hz := by
  unfold B_X0_copy_0 at hJ
  exact (Mo.new h _ _ _).tr (mb_X0_copy_3 N t0 _ _ hJ)
set_option maxRecDepth 100000 in
set_option maxHeartbeats 4000000 in
theorem sb_X0_copy_0 (C : Cx p s m args meth c cX0_copy 3 (some (.object "RingKeeper$Answer")) RX0 D cs A h0.se) (hz2 : hz.nx ≤ h0.nx + mc ∧ hz.su ≤ h0.su + ms) (N : Nat) (t0 : Nat) (h : Hp) (hJ : B_X0_copy_0 N t0 h = some (hz, rz)) (hk0 : h.kd t0 = 3) {H : Heap} {locs : List Loc} {cells slots : Nat} (w : Wo D cs A s h0 h H locs cells slots) {ls : Array Slot} (hl : lv_has ls 3 [(0, .ref t0)]) : W p l e { frames := 2, cells := mc, slots := ms, locals := 70 } s m args below meth c H locs cells slots (MQ below (Zq D cs A hz rz) args s mc ms A) (F0 m 0 ls []) := by
  obtain ⟨hx, hb, hml, hown, hts, -⟩ := id C
  unfold B_X0_copy_0 at hJ
  have w0 := w
  refine fn_3 C w (mb_X0_copy_3 N t0 _ _ hJ) hz2 tw_6_4 dX0_copy_0 (fun H w => ?_)
  have hk23 := kd_new (k := 3) (n := 0) (sl := 10) w0 hk0 (by decide)
  exact sb_X0_copy_3 C hz2 N t0 _ _ hJ hk23 w hl
def J_X0_copy (N : Nat) (t0 : Nat) (h : Hp) : Option (Hp × Option Nat) := B_X0_copy_0 N t0 h
theorem mo_X0_copy (N : Nat) (t0 : Nat) (h : Hp) (hJ : J_X0_copy N t0 h = some (hz, rz)) : Mo h hz := mb_X0_copy_0 N t0 h hJ
theorem cd_X0_copy : Cd yX0_copy 0 := ⟨by decide +kernel, by decide +kernel, by decide +kernel⟩
theorem cc_X0_copy (N : Nat) (t0 : Nat) (h : Hp) (hk0 : h.kd t0 = 3) (hJ : J_X0_copy N t0 h = some (hz, rz)) : Cq l yX0_copy cX0_copy 3 (some (.object "RingKeeper$Answer")) 2 70 D cs h hz [.ref t0] rz := by
  intro mc ms g1 g2
  refine je_any (by decide) (by simp [lg_sl, rf_cat, cat_i, cat_l, cat_r]) ?_
  intro p e s m args below meth c C hin2 w ls hl
  have hl : lv_has ls 3 [(0, .ref t0)] := hl
  exact sb_X0_copy_0 C ⟨g1, g2⟩ N t0 h hJ hk0 w hl
end G_X0_copy
