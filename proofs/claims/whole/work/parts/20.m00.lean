section G_X10_init
variable {p : Program} {l : Launch} {e : Env} {s : State} {m : MethodId} {args : Array Value} {below : List Frame} {meth : Method} {c : Code} {D : va_G} {cs : C4} {A : Nat → Prop} {h0 hz : Hp} {mc ms : Nat}
def B_X10_init_412 (N : Nat) (t0 : Nat) (h : Hp) (y0 : Option Nat) (y1 : Option Nat) : Option (Hp × Unit) := dr h 13 y0 (fun a1 => some (h.sgr 1366 a1 y1, ()))
theorem mb_X10_init_412 (N : Nat) (t0 : Nat) (h : Hp) (y0 : Option Nat) (y1 : Option Nat) (hJ : B_X10_init_412 N t0 h y0 y1 = some (hz, ())) : Mo h hz := by
  unfold B_X10_init_412 at hJ
  obtain ⟨a1, ea1, -, hJ⟩ := dr_some hJ
  obtain ⟨rfl, -⟩ := rs2 hJ
  exact ⟨fun _ _ => rfl, Nat.le_refl _, Nat.le_refl _, rfl, fun _ _ => rfl⟩
set_option maxRecDepth 100000 in
set_option maxHeartbeats 4000000 in
theorem sb_X10_init_412 (C : Cx p s m args meth c cX10_init 1 none RX10 D cs A h0.se) (hin2 : meth.name = "<init>") (hz2 : hz.nx ≤ h0.nx + mc ∧ hz.su ≤ h0.su + ms) (N : Nat) (t0 : Nat) (h : Hp) (y0 : Option Nat) (y1 : Option Nat) (hJ : B_X10_init_412 N t0 h y0 y1 = some (hz, ())) (hk0 : h.kd t0 = 13) {H : Heap} {locs : List Loc} {cells slots : Nat} (w : Wo D cs A s h0 h H locs cells slots) {ls : Array Slot} (hl : lv_has ls 1 [(0, .ref t0)]) : W p l e { frames := 1, cells := mc, slots := ms, locals := 40 } s m args below meth c H locs cells slots (MQ below (Zv D cs A hz) args s mc ms A) (F0 m 412 ls [va_rf y1, va_rf y0]) := by
  obtain ⟨hx, hb, hml, hown, hts, -⟩ := id C
  unfold B_X10_init_412 at hJ
  obtain ⟨a1, ea1, hka1, hJ⟩ := dr_some hJ
  rw [ea1]
  refine fp_1366 (x := y1) C hin2 w hka1 tw_6_229 dX10_init_412 (fun H locs w => ?_)
  obtain ⟨rfl, -⟩ := rs2 hJ
  exact jr_vret C w hz2 dX10_init_415
def B_X10_init_403 (N : Nat) (t0 : Nat) (h : Hp) (y0 : Option Nat) (y1 : Option Nat) : Option (Hp × Unit) := dr h 13 y0 (fun a2 => ck (¬ (514 : Int32) < 0 ∧ (514 : Int32).toNatClampNeg ≤ 67108864) (B_X10_init_412 N t0 ((h.sgr 1364 a2 y1).new 32 ((514 : Int32).toNatClampNeg) ((514 : Int32).toNatClampNeg)) (some t0) (some (h.sgr 1364 a2 y1).nx)))
theorem mb_X10_init_403 (N : Nat) (t0 : Nat) (h : Hp) (y0 : Option Nat) (y1 : Option Nat) (hJ : B_X10_init_403 N t0 h y0 y1 = some (hz, ())) : Mo h hz := by
  unfold B_X10_init_403 at hJ
  obtain ⟨a2, ea2, -, hJ⟩ := dr_some hJ
  obtain ⟨-, hJ⟩ := ck_some hJ
  exact (Mo.tr (show Mo h (h.sgr 1364 a2 y1) from ⟨fun _ _ => rfl, Nat.le_refl _, Nat.le_refl _, rfl, fun _ _ => rfl⟩) ((Mo.new (h.sgr 1364 a2 y1) _ _ _).tr (mb_X10_init_412 N t0 _ _ _ hJ)))
set_option maxRecDepth 100000 in
set_option maxHeartbeats 4000000 in
theorem sb_X10_init_403 (C : Cx p s m args meth c cX10_init 1 none RX10 D cs A h0.se) (hin2 : meth.name = "<init>") (hz2 : hz.nx ≤ h0.nx + mc ∧ hz.su ≤ h0.su + ms) (N : Nat) (t0 : Nat) (h : Hp) (y0 : Option Nat) (y1 : Option Nat) (hJ : B_X10_init_403 N t0 h y0 y1 = some (hz, ())) (hk0 : h.kd t0 = 13) {H : Heap} {locs : List Loc} {cells slots : Nat} (w : Wo D cs A s h0 h H locs cells slots) {ls : Array Slot} (hl : lv_has ls 1 [(0, .ref t0)]) : W p l e { frames := 1, cells := mc, slots := ms, locals := 40 } s m args below meth c H locs cells slots (MQ below (Zv D cs A hz) args s mc ms A) (F0 m 403 ls [va_rf y1, va_rf y0]) := by
  obtain ⟨hx, hb, hml, hown, hts, -⟩ := id C
  unfold B_X10_init_403 at hJ
  obtain ⟨a2, ea2, hka2, hJ⟩ := dr_some hJ
  rw [ea2]
  refine fp_1364 (x := y1) C hin2 w hka2 tw_6_227 dX10_init_403 (fun H locs w => ?_)
  refine lv_aload_n hx hb dX10_init_406 rfl (lv_at hl 0 rfl) ?_
  refine lv_sipush (v := (514 : Int32)) hx hb dX10_init_407 (by decide) ?_
  obtain ⟨hn3, hJ⟩ := ck_some hJ
  have w0 := w
  refine fa_32 C w hn3 (mb_X10_init_412 N t0 _ _ _ hJ) hz2 dX10_init_410 (fun H w => ?_)
  have hk4 := kd_new (k := 32) (n := (514 : Int32).toNatClampNeg) (sl := (514 : Int32).toNatClampNeg) w0 hk0 (by decide)
  exact sb_X10_init_412 C hin2 hz2 N t0 _ _ _ hJ hk4 w hl
def B_X10_init_395 (N : Nat) (t0 : Nat) (h : Hp) (y0 : Option Nat) (y1 : Option Nat) : Option (Hp × Unit) := dr h 13 y0 (fun a5 => ck (¬ (10 : Int32) < 0 ∧ (10 : Int32).toNatClampNeg ≤ 67108864) (B_X10_init_403 N t0 ((h.sgr 1362 a5 y1).new 30 ((10 : Int32).toNatClampNeg) ((10 : Int32).toNatClampNeg)) (some t0) (some (h.sgr 1362 a5 y1).nx)))
theorem mb_X10_init_395 (N : Nat) (t0 : Nat) (h : Hp) (y0 : Option Nat) (y1 : Option Nat) (hJ : B_X10_init_395 N t0 h y0 y1 = some (hz, ())) : Mo h hz := by
  unfold B_X10_init_395 at hJ
  obtain ⟨a5, ea5, -, hJ⟩ := dr_some hJ
  obtain ⟨-, hJ⟩ := ck_some hJ
  exact (Mo.tr (show Mo h (h.sgr 1362 a5 y1) from ⟨fun _ _ => rfl, Nat.le_refl _, Nat.le_refl _, rfl, fun _ _ => rfl⟩) ((Mo.new (h.sgr 1362 a5 y1) _ _ _).tr (mb_X10_init_403 N t0 _ _ _ hJ)))
set_option maxRecDepth 100000 in
set_option maxHeartbeats 4000000 in
theorem sb_X10_init_395 (C : Cx p s m args meth c cX10_init 1 none RX10 D cs A h0.se) (hin2 : meth.name = "<init>") (hz2 : hz.nx ≤ h0.nx + mc ∧ hz.su ≤ h0.su + ms) (N : Nat) (t0 : Nat) (h : Hp) (y0 : Option Nat) (y1 : Option Nat) (hJ : B_X10_init_395 N t0 h y0 y1 = some (hz, ())) (hk0 : h.kd t0 = 13) {H : Heap} {locs : List Loc} {cells slots : Nat} (w : Wo D cs A s h0 h H locs cells slots) {ls : Array Slot} (hl : lv_has ls 1 [(0, .ref t0)]) : W p l e { frames := 1, cells := mc, slots := ms, locals := 40 } s m args below meth c H locs cells slots (MQ below (Zv D cs A hz) args s mc ms A) (F0 m 395 ls [va_rf y1, va_rf y0]) := by
  obtain ⟨hx, hb, hml, hown, hts, -⟩ := id C
  unfold B_X10_init_395 at hJ
  obtain ⟨a5, ea5, hka5, hJ⟩ := dr_some hJ
  rw [ea5]
  refine fp_1362 (x := y1) C hin2 w hka5 tw_6_225 dX10_init_395 (fun H locs w => ?_)
  refine lv_aload_n hx hb dX10_init_398 rfl (lv_at hl 0 rfl) ?_
  refine lv_bipush (v := (10 : Int32)) hx hb dX10_init_399 (by decide) ?_
  obtain ⟨hn6, hJ⟩ := ck_some hJ
  have w0 := w
  refine fa_30 C w hn6 (mb_X10_init_403 N t0 _ _ _ hJ) hz2 dX10_init_401 (fun H w => ?_)
  have hk7 := kd_new (k := 30) (n := (10 : Int32).toNatClampNeg) (sl := (10 : Int32).toNatClampNeg) w0 hk0 (by decide)
  exact sb_X10_init_403 C hin2 hz2 N t0 _ _ _ hJ hk7 w hl
def B_X10_init_386 (N : Nat) (t0 : Nat) (h : Hp) (y0 : Option Nat) (y1 : Option Nat) : Option (Hp × Unit) := dr h 13 y0 (fun a8 => ck (¬ (514 : Int32) < 0 ∧ (514 : Int32).toNatClampNeg ≤ 67108864) (B_X10_init_395 N t0 ((h.sgr 1361 a8 y1).new 32 ((514 : Int32).toNatClampNeg) ((514 : Int32).toNatClampNeg)) (some t0) (some (h.sgr 1361 a8 y1).nx)))
theorem mb_X10_init_386 (N : Nat) (t0 : Nat) (h : Hp) (y0 : Option Nat) (y1 : Option Nat) (hJ : B_X10_init_386 N t0 h y0 y1 = some (hz, ())) : Mo h hz := by
  unfold B_X10_init_386 at hJ
  obtain ⟨a8, ea8, -, hJ⟩ := dr_some hJ
  obtain ⟨-, hJ⟩ := ck_some hJ
  exact (Mo.tr (show Mo h (h.sgr 1361 a8 y1) from ⟨fun _ _ => rfl, Nat.le_refl _, Nat.le_refl _, rfl, fun _ _ => rfl⟩) ((Mo.new (h.sgr 1361 a8 y1) _ _ _).tr (mb_X10_init_395 N t0 _ _ _ hJ)))
set_option maxRecDepth 100000 in
set_option maxHeartbeats 4000000 in
theorem sb_X10_init_386 (C : Cx p s m args meth c cX10_init 1 none RX10 D cs A h0.se) (hin2 : meth.name = "<init>") (hz2 : hz.nx ≤ h0.nx + mc ∧ hz.su ≤ h0.su + ms) (N : Nat) (t0 : Nat) (h : Hp) (y0 : Option Nat) (y1 : Option Nat) (hJ : B_X10_init_386 N t0 h y0 y1 = some (hz, ())) (hk0 : h.kd t0 = 13) {H : Heap} {locs : List Loc} {cells slots : Nat} (w : Wo D cs A s h0 h H locs cells slots) {ls : Array Slot} (hl : lv_has ls 1 [(0, .ref t0)]) : W p l e { frames := 1, cells := mc, slots := ms, locals := 40 } s m args below meth c H locs cells slots (MQ below (Zv D cs A hz) args s mc ms A) (F0 m 386 ls [va_rf y1, va_rf y0]) := by
  obtain ⟨hx, hb, hml, hown, hts, -⟩ := id C
  unfold B_X10_init_386 at hJ
  obtain ⟨a8, ea8, hka8, hJ⟩ := dr_some hJ
  rw [ea8]
  refine fp_1361 (x := y1) C hin2 w hka8 tw_6_224 dX10_init_386 (fun H locs w => ?_)
  refine lv_aload_n hx hb dX10_init_389 rfl (lv_at hl 0 rfl) ?_
  refine lv_sipush (v := (514 : Int32)) hx hb dX10_init_390 (by decide) ?_
  obtain ⟨hn9, hJ⟩ := ck_some hJ
  have w0 := w
  refine fa_32 C w hn9 (mb_X10_init_395 N t0 _ _ _ hJ) hz2 dX10_init_393 (fun H w => ?_)
  have hk10 := kd_new (k := 32) (n := (514 : Int32).toNatClampNeg) (sl := (514 : Int32).toNatClampNeg) w0 hk0 (by decide)
  exact sb_X10_init_395 C hin2 hz2 N t0 _ _ _ hJ hk10 w hl
def B_X10_init_377 (N : Nat) (t0 : Nat) (h : Hp) (y0 : Option Nat) (y1 : Option Nat) : Option (Hp × Unit) := dr h 13 y0 (fun a11 => ck (¬ (514 : Int32) < 0 ∧ (514 : Int32).toNatClampNeg ≤ 67108864) (B_X10_init_386 N t0 ((h.sgr 1360 a11 y1).new 31 ((514 : Int32).toNatClampNeg) ((514 : Int32).toNatClampNeg)) (some t0) (some (h.sgr 1360 a11 y1).nx)))
theorem mb_X10_init_377 (N : Nat) (t0 : Nat) (h : Hp) (y0 : Option Nat) (y1 : Option Nat) (hJ : B_X10_init_377 N t0 h y0 y1 = some (hz, ())) : Mo h hz := by
  unfold B_X10_init_377 at hJ
  obtain ⟨a11, ea11, -, hJ⟩ := dr_some hJ
  obtain ⟨-, hJ⟩ := ck_some hJ
  exact (Mo.tr (show Mo h (h.sgr 1360 a11 y1) from ⟨fun _ _ => rfl, Nat.le_refl _, Nat.le_refl _, rfl, fun _ _ => rfl⟩) ((Mo.new (h.sgr 1360 a11 y1) _ _ _).tr (mb_X10_init_386 N t0 _ _ _ hJ)))
set_option maxRecDepth 100000 in
set_option maxHeartbeats 4000000 in
theorem sb_X10_init_377 (C : Cx p s m args meth c cX10_init 1 none RX10 D cs A h0.se) (hin2 : meth.name = "<init>") (hz2 : hz.nx ≤ h0.nx + mc ∧ hz.su ≤ h0.su + ms) (N : Nat) (t0 : Nat) (h : Hp) (y0 : Option Nat) (y1 : Option Nat) (hJ : B_X10_init_377 N t0 h y0 y1 = some (hz, ())) (hk0 : h.kd t0 = 13) {H : Heap} {locs : List Loc} {cells slots : Nat} (w : Wo D cs A s h0 h H locs cells slots) {ls : Array Slot} (hl : lv_has ls 1 [(0, .ref t0)]) : W p l e { frames := 1, cells := mc, slots := ms, locals := 40 } s m args below meth c H locs cells slots (MQ below (Zv D cs A hz) args s mc ms A) (F0 m 377 ls [va_rf y1, va_rf y0]) := by
  obtain ⟨hx, hb, hml, hown, hts, -⟩ := id C
  unfold B_X10_init_377 at hJ
  obtain ⟨a11, ea11, hka11, hJ⟩ := dr_some hJ
  rw [ea11]
  refine fp_1360 (x := y1) C hin2 w hka11 tw_6_223 dX10_init_377 (fun H locs w => ?_)
  refine lv_aload_n hx hb dX10_init_380 rfl (lv_at hl 0 rfl) ?_
  refine lv_sipush (v := (514 : Int32)) hx hb dX10_init_381 (by decide) ?_
  obtain ⟨hn12, hJ⟩ := ck_some hJ
  have w0 := w
  refine fa_31 C w hn12 (mb_X10_init_386 N t0 _ _ _ hJ) hz2 dX10_init_384 (fun H w => ?_)
  have hk13 := kd_new (k := 31) (n := (514 : Int32).toNatClampNeg) (sl := (514 : Int32).toNatClampNeg) w0 hk0 (by decide)
  exact sb_X10_init_386 C hin2 hz2 N t0 _ _ _ hJ hk13 w hl
def B_X10_init_368 (N : Nat) (t0 : Nat) (h : Hp) (y0 : Option Nat) (y1 : Option Nat) : Option (Hp × Unit) := dr h 13 y0 (fun a14 => ck (¬ (514 : Int32) < 0 ∧ (514 : Int32).toNatClampNeg ≤ 67108864) (B_X10_init_377 N t0 ((h.sgr 1359 a14 y1).new 30 ((514 : Int32).toNatClampNeg) ((514 : Int32).toNatClampNeg)) (some t0) (some (h.sgr 1359 a14 y1).nx)))
theorem mb_X10_init_368 (N : Nat) (t0 : Nat) (h : Hp) (y0 : Option Nat) (y1 : Option Nat) (hJ : B_X10_init_368 N t0 h y0 y1 = some (hz, ())) : Mo h hz := by
  unfold B_X10_init_368 at hJ
  obtain ⟨a14, ea14, -, hJ⟩ := dr_some hJ
  obtain ⟨-, hJ⟩ := ck_some hJ
  exact (Mo.tr (show Mo h (h.sgr 1359 a14 y1) from ⟨fun _ _ => rfl, Nat.le_refl _, Nat.le_refl _, rfl, fun _ _ => rfl⟩) ((Mo.new (h.sgr 1359 a14 y1) _ _ _).tr (mb_X10_init_377 N t0 _ _ _ hJ)))
set_option maxRecDepth 100000 in
set_option maxHeartbeats 4000000 in
theorem sb_X10_init_368 (C : Cx p s m args meth c cX10_init 1 none RX10 D cs A h0.se) (hin2 : meth.name = "<init>") (hz2 : hz.nx ≤ h0.nx + mc ∧ hz.su ≤ h0.su + ms) (N : Nat) (t0 : Nat) (h : Hp) (y0 : Option Nat) (y1 : Option Nat) (hJ : B_X10_init_368 N t0 h y0 y1 = some (hz, ())) (hk0 : h.kd t0 = 13) {H : Heap} {locs : List Loc} {cells slots : Nat} (w : Wo D cs A s h0 h H locs cells slots) {ls : Array Slot} (hl : lv_has ls 1 [(0, .ref t0)]) : W p l e { frames := 1, cells := mc, slots := ms, locals := 40 } s m args below meth c H locs cells slots (MQ below (Zv D cs A hz) args s mc ms A) (F0 m 368 ls [va_rf y1, va_rf y0]) := by
  obtain ⟨hx, hb, hml, hown, hts, -⟩ := id C
  unfold B_X10_init_368 at hJ
  obtain ⟨a14, ea14, hka14, hJ⟩ := dr_some hJ
  rw [ea14]
  refine fp_1359 (x := y1) C hin2 w hka14 tw_6_222 dX10_init_368 (fun H locs w => ?_)
  refine lv_aload_n hx hb dX10_init_371 rfl (lv_at hl 0 rfl) ?_
  refine lv_sipush (v := (514 : Int32)) hx hb dX10_init_372 (by decide) ?_
  obtain ⟨hn15, hJ⟩ := ck_some hJ
  have w0 := w
  refine fa_30 C w hn15 (mb_X10_init_377 N t0 _ _ _ hJ) hz2 dX10_init_375 (fun H w => ?_)
  have hk16 := kd_new (k := 30) (n := (514 : Int32).toNatClampNeg) (sl := (514 : Int32).toNatClampNeg) w0 hk0 (by decide)
  exact sb_X10_init_377 C hin2 hz2 N t0 _ _ _ hJ hk16 w hl
def B_X10_init_359 (N : Nat) (t0 : Nat) (h : Hp) (y0 : Option Nat) (y1 : Option Nat) : Option (Hp × Unit) := dr h 13 y0 (fun a17 => ck (¬ (514 : Int32) < 0 ∧ (514 : Int32).toNatClampNeg ≤ 67108864) (B_X10_init_368 N t0 ((h.sgr 1358 a17 y1).new 31 ((514 : Int32).toNatClampNeg) ((514 : Int32).toNatClampNeg)) (some t0) (some (h.sgr 1358 a17 y1).nx)))
theorem mb_X10_init_359 (N : Nat) (t0 : Nat) (h : Hp) (y0 : Option Nat) (y1 : Option Nat) (hJ : B_X10_init_359 N t0 h y0 y1 = some (hz, ())) : Mo h hz := by
  unfold B_X10_init_359 at hJ
  obtain ⟨a17, ea17, -, hJ⟩ := dr_some hJ
  obtain ⟨-, hJ⟩ := ck_some hJ
  exact (Mo.tr (show Mo h (h.sgr 1358 a17 y1) from ⟨fun _ _ => rfl, Nat.le_refl _, Nat.le_refl _, rfl, fun _ _ => rfl⟩) ((Mo.new (h.sgr 1358 a17 y1) _ _ _).tr (mb_X10_init_368 N t0 _ _ _ hJ)))
set_option maxRecDepth 100000 in
set_option maxHeartbeats 4000000 in
theorem sb_X10_init_359 (C : Cx p s m args meth c cX10_init 1 none RX10 D cs A h0.se) (hin2 : meth.name = "<init>") (hz2 : hz.nx ≤ h0.nx + mc ∧ hz.su ≤ h0.su + ms) (N : Nat) (t0 : Nat) (h : Hp) (y0 : Option Nat) (y1 : Option Nat) (hJ : B_X10_init_359 N t0 h y0 y1 = some (hz, ())) (hk0 : h.kd t0 = 13) {H : Heap} {locs : List Loc} {cells slots : Nat} (w : Wo D cs A s h0 h H locs cells slots) {ls : Array Slot} (hl : lv_has ls 1 [(0, .ref t0)]) : W p l e { frames := 1, cells := mc, slots := ms, locals := 40 } s m args below meth c H locs cells slots (MQ below (Zv D cs A hz) args s mc ms A) (F0 m 359 ls [va_rf y1, va_rf y0]) := by
  obtain ⟨hx, hb, hml, hown, hts, -⟩ := id C
  unfold B_X10_init_359 at hJ
  obtain ⟨a17, ea17, hka17, hJ⟩ := dr_some hJ
  rw [ea17]
  refine fp_1358 (x := y1) C hin2 w hka17 tw_6_221 dX10_init_359 (fun H locs w => ?_)
  refine lv_aload_n hx hb dX10_init_362 rfl (lv_at hl 0 rfl) ?_
  refine lv_sipush (v := (514 : Int32)) hx hb dX10_init_363 (by decide) ?_
  obtain ⟨hn18, hJ⟩ := ck_some hJ
  have w0 := w
  refine fa_31 C w hn18 (mb_X10_init_368 N t0 _ _ _ hJ) hz2 dX10_init_366 (fun H w => ?_)
  have hk19 := kd_new (k := 31) (n := (514 : Int32).toNatClampNeg) (sl := (514 : Int32).toNatClampNeg) w0 hk0 (by decide)
  exact sb_X10_init_368 C hin2 hz2 N t0 _ _ _ hJ hk19 w hl
def B_X10_init_350 (N : Nat) (t0 : Nat) (h : Hp) (y0 : Option Nat) (y1 : Option Nat) : Option (Hp × Unit) := dr h 13 y0 (fun a20 => ck (¬ (514 : Int32) < 0 ∧ (514 : Int32).toNatClampNeg ≤ 67108864) (B_X10_init_359 N t0 ((h.sgr 1357 a20 y1).new 32 ((514 : Int32).toNatClampNeg) ((514 : Int32).toNatClampNeg)) (some t0) (some (h.sgr 1357 a20 y1).nx)))
theorem mb_X10_init_350 (N : Nat) (t0 : Nat) (h : Hp) (y0 : Option Nat) (y1 : Option Nat) (hJ : B_X10_init_350 N t0 h y0 y1 = some (hz, ())) : Mo h hz := by
  unfold B_X10_init_350 at hJ
  obtain ⟨a20, ea20, -, hJ⟩ := dr_some hJ
  obtain ⟨-, hJ⟩ := ck_some hJ
  exact (Mo.tr (show Mo h (h.sgr 1357 a20 y1) from ⟨fun _ _ => rfl, Nat.le_refl _, Nat.le_refl _, rfl, fun _ _ => rfl⟩) ((Mo.new (h.sgr 1357 a20 y1) _ _ _).tr (mb_X10_init_359 N t0 _ _ _ hJ)))
set_option maxRecDepth 100000 in
set_option maxHeartbeats 4000000 in
theorem sb_X10_init_350 (C : Cx p s m args meth c cX10_init 1 none RX10 D cs A h0.se) (hin2 : meth.name = "<init>") (hz2 : hz.nx ≤ h0.nx + mc ∧ hz.su ≤ h0.su + ms) (N : Nat) (t0 : Nat) (h : Hp) (y0 : Option Nat) (y1 : Option Nat) (hJ : B_X10_init_350 N t0 h y0 y1 = some (hz, ())) (hk0 : h.kd t0 = 13) {H : Heap} {locs : List Loc} {cells slots : Nat} (w : Wo D cs A s h0 h H locs cells slots) {ls : Array Slot} (hl : lv_has ls 1 [(0, .ref t0)]) : W p l e { frames := 1, cells := mc, slots := ms, locals := 40 } s m args below meth c H locs cells slots (MQ below (Zv D cs A hz) args s mc ms A) (F0 m 350 ls [va_rf y1, va_rf y0]) := by
  obtain ⟨hx, hb, hml, hown, hts, -⟩ := id C
  unfold B_X10_init_350 at hJ
  obtain ⟨a20, ea20, hka20, hJ⟩ := dr_some hJ
  rw [ea20]
  refine fp_1357 (x := y1) C hin2 w hka20 tw_6_220 dX10_init_350 (fun H locs w => ?_)
  refine lv_aload_n hx hb dX10_init_353 rfl (lv_at hl 0 rfl) ?_
  refine lv_sipush (v := (514 : Int32)) hx hb dX10_init_354 (by decide) ?_
  obtain ⟨hn21, hJ⟩ := ck_some hJ
  have w0 := w
  refine fa_32 C w hn21 (mb_X10_init_359 N t0 _ _ _ hJ) hz2 dX10_init_357 (fun H w => ?_)
  have hk22 := kd_new (k := 32) (n := (514 : Int32).toNatClampNeg) (sl := (514 : Int32).toNatClampNeg) w0 hk0 (by decide)
  exact sb_X10_init_359 C hin2 hz2 N t0 _ _ _ hJ hk22 w hl
def B_X10_init_341 (N : Nat) (t0 : Nat) (h : Hp) (y0 : Option Nat) (y1 : Option Nat) : Option (Hp × Unit) := dr h 13 y0 (fun a23 => ck (¬ (4626 : Int32) < 0 ∧ (4626 : Int32).toNatClampNeg ≤ 67108864) (B_X10_init_350 N t0 ((h.sgr 1356 a23 y1).new 31 ((4626 : Int32).toNatClampNeg) ((4626 : Int32).toNatClampNeg)) (some t0) (some (h.sgr 1356 a23 y1).nx)))
theorem mb_X10_init_341 (N : Nat) (t0 : Nat) (h : Hp) (y0 : Option Nat) (y1 : Option Nat) (hJ : B_X10_init_341 N t0 h y0 y1 = some (hz, ())) : Mo h hz := by
  unfold B_X10_init_341 at hJ
  obtain ⟨a23, ea23, -, hJ⟩ := dr_some hJ
  obtain ⟨-, hJ⟩ := ck_some hJ
  exact (Mo.tr (show Mo h (h.sgr 1356 a23 y1) from ⟨fun _ _ => rfl, Nat.le_refl _, Nat.le_refl _, rfl, fun _ _ => rfl⟩) ((Mo.new (h.sgr 1356 a23 y1) _ _ _).tr (mb_X10_init_350 N t0 _ _ _ hJ)))
set_option maxRecDepth 100000 in
set_option maxHeartbeats 4000000 in
theorem sb_X10_init_341 (C : Cx p s m args meth c cX10_init 1 none RX10 D cs A h0.se) (hin2 : meth.name = "<init>") (hz2 : hz.nx ≤ h0.nx + mc ∧ hz.su ≤ h0.su + ms) (N : Nat) (t0 : Nat) (h : Hp) (y0 : Option Nat) (y1 : Option Nat) (hJ : B_X10_init_341 N t0 h y0 y1 = some (hz, ())) (hk0 : h.kd t0 = 13) {H : Heap} {locs : List Loc} {cells slots : Nat} (w : Wo D cs A s h0 h H locs cells slots) {ls : Array Slot} (hl : lv_has ls 1 [(0, .ref t0)]) : W p l e { frames := 1, cells := mc, slots := ms, locals := 40 } s m args below meth c H locs cells slots (MQ below (Zv D cs A hz) args s mc ms A) (F0 m 341 ls [va_rf y1, va_rf y0]) := by
  obtain ⟨hx, hb, hml, hown, hts, -⟩ := id C
  unfold B_X10_init_341 at hJ
  obtain ⟨a23, ea23, hka23, hJ⟩ := dr_some hJ
  rw [ea23]
  refine fp_1356 (x := y1) C hin2 w hka23 tw_6_219 dX10_init_341 (fun H locs w => ?_)
  refine lv_aload_n hx hb dX10_init_344 rfl (lv_at hl 0 rfl) ?_
  refine lv_sipush (v := (4626 : Int32)) hx hb dX10_init_345 (by decide) ?_
  obtain ⟨hn24, hJ⟩ := ck_some hJ
  have w0 := w
  refine fa_31 C w hn24 (mb_X10_init_350 N t0 _ _ _ hJ) hz2 dX10_init_348 (fun H w => ?_)
  have hk25 := kd_new (k := 31) (n := (4626 : Int32).toNatClampNeg) (sl := (4626 : Int32).toNatClampNeg) w0 hk0 (by decide)
  exact sb_X10_init_350 C hin2 hz2 N t0 _ _ _ hJ hk25 w hl
def B_X10_init_332 (N : Nat) (t0 : Nat) (h : Hp) (y0 : Option Nat) (y1 : Option Nat) : Option (Hp × Unit) := dr h 13 y0 (fun a26 => ck (¬ (4626 : Int32) < 0 ∧ (4626 : Int32).toNatClampNeg ≤ 67108864) (B_X10_init_341 N t0 ((h.sgr 1355 a26 y1).new 31 ((4626 : Int32).toNatClampNeg) ((4626 : Int32).toNatClampNeg)) (some t0) (some (h.sgr 1355 a26 y1).nx)))
theorem mb_X10_init_332 (N : Nat) (t0 : Nat) (h : Hp) (y0 : Option Nat) (y1 : Option Nat) (hJ : B_X10_init_332 N t0 h y0 y1 = some (hz, ())) : Mo h hz := by
  unfold B_X10_init_332 at hJ
  obtain ⟨a26, ea26, -, hJ⟩ := dr_some hJ
  obtain ⟨-, hJ⟩ := ck_some hJ
  exact (Mo.tr (show Mo h (h.sgr 1355 a26 y1) from ⟨fun _ _ => rfl, Nat.le_refl _, Nat.le_refl _, rfl, fun _ _ => rfl⟩) ((Mo.new (h.sgr 1355 a26 y1) _ _ _).tr (mb_X10_init_341 N t0 _ _ _ hJ)))
set_option maxRecDepth 100000 in
set_option maxHeartbeats 4000000 in
theorem sb_X10_init_332 (C : Cx p s m args meth c cX10_init 1 none RX10 D cs A h0.se) (hin2 : meth.name = "<init>") (hz2 : hz.nx ≤ h0.nx + mc ∧ hz.su ≤ h0.su + ms) (N : Nat) (t0 : Nat) (h : Hp) (y0 : Option Nat) (y1 : Option Nat) (hJ : B_X10_init_332 N t0 h y0 y1 = some (hz, ())) (hk0 : h.kd t0 = 13) {H : Heap} {locs : List Loc} {cells slots : Nat} (w : Wo D cs A s h0 h H locs cells slots) {ls : Array Slot} (hl : lv_has ls 1 [(0, .ref t0)]) : W p l e { frames := 1, cells := mc, slots := ms, locals := 40 } s m args below meth c H locs cells slots (MQ below (Zv D cs A hz) args s mc ms A) (F0 m 332 ls [va_rf y1, va_rf y0]) := by
  obtain ⟨hx, hb, hml, hown, hts, -⟩ := id C
  unfold B_X10_init_332 at hJ
  obtain ⟨a26, ea26, hka26, hJ⟩ := dr_some hJ
  rw [ea26]
  refine fp_1355 (x := y1) C hin2 w hka26 tw_6_218 dX10_init_332 (fun H locs w => ?_)
  refine lv_aload_n hx hb dX10_init_335 rfl (lv_at hl 0 rfl) ?_
  refine lv_sipush (v := (4626 : Int32)) hx hb dX10_init_336 (by decide) ?_
  obtain ⟨hn27, hJ⟩ := ck_some hJ
  have w0 := w
  refine fa_31 C w hn27 (mb_X10_init_341 N t0 _ _ _ hJ) hz2 dX10_init_339 (fun H w => ?_)
  have hk28 := kd_new (k := 31) (n := (4626 : Int32).toNatClampNeg) (sl := (4626 : Int32).toNatClampNeg) w0 hk0 (by decide)
  exact sb_X10_init_341 C hin2 hz2 N t0 _ _ _ hJ hk28 w hl
def B_X10_init_323 (N : Nat) (t0 : Nat) (h : Hp) (y0 : Option Nat) (y1 : Option Nat) : Option (Hp × Unit) := dr h 13 y0 (fun a29 => ck (¬ (514 : Int32) < 0 ∧ (514 : Int32).toNatClampNeg ≤ 67108864) (B_X10_init_332 N t0 ((h.sgr 1354 a29 y1).new 30 ((514 : Int32).toNatClampNeg) ((514 : Int32).toNatClampNeg)) (some t0) (some (h.sgr 1354 a29 y1).nx)))
theorem mb_X10_init_323 (N : Nat) (t0 : Nat) (h : Hp) (y0 : Option Nat) (y1 : Option Nat) (hJ : B_X10_init_323 N t0 h y0 y1 = some (hz, ())) : Mo h hz := by
  unfold B_X10_init_323 at hJ
  obtain ⟨a29, ea29, -, hJ⟩ := dr_some hJ
  obtain ⟨-, hJ⟩ := ck_some hJ
  exact (Mo.tr (show Mo h (h.sgr 1354 a29 y1) from ⟨fun _ _ => rfl, Nat.le_refl _, Nat.le_refl _, rfl, fun _ _ => rfl⟩) ((Mo.new (h.sgr 1354 a29 y1) _ _ _).tr (mb_X10_init_332 N t0 _ _ _ hJ)))
set_option maxRecDepth 100000 in
set_option maxHeartbeats 4000000 in
theorem sb_X10_init_323 (C : Cx p s m args meth c cX10_init 1 none RX10 D cs A h0.se) (hin2 : meth.name = "<init>") (hz2 : hz.nx ≤ h0.nx + mc ∧ hz.su ≤ h0.su + ms) (N : Nat) (t0 : Nat) (h : Hp) (y0 : Option Nat) (y1 : Option Nat) (hJ : B_X10_init_323 N t0 h y0 y1 = some (hz, ())) (hk0 : h.kd t0 = 13) {H : Heap} {locs : List Loc} {cells slots : Nat} (w : Wo D cs A s h0 h H locs cells slots) {ls : Array Slot} (hl : lv_has ls 1 [(0, .ref t0)]) : W p l e { frames := 1, cells := mc, slots := ms, locals := 40 } s m args below meth c H locs cells slots (MQ below (Zv D cs A hz) args s mc ms A) (F0 m 323 ls [va_rf y1, va_rf y0]) := by
  obtain ⟨hx, hb, hml, hown, hts, -⟩ := id C
  unfold B_X10_init_323 at hJ
  obtain ⟨a29, ea29, hka29, hJ⟩ := dr_some hJ
  rw [ea29]
  refine fp_1354 (x := y1) C hin2 w hka29 tw_6_217 dX10_init_323 (fun H locs w => ?_)
  refine lv_aload_n hx hb dX10_init_326 rfl (lv_at hl 0 rfl) ?_
  refine lv_sipush (v := (514 : Int32)) hx hb dX10_init_327 (by decide) ?_
  obtain ⟨hn30, hJ⟩ := ck_some hJ
  have w0 := w
  refine fa_30 C w hn30 (mb_X10_init_332 N t0 _ _ _ hJ) hz2 dX10_init_330 (fun H w => ?_)
  have hk31 := kd_new (k := 30) (n := (514 : Int32).toNatClampNeg) (sl := (514 : Int32).toNatClampNeg) w0 hk0 (by decide)
  exact sb_X10_init_332 C hin2 hz2 N t0 _ _ _ hJ hk31 w hl
def B_X10_init_314 (N : Nat) (t0 : Nat) (h : Hp) (y0 : Option Nat) (y1 : Option Nat) : Option (Hp × Unit) := dr h 13 y0 (fun a32 => ck (¬ (514 : Int32) < 0 ∧ (514 : Int32).toNatClampNeg ≤ 67108864) (B_X10_init_323 N t0 ((h.sgr 1352 a32 y1).new 30 ((514 : Int32).toNatClampNeg) ((514 : Int32).toNatClampNeg)) (some t0) (some (h.sgr 1352 a32 y1).nx)))
theorem mb_X10_init_314 (N : Nat) (t0 : Nat) (h : Hp) (y0 : Option Nat) (y1 : Option Nat) (hJ : B_X10_init_314 N t0 h y0 y1 = some (hz, ())) : Mo h hz := by
  unfold B_X10_init_314 at hJ
  obtain ⟨a32, ea32, -, hJ⟩ := dr_some hJ
  obtain ⟨-, hJ⟩ := ck_some hJ
  exact (Mo.tr (show Mo h (h.sgr 1352 a32 y1) from ⟨fun _ _ => rfl, Nat.le_refl _, Nat.le_refl _, rfl, fun _ _ => rfl⟩) ((Mo.new (h.sgr 1352 a32 y1) _ _ _).tr (mb_X10_init_323 N t0 _ _ _ hJ)))
set_option maxRecDepth 100000 in
set_option maxHeartbeats 4000000 in
theorem sb_X10_init_314 (C : Cx p s m args meth c cX10_init 1 none RX10 D cs A h0.se) (hin2 : meth.name = "<init>") (hz2 : hz.nx ≤ h0.nx + mc ∧ hz.su ≤ h0.su + ms) (N : Nat) (t0 : Nat) (h : Hp) (y0 : Option Nat) (y1 : Option Nat) (hJ : B_X10_init_314 N t0 h y0 y1 = some (hz, ())) (hk0 : h.kd t0 = 13) {H : Heap} {locs : List Loc} {cells slots : Nat} (w : Wo D cs A s h0 h H locs cells slots) {ls : Array Slot} (hl : lv_has ls 1 [(0, .ref t0)]) : W p l e { frames := 1, cells := mc, slots := ms, locals := 40 } s m args below meth c H locs cells slots (MQ below (Zv D cs A hz) args s mc ms A) (F0 m 314 ls [va_rf y1, va_rf y0]) := by
  obtain ⟨hx, hb, hml, hown, hts, -⟩ := id C
  unfold B_X10_init_314 at hJ
  obtain ⟨a32, ea32, hka32, hJ⟩ := dr_some hJ
  rw [ea32]
  refine fp_1352 (x := y1) C hin2 w hka32 tw_6_215 dX10_init_314 (fun H locs w => ?_)
  refine lv_aload_n hx hb dX10_init_317 rfl (lv_at hl 0 rfl) ?_
  refine lv_sipush (v := (514 : Int32)) hx hb dX10_init_318 (by decide) ?_
  obtain ⟨hn33, hJ⟩ := ck_some hJ
  have w0 := w
  refine fa_30 C w hn33 (mb_X10_init_323 N t0 _ _ _ hJ) hz2 dX10_init_321 (fun H w => ?_)
  have hk34 := kd_new (k := 30) (n := (514 : Int32).toNatClampNeg) (sl := (514 : Int32).toNatClampNeg) w0 hk0 (by decide)
  exact sb_X10_init_323 C hin2 hz2 N t0 _ _ _ hJ hk34 w hl
def B_X10_init_305 (N : Nat) (t0 : Nat) (h : Hp) (y0 : Option Nat) (y1 : Option Nat) : Option (Hp × Unit) := dr h 13 y0 (fun a35 => ck (¬ (514 : Int32) < 0 ∧ (514 : Int32).toNatClampNeg ≤ 67108864) (B_X10_init_314 N t0 ((h.sgr 1341 a35 y1).new 30 ((514 : Int32).toNatClampNeg) ((514 : Int32).toNatClampNeg)) (some t0) (some (h.sgr 1341 a35 y1).nx)))
theorem mb_X10_init_305 (N : Nat) (t0 : Nat) (h : Hp) (y0 : Option Nat) (y1 : Option Nat) (hJ : B_X10_init_305 N t0 h y0 y1 = some (hz, ())) : Mo h hz := by
  unfold B_X10_init_305 at hJ
  obtain ⟨a35, ea35, -, hJ⟩ := dr_some hJ
  obtain ⟨-, hJ⟩ := ck_some hJ
  exact (Mo.tr (show Mo h (h.sgr 1341 a35 y1) from ⟨fun _ _ => rfl, Nat.le_refl _, Nat.le_refl _, rfl, fun _ _ => rfl⟩) ((Mo.new (h.sgr 1341 a35 y1) _ _ _).tr (mb_X10_init_314 N t0 _ _ _ hJ)))
set_option maxRecDepth 100000 in
set_option maxHeartbeats 4000000 in
theorem sb_X10_init_305 (C : Cx p s m args meth c cX10_init 1 none RX10 D cs A h0.se) (hin2 : meth.name = "<init>") (hz2 : hz.nx ≤ h0.nx + mc ∧ hz.su ≤ h0.su + ms) (N : Nat) (t0 : Nat) (h : Hp) (y0 : Option Nat) (y1 : Option Nat) (hJ : B_X10_init_305 N t0 h y0 y1 = some (hz, ())) (hk0 : h.kd t0 = 13) {H : Heap} {locs : List Loc} {cells slots : Nat} (w : Wo D cs A s h0 h H locs cells slots) {ls : Array Slot} (hl : lv_has ls 1 [(0, .ref t0)]) : W p l e { frames := 1, cells := mc, slots := ms, locals := 40 } s m args below meth c H locs cells slots (MQ below (Zv D cs A hz) args s mc ms A) (F0 m 305 ls [va_rf y1, va_rf y0]) := by
  obtain ⟨hx, hb, hml, hown, hts, -⟩ := id C
  unfold B_X10_init_305 at hJ
  obtain ⟨a35, ea35, hka35, hJ⟩ := dr_some hJ
  rw [ea35]
  refine fp_1341 (x := y1) C hin2 w hka35 tw_6_204 dX10_init_305 (fun H locs w => ?_)
  refine lv_aload_n hx hb dX10_init_308 rfl (lv_at hl 0 rfl) ?_
  refine lv_sipush (v := (514 : Int32)) hx hb dX10_init_309 (by decide) ?_
  obtain ⟨hn36, hJ⟩ := ck_some hJ
  have w0 := w
  refine fa_30 C w hn36 (mb_X10_init_314 N t0 _ _ _ hJ) hz2 dX10_init_312 (fun H w => ?_)
  have hk37 := kd_new (k := 30) (n := (514 : Int32).toNatClampNeg) (sl := (514 : Int32).toNatClampNeg) w0 hk0 (by decide)
  exact sb_X10_init_314 C hin2 hz2 N t0 _ _ _ hJ hk37 w hl
def B_X10_init_297 (N : Nat) (t0 : Nat) (h : Hp) (y0 : Option Nat) (y1 : Option Nat) : Option (Hp × Unit) := dr h 13 y0 (fun a38 => ck (¬ (42000 : Int32) < 0 ∧ (42000 : Int32).toNatClampNeg ≤ 67108864) (B_X10_init_305 N t0 ((h.sgr 1340 a38 y1).new 31 ((42000 : Int32).toNatClampNeg) ((42000 : Int32).toNatClampNeg)) (some t0) (some (h.sgr 1340 a38 y1).nx)))
theorem mb_X10_init_297 (N : Nat) (t0 : Nat) (h : Hp) (y0 : Option Nat) (y1 : Option Nat) (hJ : B_X10_init_297 N t0 h y0 y1 = some (hz, ())) : Mo h hz := by
  unfold B_X10_init_297 at hJ
  obtain ⟨a38, ea38, -, hJ⟩ := dr_some hJ
  obtain ⟨-, hJ⟩ := ck_some hJ
  exact (Mo.tr (show Mo h (h.sgr 1340 a38 y1) from ⟨fun _ _ => rfl, Nat.le_refl _, Nat.le_refl _, rfl, fun _ _ => rfl⟩) ((Mo.new (h.sgr 1340 a38 y1) _ _ _).tr (mb_X10_init_305 N t0 _ _ _ hJ)))
set_option maxRecDepth 100000 in
set_option maxHeartbeats 4000000 in
theorem sb_X10_init_297 (C : Cx p s m args meth c cX10_init 1 none RX10 D cs A h0.se) (hin2 : meth.name = "<init>") (hz2 : hz.nx ≤ h0.nx + mc ∧ hz.su ≤ h0.su + ms) (N : Nat) (t0 : Nat) (h : Hp) (y0 : Option Nat) (y1 : Option Nat) (hJ : B_X10_init_297 N t0 h y0 y1 = some (hz, ())) (hk0 : h.kd t0 = 13) {H : Heap} {locs : List Loc} {cells slots : Nat} (w : Wo D cs A s h0 h H locs cells slots) {ls : Array Slot} (hl : lv_has ls 1 [(0, .ref t0)]) : W p l e { frames := 1, cells := mc, slots := ms, locals := 40 } s m args below meth c H locs cells slots (MQ below (Zv D cs A hz) args s mc ms A) (F0 m 297 ls [va_rf y1, va_rf y0]) := by
  obtain ⟨hx, hb, hml, hown, hts, -⟩ := id C
  unfold B_X10_init_297 at hJ
  obtain ⟨a38, ea38, hka38, hJ⟩ := dr_some hJ
  rw [ea38]
  refine fp_1340 (x := y1) C hin2 w hka38 tw_6_203 dX10_init_297 (fun H locs w => ?_)
  refine lv_aload_n hx hb dX10_init_300 rfl (lv_at hl 0 rfl) ?_
  refine lv_ldc (v := (42000 : Int32)) hx hb hown (hts _ tw_6_162) dX10_init_301 ?_
  obtain ⟨hn39, hJ⟩ := ck_some hJ
  have w0 := w
  refine fa_31 C w hn39 (mb_X10_init_305 N t0 _ _ _ hJ) hz2 dX10_init_303 (fun H w => ?_)
  have hk40 := kd_new (k := 31) (n := (42000 : Int32).toNatClampNeg) (sl := (42000 : Int32).toNatClampNeg) w0 hk0 (by decide)
  exact sb_X10_init_305 C hin2 hz2 N t0 _ _ _ hJ hk40 w hl
def B_X10_init_289 (N : Nat) (t0 : Nat) (h : Hp) (y0 : Option Nat) (y1 : Option Nat) : Option (Hp × Unit) := dr h 13 y0 (fun a41 => ck (¬ (42000 : Int32) < 0 ∧ (42000 : Int32).toNatClampNeg ≤ 67108864) (B_X10_init_297 N t0 ((h.sgr 1338 a41 y1).new 30 ((42000 : Int32).toNatClampNeg) ((42000 : Int32).toNatClampNeg)) (some t0) (some (h.sgr 1338 a41 y1).nx)))
theorem mb_X10_init_289 (N : Nat) (t0 : Nat) (h : Hp) (y0 : Option Nat) (y1 : Option Nat) (hJ : B_X10_init_289 N t0 h y0 y1 = some (hz, ())) : Mo h hz := by
  unfold B_X10_init_289 at hJ
  obtain ⟨a41, ea41, -, hJ⟩ := dr_some hJ
  obtain ⟨-, hJ⟩ := ck_some hJ
  exact (Mo.tr (show Mo h (h.sgr 1338 a41 y1) from ⟨fun _ _ => rfl, Nat.le_refl _, Nat.le_refl _, rfl, fun _ _ => rfl⟩) ((Mo.new (h.sgr 1338 a41 y1) _ _ _).tr (mb_X10_init_297 N t0 _ _ _ hJ)))
set_option maxRecDepth 100000 in
set_option maxHeartbeats 4000000 in
theorem sb_X10_init_289 (C : Cx p s m args meth c cX10_init 1 none RX10 D cs A h0.se) (hin2 : meth.name = "<init>") (hz2 : hz.nx ≤ h0.nx + mc ∧ hz.su ≤ h0.su + ms) (N : Nat) (t0 : Nat) (h : Hp) (y0 : Option Nat) (y1 : Option Nat) (hJ : B_X10_init_289 N t0 h y0 y1 = some (hz, ())) (hk0 : h.kd t0 = 13) {H : Heap} {locs : List Loc} {cells slots : Nat} (w : Wo D cs A s h0 h H locs cells slots) {ls : Array Slot} (hl : lv_has ls 1 [(0, .ref t0)]) : W p l e { frames := 1, cells := mc, slots := ms, locals := 40 } s m args below meth c H locs cells slots (MQ below (Zv D cs A hz) args s mc ms A) (F0 m 289 ls [va_rf y1, va_rf y0]) := by
  obtain ⟨hx, hb, hml, hown, hts, -⟩ := id C
  unfold B_X10_init_289 at hJ
  obtain ⟨a41, ea41, hka41, hJ⟩ := dr_some hJ
  rw [ea41]
  refine fp_1338 (x := y1) C hin2 w hka41 tw_6_201 dX10_init_289 (fun H locs w => ?_)
  refine lv_aload_n hx hb dX10_init_292 rfl (lv_at hl 0 rfl) ?_
  refine lv_ldc (v := (42000 : Int32)) hx hb hown (hts _ tw_6_162) dX10_init_293 ?_
  obtain ⟨hn42, hJ⟩ := ck_some hJ
  have w0 := w
  refine fa_30 C w hn42 (mb_X10_init_297 N t0 _ _ _ hJ) hz2 dX10_init_295 (fun H w => ?_)
  have hk43 := kd_new (k := 30) (n := (42000 : Int32).toNatClampNeg) (sl := (42000 : Int32).toNatClampNeg) w0 hk0 (by decide)
  exact sb_X10_init_297 C hin2 hz2 N t0 _ _ _ hJ hk43 w hl
def B_X10_init_280 (N : Nat) (t0 : Nat) (h : Hp) (y0 : Option Nat) (y1 : Option Nat) : Option (Hp × Unit) := dr h 13 y0 (fun a44 => ck (¬ (514 : Int32) < 0 ∧ (514 : Int32).toNatClampNeg ≤ 67108864) (B_X10_init_289 N t0 ((h.sgr 1337 a44 y1).new 30 ((514 : Int32).toNatClampNeg) ((514 : Int32).toNatClampNeg)) (some t0) (some (h.sgr 1337 a44 y1).nx)))
theorem mb_X10_init_280 (N : Nat) (t0 : Nat) (h : Hp) (y0 : Option Nat) (y1 : Option Nat) (hJ : B_X10_init_280 N t0 h y0 y1 = some (hz, ())) : Mo h hz := by
  unfold B_X10_init_280 at hJ
  obtain ⟨a44, ea44, -, hJ⟩ := dr_some hJ
  obtain ⟨-, hJ⟩ := ck_some hJ
  exact (Mo.tr (show Mo h (h.sgr 1337 a44 y1) from ⟨fun _ _ => rfl, Nat.le_refl _, Nat.le_refl _, rfl, fun _ _ => rfl⟩) ((Mo.new (h.sgr 1337 a44 y1) _ _ _).tr (mb_X10_init_289 N t0 _ _ _ hJ)))
set_option maxRecDepth 100000 in
set_option maxHeartbeats 4000000 in
theorem sb_X10_init_280 (C : Cx p s m args meth c cX10_init 1 none RX10 D cs A h0.se) (hin2 : meth.name = "<init>") (hz2 : hz.nx ≤ h0.nx + mc ∧ hz.su ≤ h0.su + ms) (N : Nat) (t0 : Nat) (h : Hp) (y0 : Option Nat) (y1 : Option Nat) (hJ : B_X10_init_280 N t0 h y0 y1 = some (hz, ())) (hk0 : h.kd t0 = 13) {H : Heap} {locs : List Loc} {cells slots : Nat} (w : Wo D cs A s h0 h H locs cells slots) {ls : Array Slot} (hl : lv_has ls 1 [(0, .ref t0)]) : W p l e { frames := 1, cells := mc, slots := ms, locals := 40 } s m args below meth c H locs cells slots (MQ below (Zv D cs A hz) args s mc ms A) (F0 m 280 ls [va_rf y1, va_rf y0]) := by
  obtain ⟨hx, hb, hml, hown, hts, -⟩ := id C
  unfold B_X10_init_280 at hJ
  obtain ⟨a44, ea44, hka44, hJ⟩ := dr_some hJ
  rw [ea44]
  refine fp_1337 (x := y1) C hin2 w hka44 tw_6_200 dX10_init_280 (fun H locs w => ?_)
  refine lv_aload_n hx hb dX10_init_283 rfl (lv_at hl 0 rfl) ?_
  refine lv_sipush (v := (514 : Int32)) hx hb dX10_init_284 (by decide) ?_
  obtain ⟨hn45, hJ⟩ := ck_some hJ
  have w0 := w
  refine fa_30 C w hn45 (mb_X10_init_289 N t0 _ _ _ hJ) hz2 dX10_init_287 (fun H w => ?_)
  have hk46 := kd_new (k := 30) (n := (514 : Int32).toNatClampNeg) (sl := (514 : Int32).toNatClampNeg) w0 hk0 (by decide)
  exact sb_X10_init_289 C hin2 hz2 N t0 _ _ _ hJ hk46 w hl
def B_X10_init_271 (N : Nat) (t0 : Nat) (h : Hp) (y0 : Option Nat) (y1 : Option Nat) : Option (Hp × Unit) := dr h 13 y0 (fun a47 => ck (¬ (514 : Int32) < 0 ∧ (514 : Int32).toNatClampNeg ≤ 67108864) (B_X10_init_280 N t0 ((h.sgr 1336 a47 y1).new 31 ((514 : Int32).toNatClampNeg) ((514 : Int32).toNatClampNeg)) (some t0) (some (h.sgr 1336 a47 y1).nx)))
theorem mb_X10_init_271 (N : Nat) (t0 : Nat) (h : Hp) (y0 : Option Nat) (y1 : Option Nat) (hJ : B_X10_init_271 N t0 h y0 y1 = some (hz, ())) : Mo h hz := by
  unfold B_X10_init_271 at hJ
  obtain ⟨a47, ea47, -, hJ⟩ := dr_some hJ
  obtain ⟨-, hJ⟩ := ck_some hJ
  exact (Mo.tr (show Mo h (h.sgr 1336 a47 y1) from ⟨fun _ _ => rfl, Nat.le_refl _, Nat.le_refl _, rfl, fun _ _ => rfl⟩) ((Mo.new (h.sgr 1336 a47 y1) _ _ _).tr (mb_X10_init_280 N t0 _ _ _ hJ)))
set_option maxRecDepth 100000 in
set_option maxHeartbeats 4000000 in
theorem sb_X10_init_271 (C : Cx p s m args meth c cX10_init 1 none RX10 D cs A h0.se) (hin2 : meth.name = "<init>") (hz2 : hz.nx ≤ h0.nx + mc ∧ hz.su ≤ h0.su + ms) (N : Nat) (t0 : Nat) (h : Hp) (y0 : Option Nat) (y1 : Option Nat) (hJ : B_X10_init_271 N t0 h y0 y1 = some (hz, ())) (hk0 : h.kd t0 = 13) {H : Heap} {locs : List Loc} {cells slots : Nat} (w : Wo D cs A s h0 h H locs cells slots) {ls : Array Slot} (hl : lv_has ls 1 [(0, .ref t0)]) : W p l e { frames := 1, cells := mc, slots := ms, locals := 40 } s m args below meth c H locs cells slots (MQ below (Zv D cs A hz) args s mc ms A) (F0 m 271 ls [va_rf y1, va_rf y0]) := by
  obtain ⟨hx, hb, hml, hown, hts, -⟩ := id C
  unfold B_X10_init_271 at hJ
  obtain ⟨a47, ea47, hka47, hJ⟩ := dr_some hJ
  rw [ea47]
  refine fp_1336 (x := y1) C hin2 w hka47 tw_6_199 dX10_init_271 (fun H locs w => ?_)
  refine lv_aload_n hx hb dX10_init_274 rfl (lv_at hl 0 rfl) ?_
  refine lv_sipush (v := (514 : Int32)) hx hb dX10_init_275 (by decide) ?_
  obtain ⟨hn48, hJ⟩ := ck_some hJ
  have w0 := w
  refine fa_31 C w hn48 (mb_X10_init_280 N t0 _ _ _ hJ) hz2 dX10_init_278 (fun H w => ?_)
  have hk49 := kd_new (k := 31) (n := (514 : Int32).toNatClampNeg) (sl := (514 : Int32).toNatClampNeg) w0 hk0 (by decide)
  exact sb_X10_init_280 C hin2 hz2 N t0 _ _ _ hJ hk49 w hl
def B_X10_init_262 (N : Nat) (t0 : Nat) (h : Hp) (y0 : Option Nat) (y1 : Option Nat) : Option (Hp × Unit) := dr h 13 y0 (fun a50 => ck (¬ (514 : Int32) < 0 ∧ (514 : Int32).toNatClampNeg ≤ 67108864) (B_X10_init_271 N t0 ((h.sgr 1335 a50 y1).new 30 ((514 : Int32).toNatClampNeg) ((514 : Int32).toNatClampNeg)) (some t0) (some (h.sgr 1335 a50 y1).nx)))
theorem mb_X10_init_262 (N : Nat) (t0 : Nat) (h : Hp) (y0 : Option Nat) (y1 : Option Nat) (hJ : B_X10_init_262 N t0 h y0 y1 = some (hz, ())) : Mo h hz := by
  unfold B_X10_init_262 at hJ
  obtain ⟨a50, ea50, -, hJ⟩ := dr_some hJ
  obtain ⟨-, hJ⟩ := ck_some hJ
  exact (Mo.tr (show Mo h (h.sgr 1335 a50 y1) from ⟨fun _ _ => rfl, Nat.le_refl _, Nat.le_refl _, rfl, fun _ _ => rfl⟩) ((Mo.new (h.sgr 1335 a50 y1) _ _ _).tr (mb_X10_init_271 N t0 _ _ _ hJ)))
set_option maxRecDepth 100000 in
set_option maxHeartbeats 4000000 in
theorem sb_X10_init_262 (C : Cx p s m args meth c cX10_init 1 none RX10 D cs A h0.se) (hin2 : meth.name = "<init>") (hz2 : hz.nx ≤ h0.nx + mc ∧ hz.su ≤ h0.su + ms) (N : Nat) (t0 : Nat) (h : Hp) (y0 : Option Nat) (y1 : Option Nat) (hJ : B_X10_init_262 N t0 h y0 y1 = some (hz, ())) (hk0 : h.kd t0 = 13) {H : Heap} {locs : List Loc} {cells slots : Nat} (w : Wo D cs A s h0 h H locs cells slots) {ls : Array Slot} (hl : lv_has ls 1 [(0, .ref t0)]) : W p l e { frames := 1, cells := mc, slots := ms, locals := 40 } s m args below meth c H locs cells slots (MQ below (Zv D cs A hz) args s mc ms A) (F0 m 262 ls [va_rf y1, va_rf y0]) := by
  obtain ⟨hx, hb, hml, hown, hts, -⟩ := id C
  unfold B_X10_init_262 at hJ
  obtain ⟨a50, ea50, hka50, hJ⟩ := dr_some hJ
  rw [ea50]
  refine fp_1335 (x := y1) C hin2 w hka50 tw_6_198 dX10_init_262 (fun H locs w => ?_)
  refine lv_aload_n hx hb dX10_init_265 rfl (lv_at hl 0 rfl) ?_
  refine lv_sipush (v := (514 : Int32)) hx hb dX10_init_266 (by decide) ?_
  obtain ⟨hn51, hJ⟩ := ck_some hJ
  have w0 := w
  refine fa_30 C w hn51 (mb_X10_init_271 N t0 _ _ _ hJ) hz2 dX10_init_269 (fun H w => ?_)
  have hk52 := kd_new (k := 30) (n := (514 : Int32).toNatClampNeg) (sl := (514 : Int32).toNatClampNeg) w0 hk0 (by decide)
  exact sb_X10_init_271 C hin2 hz2 N t0 _ _ _ hJ hk52 w hl
def B_X10_init_253 (N : Nat) (t0 : Nat) (h : Hp) (y0 : Option Nat) (y1 : Option Nat) : Option (Hp × Unit) := dr h 13 y0 (fun a53 => ck (¬ (514 : Int32) < 0 ∧ (514 : Int32).toNatClampNeg ≤ 67108864) (B_X10_init_262 N t0 ((h.sgr 1334 a53 y1).new 30 ((514 : Int32).toNatClampNeg) ((514 : Int32).toNatClampNeg)) (some t0) (some (h.sgr 1334 a53 y1).nx)))
theorem mb_X10_init_253 (N : Nat) (t0 : Nat) (h : Hp) (y0 : Option Nat) (y1 : Option Nat) (hJ : B_X10_init_253 N t0 h y0 y1 = some (hz, ())) : Mo h hz := by
  unfold B_X10_init_253 at hJ
  obtain ⟨a53, ea53, -, hJ⟩ := dr_some hJ
  obtain ⟨-, hJ⟩ := ck_some hJ
  exact (Mo.tr (show Mo h (h.sgr 1334 a53 y1) from ⟨fun _ _ => rfl, Nat.le_refl _, Nat.le_refl _, rfl, fun _ _ => rfl⟩) ((Mo.new (h.sgr 1334 a53 y1) _ _ _).tr (mb_X10_init_262 N t0 _ _ _ hJ)))
set_option maxRecDepth 100000 in
set_option maxHeartbeats 4000000 in
theorem sb_X10_init_253 (C : Cx p s m args meth c cX10_init 1 none RX10 D cs A h0.se) (hin2 : meth.name = "<init>") (hz2 : hz.nx ≤ h0.nx + mc ∧ hz.su ≤ h0.su + ms) (N : Nat) (t0 : Nat) (h : Hp) (y0 : Option Nat) (y1 : Option Nat) (hJ : B_X10_init_253 N t0 h y0 y1 = some (hz, ())) (hk0 : h.kd t0 = 13) {H : Heap} {locs : List Loc} {cells slots : Nat} (w : Wo D cs A s h0 h H locs cells slots) {ls : Array Slot} (hl : lv_has ls 1 [(0, .ref t0)]) : W p l e { frames := 1, cells := mc, slots := ms, locals := 40 } s m args below meth c H locs cells slots (MQ below (Zv D cs A hz) args s mc ms A) (F0 m 253 ls [va_rf y1, va_rf y0]) := by
  obtain ⟨hx, hb, hml, hown, hts, -⟩ := id C
  unfold B_X10_init_253 at hJ
  obtain ⟨a53, ea53, hka53, hJ⟩ := dr_some hJ
  rw [ea53]
  refine fp_1334 (x := y1) C hin2 w hka53 tw_6_197 dX10_init_253 (fun H locs w => ?_)
  refine lv_aload_n hx hb dX10_init_256 rfl (lv_at hl 0 rfl) ?_
  refine lv_sipush (v := (514 : Int32)) hx hb dX10_init_257 (by decide) ?_
  obtain ⟨hn54, hJ⟩ := ck_some hJ
  have w0 := w
  refine fa_30 C w hn54 (mb_X10_init_262 N t0 _ _ _ hJ) hz2 dX10_init_260 (fun H w => ?_)
  have hk55 := kd_new (k := 30) (n := (514 : Int32).toNatClampNeg) (sl := (514 : Int32).toNatClampNeg) w0 hk0 (by decide)
  exact sb_X10_init_262 C hin2 hz2 N t0 _ _ _ hJ hk55 w hl
def B_X10_init_244 (N : Nat) (t0 : Nat) (h : Hp) (y0 : Option Nat) (y1 : Option Nat) : Option (Hp × Unit) := dr h 13 y0 (fun a56 => ck (¬ (514 : Int32) < 0 ∧ (514 : Int32).toNatClampNeg ≤ 67108864) (B_X10_init_253 N t0 ((h.sgr 1333 a56 y1).new 31 ((514 : Int32).toNatClampNeg) ((514 : Int32).toNatClampNeg)) (some t0) (some (h.sgr 1333 a56 y1).nx)))
theorem mb_X10_init_244 (N : Nat) (t0 : Nat) (h : Hp) (y0 : Option Nat) (y1 : Option Nat) (hJ : B_X10_init_244 N t0 h y0 y1 = some (hz, ())) : Mo h hz := by
  unfold B_X10_init_244 at hJ
  obtain ⟨a56, ea56, -, hJ⟩ := dr_some hJ
  obtain ⟨-, hJ⟩ := ck_some hJ
  exact (Mo.tr (show Mo h (h.sgr 1333 a56 y1) from ⟨fun _ _ => rfl, Nat.le_refl _, Nat.le_refl _, rfl, fun _ _ => rfl⟩) ((Mo.new (h.sgr 1333 a56 y1) _ _ _).tr (mb_X10_init_253 N t0 _ _ _ hJ)))
set_option maxRecDepth 100000 in
set_option maxHeartbeats 4000000 in
theorem sb_X10_init_244 (C : Cx p s m args meth c cX10_init 1 none RX10 D cs A h0.se) (hin2 : meth.name = "<init>") (hz2 : hz.nx ≤ h0.nx + mc ∧ hz.su ≤ h0.su + ms) (N : Nat) (t0 : Nat) (h : Hp) (y0 : Option Nat) (y1 : Option Nat) (hJ : B_X10_init_244 N t0 h y0 y1 = some (hz, ())) (hk0 : h.kd t0 = 13) {H : Heap} {locs : List Loc} {cells slots : Nat} (w : Wo D cs A s h0 h H locs cells slots) {ls : Array Slot} (hl : lv_has ls 1 [(0, .ref t0)]) : W p l e { frames := 1, cells := mc, slots := ms, locals := 40 } s m args below meth c H locs cells slots (MQ below (Zv D cs A hz) args s mc ms A) (F0 m 244 ls [va_rf y1, va_rf y0]) := by
  obtain ⟨hx, hb, hml, hown, hts, -⟩ := id C
  unfold B_X10_init_244 at hJ
  obtain ⟨a56, ea56, hka56, hJ⟩ := dr_some hJ
  rw [ea56]
  refine fp_1333 (x := y1) C hin2 w hka56 tw_6_196 dX10_init_244 (fun H locs w => ?_)
  refine lv_aload_n hx hb dX10_init_247 rfl (lv_at hl 0 rfl) ?_
  refine lv_sipush (v := (514 : Int32)) hx hb dX10_init_248 (by decide) ?_
  obtain ⟨hn57, hJ⟩ := ck_some hJ
  have w0 := w
  refine fa_31 C w hn57 (mb_X10_init_253 N t0 _ _ _ hJ) hz2 dX10_init_251 (fun H w => ?_)
  have hk58 := kd_new (k := 31) (n := (514 : Int32).toNatClampNeg) (sl := (514 : Int32).toNatClampNeg) w0 hk0 (by decide)
  exact sb_X10_init_253 C hin2 hz2 N t0 _ _ _ hJ hk58 w hl
def B_X10_init_235 (N : Nat) (t0 : Nat) (h : Hp) (y0 : Option Nat) (y1 : Option Nat) : Option (Hp × Unit) := dr h 13 y0 (fun a59 => ck (¬ (514 : Int32) < 0 ∧ (514 : Int32).toNatClampNeg ≤ 67108864) (B_X10_init_244 N t0 ((h.sgr 1332 a59 y1).new 30 ((514 : Int32).toNatClampNeg) ((514 : Int32).toNatClampNeg)) (some t0) (some (h.sgr 1332 a59 y1).nx)))
theorem mb_X10_init_235 (N : Nat) (t0 : Nat) (h : Hp) (y0 : Option Nat) (y1 : Option Nat) (hJ : B_X10_init_235 N t0 h y0 y1 = some (hz, ())) : Mo h hz := by
  unfold B_X10_init_235 at hJ
  obtain ⟨a59, ea59, -, hJ⟩ := dr_some hJ
  obtain ⟨-, hJ⟩ := ck_some hJ
  exact (Mo.tr (show Mo h (h.sgr 1332 a59 y1) from ⟨fun _ _ => rfl, Nat.le_refl _, Nat.le_refl _, rfl, fun _ _ => rfl⟩) ((Mo.new (h.sgr 1332 a59 y1) _ _ _).tr (mb_X10_init_244 N t0 _ _ _ hJ)))
set_option maxRecDepth 100000 in
set_option maxHeartbeats 4000000 in
theorem sb_X10_init_235 (C : Cx p s m args meth c cX10_init 1 none RX10 D cs A h0.se) (hin2 : meth.name = "<init>") (hz2 : hz.nx ≤ h0.nx + mc ∧ hz.su ≤ h0.su + ms) (N : Nat) (t0 : Nat) (h : Hp) (y0 : Option Nat) (y1 : Option Nat) (hJ : B_X10_init_235 N t0 h y0 y1 = some (hz, ())) (hk0 : h.kd t0 = 13) {H : Heap} {locs : List Loc} {cells slots : Nat} (w : Wo D cs A s h0 h H locs cells slots) {ls : Array Slot} (hl : lv_has ls 1 [(0, .ref t0)]) : W p l e { frames := 1, cells := mc, slots := ms, locals := 40 } s m args below meth c H locs cells slots (MQ below (Zv D cs A hz) args s mc ms A) (F0 m 235 ls [va_rf y1, va_rf y0]) := by
  obtain ⟨hx, hb, hml, hown, hts, -⟩ := id C
  unfold B_X10_init_235 at hJ
  obtain ⟨a59, ea59, hka59, hJ⟩ := dr_some hJ
  rw [ea59]
  refine fp_1332 (x := y1) C hin2 w hka59 tw_6_195 dX10_init_235 (fun H locs w => ?_)
  refine lv_aload_n hx hb dX10_init_238 rfl (lv_at hl 0 rfl) ?_
  refine lv_sipush (v := (514 : Int32)) hx hb dX10_init_239 (by decide) ?_
  obtain ⟨hn60, hJ⟩ := ck_some hJ
  have w0 := w
  refine fa_30 C w hn60 (mb_X10_init_244 N t0 _ _ _ hJ) hz2 dX10_init_242 (fun H w => ?_)
  have hk61 := kd_new (k := 30) (n := (514 : Int32).toNatClampNeg) (sl := (514 : Int32).toNatClampNeg) w0 hk0 (by decide)
  exact sb_X10_init_244 C hin2 hz2 N t0 _ _ _ hJ hk61 w hl
def B_X10_init_226 (N : Nat) (t0 : Nat) (h : Hp) (y0 : Option Nat) (y1 : Option Nat) : Option (Hp × Unit) := dr h 13 y0 (fun a62 => ck (¬ (514 : Int32) < 0 ∧ (514 : Int32).toNatClampNeg ≤ 67108864) (B_X10_init_235 N t0 ((h.sgr 1331 a62 y1).new 30 ((514 : Int32).toNatClampNeg) ((514 : Int32).toNatClampNeg)) (some t0) (some (h.sgr 1331 a62 y1).nx)))
theorem mb_X10_init_226 (N : Nat) (t0 : Nat) (h : Hp) (y0 : Option Nat) (y1 : Option Nat) (hJ : B_X10_init_226 N t0 h y0 y1 = some (hz, ())) : Mo h hz := by
  unfold B_X10_init_226 at hJ
  obtain ⟨a62, ea62, -, hJ⟩ := dr_some hJ
  obtain ⟨-, hJ⟩ := ck_some hJ
  exact (Mo.tr (show Mo h (h.sgr 1331 a62 y1) from ⟨fun _ _ => rfl, Nat.le_refl _, Nat.le_refl _, rfl, fun _ _ => rfl⟩) ((Mo.new (h.sgr 1331 a62 y1) _ _ _).tr (mb_X10_init_235 N t0 _ _ _ hJ)))
set_option maxRecDepth 100000 in
set_option maxHeartbeats 4000000 in
theorem sb_X10_init_226 (C : Cx p s m args meth c cX10_init 1 none RX10 D cs A h0.se) (hin2 : meth.name = "<init>") (hz2 : hz.nx ≤ h0.nx + mc ∧ hz.su ≤ h0.su + ms) (N : Nat) (t0 : Nat) (h : Hp) (y0 : Option Nat) (y1 : Option Nat) (hJ : B_X10_init_226 N t0 h y0 y1 = some (hz, ())) (hk0 : h.kd t0 = 13) {H : Heap} {locs : List Loc} {cells slots : Nat} (w : Wo D cs A s h0 h H locs cells slots) {ls : Array Slot} (hl : lv_has ls 1 [(0, .ref t0)]) : W p l e { frames := 1, cells := mc, slots := ms, locals := 40 } s m args below meth c H locs cells slots (MQ below (Zv D cs A hz) args s mc ms A) (F0 m 226 ls [va_rf y1, va_rf y0]) := by
  obtain ⟨hx, hb, hml, hown, hts, -⟩ := id C
  unfold B_X10_init_226 at hJ
  obtain ⟨a62, ea62, hka62, hJ⟩ := dr_some hJ
  rw [ea62]
  refine fp_1331 (x := y1) C hin2 w hka62 tw_6_194 dX10_init_226 (fun H locs w => ?_)
  refine lv_aload_n hx hb dX10_init_229 rfl (lv_at hl 0 rfl) ?_
  refine lv_sipush (v := (514 : Int32)) hx hb dX10_init_230 (by decide) ?_
  obtain ⟨hn63, hJ⟩ := ck_some hJ
  have w0 := w
  refine fa_30 C w hn63 (mb_X10_init_235 N t0 _ _ _ hJ) hz2 dX10_init_233 (fun H w => ?_)
  have hk64 := kd_new (k := 30) (n := (514 : Int32).toNatClampNeg) (sl := (514 : Int32).toNatClampNeg) w0 hk0 (by decide)
  exact sb_X10_init_235 C hin2 hz2 N t0 _ _ _ hJ hk64 w hl
def B_X10_init_217 (N : Nat) (t0 : Nat) (h : Hp) (y0 : Option Nat) (y1 : Option Nat) : Option (Hp × Unit) := dr h 13 y0 (fun a65 => ck (¬ (514 : Int32) < 0 ∧ (514 : Int32).toNatClampNeg ≤ 67108864) (B_X10_init_226 N t0 ((h.sgr 1330 a65 y1).new 30 ((514 : Int32).toNatClampNeg) ((514 : Int32).toNatClampNeg)) (some t0) (some (h.sgr 1330 a65 y1).nx)))
theorem mb_X10_init_217 (N : Nat) (t0 : Nat) (h : Hp) (y0 : Option Nat) (y1 : Option Nat) (hJ : B_X10_init_217 N t0 h y0 y1 = some (hz, ())) : Mo h hz := by
  unfold B_X10_init_217 at hJ
  obtain ⟨a65, ea65, -, hJ⟩ := dr_some hJ
  obtain ⟨-, hJ⟩ := ck_some hJ
  exact (Mo.tr (show Mo h (h.sgr 1330 a65 y1) from ⟨fun _ _ => rfl, Nat.le_refl _, Nat.le_refl _, rfl, fun _ _ => rfl⟩) ((Mo.new (h.sgr 1330 a65 y1) _ _ _).tr (mb_X10_init_226 N t0 _ _ _ hJ)))
set_option maxRecDepth 100000 in
set_option maxHeartbeats 4000000 in
theorem sb_X10_init_217 (C : Cx p s m args meth c cX10_init 1 none RX10 D cs A h0.se) (hin2 : meth.name = "<init>") (hz2 : hz.nx ≤ h0.nx + mc ∧ hz.su ≤ h0.su + ms) (N : Nat) (t0 : Nat) (h : Hp) (y0 : Option Nat) (y1 : Option Nat) (hJ : B_X10_init_217 N t0 h y0 y1 = some (hz, ())) (hk0 : h.kd t0 = 13) {H : Heap} {locs : List Loc} {cells slots : Nat} (w : Wo D cs A s h0 h H locs cells slots) {ls : Array Slot} (hl : lv_has ls 1 [(0, .ref t0)]) : W p l e { frames := 1, cells := mc, slots := ms, locals := 40 } s m args below meth c H locs cells slots (MQ below (Zv D cs A hz) args s mc ms A) (F0 m 217 ls [va_rf y1, va_rf y0]) := by
  obtain ⟨hx, hb, hml, hown, hts, -⟩ := id C
  unfold B_X10_init_217 at hJ
  obtain ⟨a65, ea65, hka65, hJ⟩ := dr_some hJ
  rw [ea65]
  refine fp_1330 (x := y1) C hin2 w hka65 tw_6_193 dX10_init_217 (fun H locs w => ?_)
  refine lv_aload_n hx hb dX10_init_220 rfl (lv_at hl 0 rfl) ?_
  refine lv_sipush (v := (514 : Int32)) hx hb dX10_init_221 (by decide) ?_
  obtain ⟨hn66, hJ⟩ := ck_some hJ
  have w0 := w
  refine fa_30 C w hn66 (mb_X10_init_226 N t0 _ _ _ hJ) hz2 dX10_init_224 (fun H w => ?_)
  have hk67 := kd_new (k := 30) (n := (514 : Int32).toNatClampNeg) (sl := (514 : Int32).toNatClampNeg) w0 hk0 (by decide)
  exact sb_X10_init_226 C hin2 hz2 N t0 _ _ _ hJ hk67 w hl
def B_X10_init_208 (N : Nat) (t0 : Nat) (h : Hp) (y0 : Option Nat) (y1 : Option Nat) : Option (Hp × Unit) := dr h 13 y0 (fun a68 => ck (¬ (514 : Int32) < 0 ∧ (514 : Int32).toNatClampNeg ≤ 67108864) (B_X10_init_217 N t0 ((h.sgr 1329 a68 y1).new 30 ((514 : Int32).toNatClampNeg) ((514 : Int32).toNatClampNeg)) (some t0) (some (h.sgr 1329 a68 y1).nx)))
theorem mb_X10_init_208 (N : Nat) (t0 : Nat) (h : Hp) (y0 : Option Nat) (y1 : Option Nat) (hJ : B_X10_init_208 N t0 h y0 y1 = some (hz, ())) : Mo h hz := by
  unfold B_X10_init_208 at hJ
  obtain ⟨a68, ea68, -, hJ⟩ := dr_some hJ
  obtain ⟨-, hJ⟩ := ck_some hJ
  exact (Mo.tr (show Mo h (h.sgr 1329 a68 y1) from ⟨fun _ _ => rfl, Nat.le_refl _, Nat.le_refl _, rfl, fun _ _ => rfl⟩) ((Mo.new (h.sgr 1329 a68 y1) _ _ _).tr (mb_X10_init_217 N t0 _ _ _ hJ)))
set_option maxRecDepth 100000 in
set_option maxHeartbeats 4000000 in
theorem sb_X10_init_208 (C : Cx p s m args meth c cX10_init 1 none RX10 D cs A h0.se) (hin2 : meth.name = "<init>") (hz2 : hz.nx ≤ h0.nx + mc ∧ hz.su ≤ h0.su + ms) (N : Nat) (t0 : Nat) (h : Hp) (y0 : Option Nat) (y1 : Option Nat) (hJ : B_X10_init_208 N t0 h y0 y1 = some (hz, ())) (hk0 : h.kd t0 = 13) {H : Heap} {locs : List Loc} {cells slots : Nat} (w : Wo D cs A s h0 h H locs cells slots) {ls : Array Slot} (hl : lv_has ls 1 [(0, .ref t0)]) : W p l e { frames := 1, cells := mc, slots := ms, locals := 40 } s m args below meth c H locs cells slots (MQ below (Zv D cs A hz) args s mc ms A) (F0 m 208 ls [va_rf y1, va_rf y0]) := by
  obtain ⟨hx, hb, hml, hown, hts, -⟩ := id C
  unfold B_X10_init_208 at hJ
  obtain ⟨a68, ea68, hka68, hJ⟩ := dr_some hJ
  rw [ea68]
  refine fp_1329 (x := y1) C hin2 w hka68 tw_6_192 dX10_init_208 (fun H locs w => ?_)
  refine lv_aload_n hx hb dX10_init_211 rfl (lv_at hl 0 rfl) ?_
  refine lv_sipush (v := (514 : Int32)) hx hb dX10_init_212 (by decide) ?_
  obtain ⟨hn69, hJ⟩ := ck_some hJ
  have w0 := w
  refine fa_30 C w hn69 (mb_X10_init_217 N t0 _ _ _ hJ) hz2 dX10_init_215 (fun H w => ?_)
  have hk70 := kd_new (k := 30) (n := (514 : Int32).toNatClampNeg) (sl := (514 : Int32).toNatClampNeg) w0 hk0 (by decide)
  exact sb_X10_init_217 C hin2 hz2 N t0 _ _ _ hJ hk70 w hl
def B_X10_init_199 (N : Nat) (t0 : Nat) (h : Hp) (y0 : Option Nat) (y1 : Option Nat) : Option (Hp × Unit) := dr h 13 y0 (fun a71 => ck (¬ (514 : Int32) < 0 ∧ (514 : Int32).toNatClampNeg ≤ 67108864) (B_X10_init_208 N t0 ((h.sgr 1327 a71 y1).new 30 ((514 : Int32).toNatClampNeg) ((514 : Int32).toNatClampNeg)) (some t0) (some (h.sgr 1327 a71 y1).nx)))
theorem mb_X10_init_199 (N : Nat) (t0 : Nat) (h : Hp) (y0 : Option Nat) (y1 : Option Nat) (hJ : B_X10_init_199 N t0 h y0 y1 = some (hz, ())) : Mo h hz := by
  unfold B_X10_init_199 at hJ
  obtain ⟨a71, ea71, -, hJ⟩ := dr_some hJ
  obtain ⟨-, hJ⟩ := ck_some hJ
  exact (Mo.tr (show Mo h (h.sgr 1327 a71 y1) from ⟨fun _ _ => rfl, Nat.le_refl _, Nat.le_refl _, rfl, fun _ _ => rfl⟩) ((Mo.new (h.sgr 1327 a71 y1) _ _ _).tr (mb_X10_init_208 N t0 _ _ _ hJ)))
set_option maxRecDepth 100000 in
set_option maxHeartbeats 4000000 in
theorem sb_X10_init_199 (C : Cx p s m args meth c cX10_init 1 none RX10 D cs A h0.se) (hin2 : meth.name = "<init>") (hz2 : hz.nx ≤ h0.nx + mc ∧ hz.su ≤ h0.su + ms) (N : Nat) (t0 : Nat) (h : Hp) (y0 : Option Nat) (y1 : Option Nat) (hJ : B_X10_init_199 N t0 h y0 y1 = some (hz, ())) (hk0 : h.kd t0 = 13) {H : Heap} {locs : List Loc} {cells slots : Nat} (w : Wo D cs A s h0 h H locs cells slots) {ls : Array Slot} (hl : lv_has ls 1 [(0, .ref t0)]) : W p l e { frames := 1, cells := mc, slots := ms, locals := 40 } s m args below meth c H locs cells slots (MQ below (Zv D cs A hz) args s mc ms A) (F0 m 199 ls [va_rf y1, va_rf y0]) := by
  obtain ⟨hx, hb, hml, hown, hts, -⟩ := id C
  unfold B_X10_init_199 at hJ
  obtain ⟨a71, ea71, hka71, hJ⟩ := dr_some hJ
  rw [ea71]
  refine fp_1327 (x := y1) C hin2 w hka71 tw_6_190 dX10_init_199 (fun H locs w => ?_)
  refine lv_aload_n hx hb dX10_init_202 rfl (lv_at hl 0 rfl) ?_
  refine lv_sipush (v := (514 : Int32)) hx hb dX10_init_203 (by decide) ?_
  obtain ⟨hn72, hJ⟩ := ck_some hJ
  have w0 := w
  refine fa_30 C w hn72 (mb_X10_init_208 N t0 _ _ _ hJ) hz2 dX10_init_206 (fun H w => ?_)
  have hk73 := kd_new (k := 30) (n := (514 : Int32).toNatClampNeg) (sl := (514 : Int32).toNatClampNeg) w0 hk0 (by decide)
  exact sb_X10_init_208 C hin2 hz2 N t0 _ _ _ hJ hk73 w hl
def B_X10_init_190 (N : Nat) (t0 : Nat) (h : Hp) (y0 : Option Nat) (y1 : Option Nat) : Option (Hp × Unit) := dr h 13 y0 (fun a74 => ck (¬ (514 : Int32) < 0 ∧ (514 : Int32).toNatClampNeg ≤ 67108864) (B_X10_init_199 N t0 ((h.sgr 1326 a74 y1).new 32 ((514 : Int32).toNatClampNeg) ((514 : Int32).toNatClampNeg)) (some t0) (some (h.sgr 1326 a74 y1).nx)))
theorem mb_X10_init_190 (N : Nat) (t0 : Nat) (h : Hp) (y0 : Option Nat) (y1 : Option Nat) (hJ : B_X10_init_190 N t0 h y0 y1 = some (hz, ())) : Mo h hz := by
  unfold B_X10_init_190 at hJ
  obtain ⟨a74, ea74, -, hJ⟩ := dr_some hJ
  obtain ⟨-, hJ⟩ := ck_some hJ
  exact (Mo.tr (show Mo h (h.sgr 1326 a74 y1) from ⟨fun _ _ => rfl, Nat.le_refl _, Nat.le_refl _, rfl, fun _ _ => rfl⟩) ((Mo.new (h.sgr 1326 a74 y1) _ _ _).tr (mb_X10_init_199 N t0 _ _ _ hJ)))
set_option maxRecDepth 100000 in
set_option maxHeartbeats 4000000 in
theorem sb_X10_init_190 (C : Cx p s m args meth c cX10_init 1 none RX10 D cs A h0.se) (hin2 : meth.name = "<init>") (hz2 : hz.nx ≤ h0.nx + mc ∧ hz.su ≤ h0.su + ms) (N : Nat) (t0 : Nat) (h : Hp) (y0 : Option Nat) (y1 : Option Nat) (hJ : B_X10_init_190 N t0 h y0 y1 = some (hz, ())) (hk0 : h.kd t0 = 13) {H : Heap} {locs : List Loc} {cells slots : Nat} (w : Wo D cs A s h0 h H locs cells slots) {ls : Array Slot} (hl : lv_has ls 1 [(0, .ref t0)]) : W p l e { frames := 1, cells := mc, slots := ms, locals := 40 } s m args below meth c H locs cells slots (MQ below (Zv D cs A hz) args s mc ms A) (F0 m 190 ls [va_rf y1, va_rf y0]) := by
  obtain ⟨hx, hb, hml, hown, hts, -⟩ := id C
  unfold B_X10_init_190 at hJ
  obtain ⟨a74, ea74, hka74, hJ⟩ := dr_some hJ
  rw [ea74]
  refine fp_1326 (x := y1) C hin2 w hka74 tw_6_189 dX10_init_190 (fun H locs w => ?_)
  refine lv_aload_n hx hb dX10_init_193 rfl (lv_at hl 0 rfl) ?_
  refine lv_sipush (v := (514 : Int32)) hx hb dX10_init_194 (by decide) ?_
  obtain ⟨hn75, hJ⟩ := ck_some hJ
  have w0 := w
  refine fa_32 C w hn75 (mb_X10_init_199 N t0 _ _ _ hJ) hz2 dX10_init_197 (fun H w => ?_)
  have hk76 := kd_new (k := 32) (n := (514 : Int32).toNatClampNeg) (sl := (514 : Int32).toNatClampNeg) w0 hk0 (by decide)
  exact sb_X10_init_199 C hin2 hz2 N t0 _ _ _ hJ hk76 w hl
def B_X10_init_181 (N : Nat) (t0 : Nat) (h : Hp) (y0 : Option Nat) (y1 : Option Nat) : Option (Hp × Unit) := dr h 13 y0 (fun a77 => ck (¬ (514 : Int32) < 0 ∧ (514 : Int32).toNatClampNeg ≤ 67108864) (B_X10_init_190 N t0 ((h.sgr 1325 a77 y1).new 31 ((514 : Int32).toNatClampNeg) ((514 : Int32).toNatClampNeg)) (some t0) (some (h.sgr 1325 a77 y1).nx)))
theorem mb_X10_init_181 (N : Nat) (t0 : Nat) (h : Hp) (y0 : Option Nat) (y1 : Option Nat) (hJ : B_X10_init_181 N t0 h y0 y1 = some (hz, ())) : Mo h hz := by
  unfold B_X10_init_181 at hJ
  obtain ⟨a77, ea77, -, hJ⟩ := dr_some hJ
  obtain ⟨-, hJ⟩ := ck_some hJ
  exact (Mo.tr (show Mo h (h.sgr 1325 a77 y1) from ⟨fun _ _ => rfl, Nat.le_refl _, Nat.le_refl _, rfl, fun _ _ => rfl⟩) ((Mo.new (h.sgr 1325 a77 y1) _ _ _).tr (mb_X10_init_190 N t0 _ _ _ hJ)))
set_option maxRecDepth 100000 in
set_option maxHeartbeats 4000000 in
theorem sb_X10_init_181 (C : Cx p s m args meth c cX10_init 1 none RX10 D cs A h0.se) (hin2 : meth.name = "<init>") (hz2 : hz.nx ≤ h0.nx + mc ∧ hz.su ≤ h0.su + ms) (N : Nat) (t0 : Nat) (h : Hp) (y0 : Option Nat) (y1 : Option Nat) (hJ : B_X10_init_181 N t0 h y0 y1 = some (hz, ())) (hk0 : h.kd t0 = 13) {H : Heap} {locs : List Loc} {cells slots : Nat} (w : Wo D cs A s h0 h H locs cells slots) {ls : Array Slot} (hl : lv_has ls 1 [(0, .ref t0)]) : W p l e { frames := 1, cells := mc, slots := ms, locals := 40 } s m args below meth c H locs cells slots (MQ below (Zv D cs A hz) args s mc ms A) (F0 m 181 ls [va_rf y1, va_rf y0]) := by
  obtain ⟨hx, hb, hml, hown, hts, -⟩ := id C
  unfold B_X10_init_181 at hJ
  obtain ⟨a77, ea77, hka77, hJ⟩ := dr_some hJ
  rw [ea77]
  refine fp_1325 (x := y1) C hin2 w hka77 tw_6_188 dX10_init_181 (fun H locs w => ?_)
  refine lv_aload_n hx hb dX10_init_184 rfl (lv_at hl 0 rfl) ?_
  refine lv_sipush (v := (514 : Int32)) hx hb dX10_init_185 (by decide) ?_
  obtain ⟨hn78, hJ⟩ := ck_some hJ
  have w0 := w
  refine fa_31 C w hn78 (mb_X10_init_190 N t0 _ _ _ hJ) hz2 dX10_init_188 (fun H w => ?_)
  have hk79 := kd_new (k := 31) (n := (514 : Int32).toNatClampNeg) (sl := (514 : Int32).toNatClampNeg) w0 hk0 (by decide)
  exact sb_X10_init_190 C hin2 hz2 N t0 _ _ _ hJ hk79 w hl
def B_X10_init_172 (N : Nat) (t0 : Nat) (h : Hp) (y0 : Option Nat) (y1 : Option Nat) : Option (Hp × Unit) := dr h 13 y0 (fun a80 => ck (¬ (514 : Int32) < 0 ∧ (514 : Int32).toNatClampNeg ≤ 67108864) (B_X10_init_181 N t0 ((h.sgr 1324 a80 y1).new 30 ((514 : Int32).toNatClampNeg) ((514 : Int32).toNatClampNeg)) (some t0) (some (h.sgr 1324 a80 y1).nx)))
theorem mb_X10_init_172 (N : Nat) (t0 : Nat) (h : Hp) (y0 : Option Nat) (y1 : Option Nat) (hJ : B_X10_init_172 N t0 h y0 y1 = some (hz, ())) : Mo h hz := by
  unfold B_X10_init_172 at hJ
  obtain ⟨a80, ea80, -, hJ⟩ := dr_some hJ
  obtain ⟨-, hJ⟩ := ck_some hJ
  exact (Mo.tr (show Mo h (h.sgr 1324 a80 y1) from ⟨fun _ _ => rfl, Nat.le_refl _, Nat.le_refl _, rfl, fun _ _ => rfl⟩) ((Mo.new (h.sgr 1324 a80 y1) _ _ _).tr (mb_X10_init_181 N t0 _ _ _ hJ)))
set_option maxRecDepth 100000 in
set_option maxHeartbeats 4000000 in
theorem sb_X10_init_172 (C : Cx p s m args meth c cX10_init 1 none RX10 D cs A h0.se) (hin2 : meth.name = "<init>") (hz2 : hz.nx ≤ h0.nx + mc ∧ hz.su ≤ h0.su + ms) (N : Nat) (t0 : Nat) (h : Hp) (y0 : Option Nat) (y1 : Option Nat) (hJ : B_X10_init_172 N t0 h y0 y1 = some (hz, ())) (hk0 : h.kd t0 = 13) {H : Heap} {locs : List Loc} {cells slots : Nat} (w : Wo D cs A s h0 h H locs cells slots) {ls : Array Slot} (hl : lv_has ls 1 [(0, .ref t0)]) : W p l e { frames := 1, cells := mc, slots := ms, locals := 40 } s m args below meth c H locs cells slots (MQ below (Zv D cs A hz) args s mc ms A) (F0 m 172 ls [va_rf y1, va_rf y0]) := by
  obtain ⟨hx, hb, hml, hown, hts, -⟩ := id C
  unfold B_X10_init_172 at hJ
  obtain ⟨a80, ea80, hka80, hJ⟩ := dr_some hJ
  rw [ea80]
  refine fp_1324 (x := y1) C hin2 w hka80 tw_6_187 dX10_init_172 (fun H locs w => ?_)
  refine lv_aload_n hx hb dX10_init_175 rfl (lv_at hl 0 rfl) ?_
  refine lv_sipush (v := (514 : Int32)) hx hb dX10_init_176 (by decide) ?_
  obtain ⟨hn81, hJ⟩ := ck_some hJ
  have w0 := w
  refine fa_30 C w hn81 (mb_X10_init_181 N t0 _ _ _ hJ) hz2 dX10_init_179 (fun H w => ?_)
  have hk82 := kd_new (k := 30) (n := (514 : Int32).toNatClampNeg) (sl := (514 : Int32).toNatClampNeg) w0 hk0 (by decide)
  exact sb_X10_init_181 C hin2 hz2 N t0 _ _ _ hJ hk82 w hl
def B_X10_init_163 (N : Nat) (t0 : Nat) (h : Hp) (y0 : Option Nat) (y1 : Option Nat) : Option (Hp × Unit) := dr h 13 y0 (fun a83 => ck (¬ (514 : Int32) < 0 ∧ (514 : Int32).toNatClampNeg ≤ 67108864) (B_X10_init_172 N t0 ((h.sgr 1322 a83 y1).new 30 ((514 : Int32).toNatClampNeg) ((514 : Int32).toNatClampNeg)) (some t0) (some (h.sgr 1322 a83 y1).nx)))
theorem mb_X10_init_163 (N : Nat) (t0 : Nat) (h : Hp) (y0 : Option Nat) (y1 : Option Nat) (hJ : B_X10_init_163 N t0 h y0 y1 = some (hz, ())) : Mo h hz := by
  unfold B_X10_init_163 at hJ
  obtain ⟨a83, ea83, -, hJ⟩ := dr_some hJ
  obtain ⟨-, hJ⟩ := ck_some hJ
  exact (Mo.tr (show Mo h (h.sgr 1322 a83 y1) from ⟨fun _ _ => rfl, Nat.le_refl _, Nat.le_refl _, rfl, fun _ _ => rfl⟩) ((Mo.new (h.sgr 1322 a83 y1) _ _ _).tr (mb_X10_init_172 N t0 _ _ _ hJ)))
set_option maxRecDepth 100000 in
set_option maxHeartbeats 4000000 in
theorem sb_X10_init_163 (C : Cx p s m args meth c cX10_init 1 none RX10 D cs A h0.se) (hin2 : meth.name = "<init>") (hz2 : hz.nx ≤ h0.nx + mc ∧ hz.su ≤ h0.su + ms) (N : Nat) (t0 : Nat) (h : Hp) (y0 : Option Nat) (y1 : Option Nat) (hJ : B_X10_init_163 N t0 h y0 y1 = some (hz, ())) (hk0 : h.kd t0 = 13) {H : Heap} {locs : List Loc} {cells slots : Nat} (w : Wo D cs A s h0 h H locs cells slots) {ls : Array Slot} (hl : lv_has ls 1 [(0, .ref t0)]) : W p l e { frames := 1, cells := mc, slots := ms, locals := 40 } s m args below meth c H locs cells slots (MQ below (Zv D cs A hz) args s mc ms A) (F0 m 163 ls [va_rf y1, va_rf y0]) := by
  obtain ⟨hx, hb, hml, hown, hts, -⟩ := id C
  unfold B_X10_init_163 at hJ
  obtain ⟨a83, ea83, hka83, hJ⟩ := dr_some hJ
  rw [ea83]
  refine fp_1322 (x := y1) C hin2 w hka83 tw_6_185 dX10_init_163 (fun H locs w => ?_)
  refine lv_aload_n hx hb dX10_init_166 rfl (lv_at hl 0 rfl) ?_
  refine lv_sipush (v := (514 : Int32)) hx hb dX10_init_167 (by decide) ?_
  obtain ⟨hn84, hJ⟩ := ck_some hJ
  have w0 := w
  refine fa_30 C w hn84 (mb_X10_init_172 N t0 _ _ _ hJ) hz2 dX10_init_170 (fun H w => ?_)
  have hk85 := kd_new (k := 30) (n := (514 : Int32).toNatClampNeg) (sl := (514 : Int32).toNatClampNeg) w0 hk0 (by decide)
  exact sb_X10_init_172 C hin2 hz2 N t0 _ _ _ hJ hk85 w hl
def B_X10_init_154 (N : Nat) (t0 : Nat) (h : Hp) (y0 : Option Nat) (y1 : Option Nat) : Option (Hp × Unit) := dr h 13 y0 (fun a86 => ck (¬ (514 : Int32) < 0 ∧ (514 : Int32).toNatClampNeg ≤ 67108864) (B_X10_init_163 N t0 ((h.sgr 1321 a86 y1).new 30 ((514 : Int32).toNatClampNeg) ((514 : Int32).toNatClampNeg)) (some t0) (some (h.sgr 1321 a86 y1).nx)))
theorem mb_X10_init_154 (N : Nat) (t0 : Nat) (h : Hp) (y0 : Option Nat) (y1 : Option Nat) (hJ : B_X10_init_154 N t0 h y0 y1 = some (hz, ())) : Mo h hz := by
  unfold B_X10_init_154 at hJ
  obtain ⟨a86, ea86, -, hJ⟩ := dr_some hJ
  obtain ⟨-, hJ⟩ := ck_some hJ
  exact (Mo.tr (show Mo h (h.sgr 1321 a86 y1) from ⟨fun _ _ => rfl, Nat.le_refl _, Nat.le_refl _, rfl, fun _ _ => rfl⟩) ((Mo.new (h.sgr 1321 a86 y1) _ _ _).tr (mb_X10_init_163 N t0 _ _ _ hJ)))
set_option maxRecDepth 100000 in
set_option maxHeartbeats 4000000 in
theorem sb_X10_init_154 (C : Cx p s m args meth c cX10_init 1 none RX10 D cs A h0.se) (hin2 : meth.name = "<init>") (hz2 : hz.nx ≤ h0.nx + mc ∧ hz.su ≤ h0.su + ms) (N : Nat) (t0 : Nat) (h : Hp) (y0 : Option Nat) (y1 : Option Nat) (hJ : B_X10_init_154 N t0 h y0 y1 = some (hz, ())) (hk0 : h.kd t0 = 13) {H : Heap} {locs : List Loc} {cells slots : Nat} (w : Wo D cs A s h0 h H locs cells slots) {ls : Array Slot} (hl : lv_has ls 1 [(0, .ref t0)]) : W p l e { frames := 1, cells := mc, slots := ms, locals := 40 } s m args below meth c H locs cells slots (MQ below (Zv D cs A hz) args s mc ms A) (F0 m 154 ls [va_rf y1, va_rf y0]) := by
  obtain ⟨hx, hb, hml, hown, hts, -⟩ := id C
  unfold B_X10_init_154 at hJ
  obtain ⟨a86, ea86, hka86, hJ⟩ := dr_some hJ
  rw [ea86]
  refine fp_1321 (x := y1) C hin2 w hka86 tw_6_184 dX10_init_154 (fun H locs w => ?_)
  refine lv_aload_n hx hb dX10_init_157 rfl (lv_at hl 0 rfl) ?_
  refine lv_sipush (v := (514 : Int32)) hx hb dX10_init_158 (by decide) ?_
  obtain ⟨hn87, hJ⟩ := ck_some hJ
  have w0 := w
  refine fa_30 C w hn87 (mb_X10_init_163 N t0 _ _ _ hJ) hz2 dX10_init_161 (fun H w => ?_)
  have hk88 := kd_new (k := 30) (n := (514 : Int32).toNatClampNeg) (sl := (514 : Int32).toNatClampNeg) w0 hk0 (by decide)
  exact sb_X10_init_163 C hin2 hz2 N t0 _ _ _ hJ hk88 w hl
def B_X10_init_145 (N : Nat) (t0 : Nat) (h : Hp) (y0 : Option Nat) (y1 : Option Nat) : Option (Hp × Unit) := dr h 13 y0 (fun a89 => ck (¬ (514 : Int32) < 0 ∧ (514 : Int32).toNatClampNeg ≤ 67108864) (B_X10_init_154 N t0 ((h.sgr 1320 a89 y1).new 30 ((514 : Int32).toNatClampNeg) ((514 : Int32).toNatClampNeg)) (some t0) (some (h.sgr 1320 a89 y1).nx)))
theorem mb_X10_init_145 (N : Nat) (t0 : Nat) (h : Hp) (y0 : Option Nat) (y1 : Option Nat) (hJ : B_X10_init_145 N t0 h y0 y1 = some (hz, ())) : Mo h hz := by
  unfold B_X10_init_145 at hJ
  obtain ⟨a89, ea89, -, hJ⟩ := dr_some hJ
  obtain ⟨-, hJ⟩ := ck_some hJ
  exact (Mo.tr (show Mo h (h.sgr 1320 a89 y1) from ⟨fun _ _ => rfl, Nat.le_refl _, Nat.le_refl _, rfl, fun _ _ => rfl⟩) ((Mo.new (h.sgr 1320 a89 y1) _ _ _).tr (mb_X10_init_154 N t0 _ _ _ hJ)))
set_option maxRecDepth 100000 in
set_option maxHeartbeats 4000000 in
theorem sb_X10_init_145 (C : Cx p s m args meth c cX10_init 1 none RX10 D cs A h0.se) (hin2 : meth.name = "<init>") (hz2 : hz.nx ≤ h0.nx + mc ∧ hz.su ≤ h0.su + ms) (N : Nat) (t0 : Nat) (h : Hp) (y0 : Option Nat) (y1 : Option Nat) (hJ : B_X10_init_145 N t0 h y0 y1 = some (hz, ())) (hk0 : h.kd t0 = 13) {H : Heap} {locs : List Loc} {cells slots : Nat} (w : Wo D cs A s h0 h H locs cells slots) {ls : Array Slot} (hl : lv_has ls 1 [(0, .ref t0)]) : W p l e { frames := 1, cells := mc, slots := ms, locals := 40 } s m args below meth c H locs cells slots (MQ below (Zv D cs A hz) args s mc ms A) (F0 m 145 ls [va_rf y1, va_rf y0]) := by
  obtain ⟨hx, hb, hml, hown, hts, -⟩ := id C
  unfold B_X10_init_145 at hJ
  obtain ⟨a89, ea89, hka89, hJ⟩ := dr_some hJ
  rw [ea89]
  refine fp_1320 (x := y1) C hin2 w hka89 tw_6_183 dX10_init_145 (fun H locs w => ?_)
  refine lv_aload_n hx hb dX10_init_148 rfl (lv_at hl 0 rfl) ?_
  refine lv_sipush (v := (514 : Int32)) hx hb dX10_init_149 (by decide) ?_
  obtain ⟨hn90, hJ⟩ := ck_some hJ
  have w0 := w
  refine fa_30 C w hn90 (mb_X10_init_154 N t0 _ _ _ hJ) hz2 dX10_init_152 (fun H w => ?_)
  have hk91 := kd_new (k := 30) (n := (514 : Int32).toNatClampNeg) (sl := (514 : Int32).toNatClampNeg) w0 hk0 (by decide)
  exact sb_X10_init_154 C hin2 hz2 N t0 _ _ _ hJ hk91 w hl
def B_X10_init_136 (N : Nat) (t0 : Nat) (h : Hp) (y0 : Option Nat) (y1 : Option Nat) : Option (Hp × Unit) := dr h 13 y0 (fun a92 => ck (¬ (514 : Int32) < 0 ∧ (514 : Int32).toNatClampNeg ≤ 67108864) (B_X10_init_145 N t0 ((h.sgr 1318 a92 y1).new 30 ((514 : Int32).toNatClampNeg) ((514 : Int32).toNatClampNeg)) (some t0) (some (h.sgr 1318 a92 y1).nx)))
theorem mb_X10_init_136 (N : Nat) (t0 : Nat) (h : Hp) (y0 : Option Nat) (y1 : Option Nat) (hJ : B_X10_init_136 N t0 h y0 y1 = some (hz, ())) : Mo h hz := by
  unfold B_X10_init_136 at hJ
  obtain ⟨a92, ea92, -, hJ⟩ := dr_some hJ
  obtain ⟨-, hJ⟩ := ck_some hJ
  exact (Mo.tr (show Mo h (h.sgr 1318 a92 y1) from ⟨fun _ _ => rfl, Nat.le_refl _, Nat.le_refl _, rfl, fun _ _ => rfl⟩) ((Mo.new (h.sgr 1318 a92 y1) _ _ _).tr (mb_X10_init_145 N t0 _ _ _ hJ)))
set_option maxRecDepth 100000 in
set_option maxHeartbeats 4000000 in
theorem sb_X10_init_136 (C : Cx p s m args meth c cX10_init 1 none RX10 D cs A h0.se) (hin2 : meth.name = "<init>") (hz2 : hz.nx ≤ h0.nx + mc ∧ hz.su ≤ h0.su + ms) (N : Nat) (t0 : Nat) (h : Hp) (y0 : Option Nat) (y1 : Option Nat) (hJ : B_X10_init_136 N t0 h y0 y1 = some (hz, ())) (hk0 : h.kd t0 = 13) {H : Heap} {locs : List Loc} {cells slots : Nat} (w : Wo D cs A s h0 h H locs cells slots) {ls : Array Slot} (hl : lv_has ls 1 [(0, .ref t0)]) : W p l e { frames := 1, cells := mc, slots := ms, locals := 40 } s m args below meth c H locs cells slots (MQ below (Zv D cs A hz) args s mc ms A) (F0 m 136 ls [va_rf y1, va_rf y0]) := by
  obtain ⟨hx, hb, hml, hown, hts, -⟩ := id C
  unfold B_X10_init_136 at hJ
  obtain ⟨a92, ea92, hka92, hJ⟩ := dr_some hJ
  rw [ea92]
  refine fp_1318 (x := y1) C hin2 w hka92 tw_6_181 dX10_init_136 (fun H locs w => ?_)
  refine lv_aload_n hx hb dX10_init_139 rfl (lv_at hl 0 rfl) ?_
  refine lv_sipush (v := (514 : Int32)) hx hb dX10_init_140 (by decide) ?_
  obtain ⟨hn93, hJ⟩ := ck_some hJ
  have w0 := w
  refine fa_30 C w hn93 (mb_X10_init_145 N t0 _ _ _ hJ) hz2 dX10_init_143 (fun H w => ?_)
  have hk94 := kd_new (k := 30) (n := (514 : Int32).toNatClampNeg) (sl := (514 : Int32).toNatClampNeg) w0 hk0 (by decide)
  exact sb_X10_init_145 C hin2 hz2 N t0 _ _ _ hJ hk94 w hl
def B_X10_init_127 (N : Nat) (t0 : Nat) (h : Hp) (y0 : Option Nat) (y1 : Option Nat) : Option (Hp × Unit) := dr h 13 y0 (fun a95 => ck (¬ (514 : Int32) < 0 ∧ (514 : Int32).toNatClampNeg ≤ 67108864) (B_X10_init_136 N t0 ((h.sgr 1317 a95 y1).new 32 ((514 : Int32).toNatClampNeg) ((514 : Int32).toNatClampNeg)) (some t0) (some (h.sgr 1317 a95 y1).nx)))
theorem mb_X10_init_127 (N : Nat) (t0 : Nat) (h : Hp) (y0 : Option Nat) (y1 : Option Nat) (hJ : B_X10_init_127 N t0 h y0 y1 = some (hz, ())) : Mo h hz := by
  unfold B_X10_init_127 at hJ
  obtain ⟨a95, ea95, -, hJ⟩ := dr_some hJ
  obtain ⟨-, hJ⟩ := ck_some hJ
  exact (Mo.tr (show Mo h (h.sgr 1317 a95 y1) from ⟨fun _ _ => rfl, Nat.le_refl _, Nat.le_refl _, rfl, fun _ _ => rfl⟩) ((Mo.new (h.sgr 1317 a95 y1) _ _ _).tr (mb_X10_init_136 N t0 _ _ _ hJ)))
set_option maxRecDepth 100000 in
set_option maxHeartbeats 4000000 in
theorem sb_X10_init_127 (C : Cx p s m args meth c cX10_init 1 none RX10 D cs A h0.se) (hin2 : meth.name = "<init>") (hz2 : hz.nx ≤ h0.nx + mc ∧ hz.su ≤ h0.su + ms) (N : Nat) (t0 : Nat) (h : Hp) (y0 : Option Nat) (y1 : Option Nat) (hJ : B_X10_init_127 N t0 h y0 y1 = some (hz, ())) (hk0 : h.kd t0 = 13) {H : Heap} {locs : List Loc} {cells slots : Nat} (w : Wo D cs A s h0 h H locs cells slots) {ls : Array Slot} (hl : lv_has ls 1 [(0, .ref t0)]) : W p l e { frames := 1, cells := mc, slots := ms, locals := 40 } s m args below meth c H locs cells slots (MQ below (Zv D cs A hz) args s mc ms A) (F0 m 127 ls [va_rf y1, va_rf y0]) := by
  obtain ⟨hx, hb, hml, hown, hts, -⟩ := id C
  unfold B_X10_init_127 at hJ
  obtain ⟨a95, ea95, hka95, hJ⟩ := dr_some hJ
  rw [ea95]
  refine fp_1317 (x := y1) C hin2 w hka95 tw_6_180 dX10_init_127 (fun H locs w => ?_)
  refine lv_aload_n hx hb dX10_init_130 rfl (lv_at hl 0 rfl) ?_
  refine lv_sipush (v := (514 : Int32)) hx hb dX10_init_131 (by decide) ?_
  obtain ⟨hn96, hJ⟩ := ck_some hJ
  have w0 := w
  refine fa_32 C w hn96 (mb_X10_init_136 N t0 _ _ _ hJ) hz2 dX10_init_134 (fun H w => ?_)
  have hk97 := kd_new (k := 32) (n := (514 : Int32).toNatClampNeg) (sl := (514 : Int32).toNatClampNeg) w0 hk0 (by decide)
  exact sb_X10_init_136 C hin2 hz2 N t0 _ _ _ hJ hk97 w hl
def B_X10_init_118 (N : Nat) (t0 : Nat) (h : Hp) (y0 : Option Nat) (y1 : Option Nat) : Option (Hp × Unit) := dr h 13 y0 (fun a98 => ck (¬ (514 : Int32) < 0 ∧ (514 : Int32).toNatClampNeg ≤ 67108864) (B_X10_init_127 N t0 ((h.sgr 1316 a98 y1).new 32 ((514 : Int32).toNatClampNeg) ((514 : Int32).toNatClampNeg)) (some t0) (some (h.sgr 1316 a98 y1).nx)))
theorem mb_X10_init_118 (N : Nat) (t0 : Nat) (h : Hp) (y0 : Option Nat) (y1 : Option Nat) (hJ : B_X10_init_118 N t0 h y0 y1 = some (hz, ())) : Mo h hz := by
  unfold B_X10_init_118 at hJ
  obtain ⟨a98, ea98, -, hJ⟩ := dr_some hJ
  obtain ⟨-, hJ⟩ := ck_some hJ
  exact (Mo.tr (show Mo h (h.sgr 1316 a98 y1) from ⟨fun _ _ => rfl, Nat.le_refl _, Nat.le_refl _, rfl, fun _ _ => rfl⟩) ((Mo.new (h.sgr 1316 a98 y1) _ _ _).tr (mb_X10_init_127 N t0 _ _ _ hJ)))
set_option maxRecDepth 100000 in
set_option maxHeartbeats 4000000 in
theorem sb_X10_init_118 (C : Cx p s m args meth c cX10_init 1 none RX10 D cs A h0.se) (hin2 : meth.name = "<init>") (hz2 : hz.nx ≤ h0.nx + mc ∧ hz.su ≤ h0.su + ms) (N : Nat) (t0 : Nat) (h : Hp) (y0 : Option Nat) (y1 : Option Nat) (hJ : B_X10_init_118 N t0 h y0 y1 = some (hz, ())) (hk0 : h.kd t0 = 13) {H : Heap} {locs : List Loc} {cells slots : Nat} (w : Wo D cs A s h0 h H locs cells slots) {ls : Array Slot} (hl : lv_has ls 1 [(0, .ref t0)]) : W p l e { frames := 1, cells := mc, slots := ms, locals := 40 } s m args below meth c H locs cells slots (MQ below (Zv D cs A hz) args s mc ms A) (F0 m 118 ls [va_rf y1, va_rf y0]) := by
  obtain ⟨hx, hb, hml, hown, hts, -⟩ := id C
  unfold B_X10_init_118 at hJ
  obtain ⟨a98, ea98, hka98, hJ⟩ := dr_some hJ
  rw [ea98]
  refine fp_1316 (x := y1) C hin2 w hka98 tw_6_179 dX10_init_118 (fun H locs w => ?_)
  refine lv_aload_n hx hb dX10_init_121 rfl (lv_at hl 0 rfl) ?_
  refine lv_sipush (v := (514 : Int32)) hx hb dX10_init_122 (by decide) ?_
  obtain ⟨hn99, hJ⟩ := ck_some hJ
  have w0 := w
  refine fa_32 C w hn99 (mb_X10_init_127 N t0 _ _ _ hJ) hz2 dX10_init_125 (fun H w => ?_)
  have hk100 := kd_new (k := 32) (n := (514 : Int32).toNatClampNeg) (sl := (514 : Int32).toNatClampNeg) w0 hk0 (by decide)
  exact sb_X10_init_127 C hin2 hz2 N t0 _ _ _ hJ hk100 w hl
def B_X10_init_109 (N : Nat) (t0 : Nat) (h : Hp) (y0 : Option Nat) (y1 : Option Nat) : Option (Hp × Unit) := dr h 13 y0 (fun a101 => ck (¬ (514 : Int32) < 0 ∧ (514 : Int32).toNatClampNeg ≤ 67108864) (B_X10_init_118 N t0 ((h.sgr 1315 a101 y1).new 31 ((514 : Int32).toNatClampNeg) ((514 : Int32).toNatClampNeg)) (some t0) (some (h.sgr 1315 a101 y1).nx)))
theorem mb_X10_init_109 (N : Nat) (t0 : Nat) (h : Hp) (y0 : Option Nat) (y1 : Option Nat) (hJ : B_X10_init_109 N t0 h y0 y1 = some (hz, ())) : Mo h hz := by
  unfold B_X10_init_109 at hJ
  obtain ⟨a101, ea101, -, hJ⟩ := dr_some hJ
  obtain ⟨-, hJ⟩ := ck_some hJ
  exact (Mo.tr (show Mo h (h.sgr 1315 a101 y1) from ⟨fun _ _ => rfl, Nat.le_refl _, Nat.le_refl _, rfl, fun _ _ => rfl⟩) ((Mo.new (h.sgr 1315 a101 y1) _ _ _).tr (mb_X10_init_118 N t0 _ _ _ hJ)))
set_option maxRecDepth 100000 in
set_option maxHeartbeats 4000000 in
theorem sb_X10_init_109 (C : Cx p s m args meth c cX10_init 1 none RX10 D cs A h0.se) (hin2 : meth.name = "<init>") (hz2 : hz.nx ≤ h0.nx + mc ∧ hz.su ≤ h0.su + ms) (N : Nat) (t0 : Nat) (h : Hp) (y0 : Option Nat) (y1 : Option Nat) (hJ : B_X10_init_109 N t0 h y0 y1 = some (hz, ())) (hk0 : h.kd t0 = 13) {H : Heap} {locs : List Loc} {cells slots : Nat} (w : Wo D cs A s h0 h H locs cells slots) {ls : Array Slot} (hl : lv_has ls 1 [(0, .ref t0)]) : W p l e { frames := 1, cells := mc, slots := ms, locals := 40 } s m args below meth c H locs cells slots (MQ below (Zv D cs A hz) args s mc ms A) (F0 m 109 ls [va_rf y1, va_rf y0]) := by
  obtain ⟨hx, hb, hml, hown, hts, -⟩ := id C
  unfold B_X10_init_109 at hJ
  obtain ⟨a101, ea101, hka101, hJ⟩ := dr_some hJ
  rw [ea101]
  refine fp_1315 (x := y1) C hin2 w hka101 tw_6_178 dX10_init_109 (fun H locs w => ?_)
  refine lv_aload_n hx hb dX10_init_112 rfl (lv_at hl 0 rfl) ?_
  refine lv_sipush (v := (514 : Int32)) hx hb dX10_init_113 (by decide) ?_
  obtain ⟨hn102, hJ⟩ := ck_some hJ
  have w0 := w
  refine fa_31 C w hn102 (mb_X10_init_118 N t0 _ _ _ hJ) hz2 dX10_init_116 (fun H w => ?_)
  have hk103 := kd_new (k := 31) (n := (514 : Int32).toNatClampNeg) (sl := (514 : Int32).toNatClampNeg) w0 hk0 (by decide)
  exact sb_X10_init_118 C hin2 hz2 N t0 _ _ _ hJ hk103 w hl
def B_X10_init_100 (N : Nat) (t0 : Nat) (h : Hp) (y0 : Option Nat) (y1 : Option Nat) : Option (Hp × Unit) := dr h 13 y0 (fun a104 => ck (¬ (514 : Int32) < 0 ∧ (514 : Int32).toNatClampNeg ≤ 67108864) (B_X10_init_109 N t0 ((h.sgr 1314 a104 y1).new 30 ((514 : Int32).toNatClampNeg) ((514 : Int32).toNatClampNeg)) (some t0) (some (h.sgr 1314 a104 y1).nx)))
theorem mb_X10_init_100 (N : Nat) (t0 : Nat) (h : Hp) (y0 : Option Nat) (y1 : Option Nat) (hJ : B_X10_init_100 N t0 h y0 y1 = some (hz, ())) : Mo h hz := by
  unfold B_X10_init_100 at hJ
  obtain ⟨a104, ea104, -, hJ⟩ := dr_some hJ
  obtain ⟨-, hJ⟩ := ck_some hJ
  exact (Mo.tr (show Mo h (h.sgr 1314 a104 y1) from ⟨fun _ _ => rfl, Nat.le_refl _, Nat.le_refl _, rfl, fun _ _ => rfl⟩) ((Mo.new (h.sgr 1314 a104 y1) _ _ _).tr (mb_X10_init_109 N t0 _ _ _ hJ)))
set_option maxRecDepth 100000 in
set_option maxHeartbeats 4000000 in
theorem sb_X10_init_100 (C : Cx p s m args meth c cX10_init 1 none RX10 D cs A h0.se) (hin2 : meth.name = "<init>") (hz2 : hz.nx ≤ h0.nx + mc ∧ hz.su ≤ h0.su + ms) (N : Nat) (t0 : Nat) (h : Hp) (y0 : Option Nat) (y1 : Option Nat) (hJ : B_X10_init_100 N t0 h y0 y1 = some (hz, ())) (hk0 : h.kd t0 = 13) {H : Heap} {locs : List Loc} {cells slots : Nat} (w : Wo D cs A s h0 h H locs cells slots) {ls : Array Slot} (hl : lv_has ls 1 [(0, .ref t0)]) : W p l e { frames := 1, cells := mc, slots := ms, locals := 40 } s m args below meth c H locs cells slots (MQ below (Zv D cs A hz) args s mc ms A) (F0 m 100 ls [va_rf y1, va_rf y0]) := by
  obtain ⟨hx, hb, hml, hown, hts, -⟩ := id C
  unfold B_X10_init_100 at hJ
  obtain ⟨a104, ea104, hka104, hJ⟩ := dr_some hJ
  rw [ea104]
  refine fp_1314 (x := y1) C hin2 w hka104 tw_6_177 dX10_init_100 (fun H locs w => ?_)
  refine lv_aload_n hx hb dX10_init_103 rfl (lv_at hl 0 rfl) ?_
  refine lv_sipush (v := (514 : Int32)) hx hb dX10_init_104 (by decide) ?_
  obtain ⟨hn105, hJ⟩ := ck_some hJ
  have w0 := w
  refine fa_30 C w hn105 (mb_X10_init_109 N t0 _ _ _ hJ) hz2 dX10_init_107 (fun H w => ?_)
  have hk106 := kd_new (k := 30) (n := (514 : Int32).toNatClampNeg) (sl := (514 : Int32).toNatClampNeg) w0 hk0 (by decide)
  exact sb_X10_init_109 C hin2 hz2 N t0 _ _ _ hJ hk106 w hl
def B_X10_init_91 (N : Nat) (t0 : Nat) (h : Hp) (y0 : Option Nat) (y1 : Option Nat) : Option (Hp × Unit) := dr h 13 y0 (fun a107 => ck (¬ (514 : Int32) < 0 ∧ (514 : Int32).toNatClampNeg ≤ 67108864) (B_X10_init_100 N t0 ((h.sgr 1310 a107 y1).new 30 ((514 : Int32).toNatClampNeg) ((514 : Int32).toNatClampNeg)) (some t0) (some (h.sgr 1310 a107 y1).nx)))
theorem mb_X10_init_91 (N : Nat) (t0 : Nat) (h : Hp) (y0 : Option Nat) (y1 : Option Nat) (hJ : B_X10_init_91 N t0 h y0 y1 = some (hz, ())) : Mo h hz := by
  unfold B_X10_init_91 at hJ
  obtain ⟨a107, ea107, -, hJ⟩ := dr_some hJ
  obtain ⟨-, hJ⟩ := ck_some hJ
  exact (Mo.tr (show Mo h (h.sgr 1310 a107 y1) from ⟨fun _ _ => rfl, Nat.le_refl _, Nat.le_refl _, rfl, fun _ _ => rfl⟩) ((Mo.new (h.sgr 1310 a107 y1) _ _ _).tr (mb_X10_init_100 N t0 _ _ _ hJ)))
set_option maxRecDepth 100000 in
set_option maxHeartbeats 4000000 in
theorem sb_X10_init_91 (C : Cx p s m args meth c cX10_init 1 none RX10 D cs A h0.se) (hin2 : meth.name = "<init>") (hz2 : hz.nx ≤ h0.nx + mc ∧ hz.su ≤ h0.su + ms) (N : Nat) (t0 : Nat) (h : Hp) (y0 : Option Nat) (y1 : Option Nat) (hJ : B_X10_init_91 N t0 h y0 y1 = some (hz, ())) (hk0 : h.kd t0 = 13) {H : Heap} {locs : List Loc} {cells slots : Nat} (w : Wo D cs A s h0 h H locs cells slots) {ls : Array Slot} (hl : lv_has ls 1 [(0, .ref t0)]) : W p l e { frames := 1, cells := mc, slots := ms, locals := 40 } s m args below meth c H locs cells slots (MQ below (Zv D cs A hz) args s mc ms A) (F0 m 91 ls [va_rf y1, va_rf y0]) := by
  obtain ⟨hx, hb, hml, hown, hts, -⟩ := id C
  unfold B_X10_init_91 at hJ
  obtain ⟨a107, ea107, hka107, hJ⟩ := dr_some hJ
  rw [ea107]
  refine fp_1310 (x := y1) C hin2 w hka107 tw_6_173 dX10_init_91 (fun H locs w => ?_)
  refine lv_aload_n hx hb dX10_init_94 rfl (lv_at hl 0 rfl) ?_
  refine lv_sipush (v := (514 : Int32)) hx hb dX10_init_95 (by decide) ?_
  obtain ⟨hn108, hJ⟩ := ck_some hJ
  have w0 := w
  refine fa_30 C w hn108 (mb_X10_init_100 N t0 _ _ _ hJ) hz2 dX10_init_98 (fun H w => ?_)
  have hk109 := kd_new (k := 30) (n := (514 : Int32).toNatClampNeg) (sl := (514 : Int32).toNatClampNeg) w0 hk0 (by decide)
  exact sb_X10_init_100 C hin2 hz2 N t0 _ _ _ hJ hk109 w hl
def B_X10_init_82 (N : Nat) (t0 : Nat) (h : Hp) (y0 : Option Nat) (y1 : Option Nat) : Option (Hp × Unit) := dr h 13 y0 (fun a110 => ck (¬ (5140 : Int32) < 0 ∧ (5140 : Int32).toNatClampNeg ≤ 67108864) (B_X10_init_91 N t0 ((h.sgr 1309 a110 y1).new 30 ((5140 : Int32).toNatClampNeg) ((5140 : Int32).toNatClampNeg)) (some t0) (some (h.sgr 1309 a110 y1).nx)))
theorem mb_X10_init_82 (N : Nat) (t0 : Nat) (h : Hp) (y0 : Option Nat) (y1 : Option Nat) (hJ : B_X10_init_82 N t0 h y0 y1 = some (hz, ())) : Mo h hz := by
  unfold B_X10_init_82 at hJ
  obtain ⟨a110, ea110, -, hJ⟩ := dr_some hJ
  obtain ⟨-, hJ⟩ := ck_some hJ
  exact (Mo.tr (show Mo h (h.sgr 1309 a110 y1) from ⟨fun _ _ => rfl, Nat.le_refl _, Nat.le_refl _, rfl, fun _ _ => rfl⟩) ((Mo.new (h.sgr 1309 a110 y1) _ _ _).tr (mb_X10_init_91 N t0 _ _ _ hJ)))
set_option maxRecDepth 100000 in
set_option maxHeartbeats 4000000 in
theorem sb_X10_init_82 (C : Cx p s m args meth c cX10_init 1 none RX10 D cs A h0.se) (hin2 : meth.name = "<init>") (hz2 : hz.nx ≤ h0.nx + mc ∧ hz.su ≤ h0.su + ms) (N : Nat) (t0 : Nat) (h : Hp) (y0 : Option Nat) (y1 : Option Nat) (hJ : B_X10_init_82 N t0 h y0 y1 = some (hz, ())) (hk0 : h.kd t0 = 13) {H : Heap} {locs : List Loc} {cells slots : Nat} (w : Wo D cs A s h0 h H locs cells slots) {ls : Array Slot} (hl : lv_has ls 1 [(0, .ref t0)]) : W p l e { frames := 1, cells := mc, slots := ms, locals := 40 } s m args below meth c H locs cells slots (MQ below (Zv D cs A hz) args s mc ms A) (F0 m 82 ls [va_rf y1, va_rf y0]) := by
  obtain ⟨hx, hb, hml, hown, hts, -⟩ := id C
  unfold B_X10_init_82 at hJ
  obtain ⟨a110, ea110, hka110, hJ⟩ := dr_some hJ
  rw [ea110]
  refine fp_1309 (x := y1) C hin2 w hka110 tw_6_172 dX10_init_82 (fun H locs w => ?_)
  refine lv_aload_n hx hb dX10_init_85 rfl (lv_at hl 0 rfl) ?_
  refine lv_sipush (v := (5140 : Int32)) hx hb dX10_init_86 (by decide) ?_
  obtain ⟨hn111, hJ⟩ := ck_some hJ
  have w0 := w
  refine fa_30 C w hn111 (mb_X10_init_91 N t0 _ _ _ hJ) hz2 dX10_init_89 (fun H w => ?_)
  have hk112 := kd_new (k := 30) (n := (5140 : Int32).toNatClampNeg) (sl := (5140 : Int32).toNatClampNeg) w0 hk0 (by decide)
  exact sb_X10_init_91 C hin2 hz2 N t0 _ _ _ hJ hk112 w hl
def B_X10_init_73 (N : Nat) (t0 : Nat) (h : Hp) (y0 : Option Nat) (y1 : Option Nat) : Option (Hp × Unit) := dr h 13 y0 (fun a113 => ck (¬ (514 : Int32) < 0 ∧ (514 : Int32).toNatClampNeg ≤ 67108864) (B_X10_init_82 N t0 ((h.sgr 1308 a113 y1).new 30 ((514 : Int32).toNatClampNeg) ((514 : Int32).toNatClampNeg)) (some t0) (some (h.sgr 1308 a113 y1).nx)))
theorem mb_X10_init_73 (N : Nat) (t0 : Nat) (h : Hp) (y0 : Option Nat) (y1 : Option Nat) (hJ : B_X10_init_73 N t0 h y0 y1 = some (hz, ())) : Mo h hz := by
  unfold B_X10_init_73 at hJ
  obtain ⟨a113, ea113, -, hJ⟩ := dr_some hJ
  obtain ⟨-, hJ⟩ := ck_some hJ
  exact (Mo.tr (show Mo h (h.sgr 1308 a113 y1) from ⟨fun _ _ => rfl, Nat.le_refl _, Nat.le_refl _, rfl, fun _ _ => rfl⟩) ((Mo.new (h.sgr 1308 a113 y1) _ _ _).tr (mb_X10_init_82 N t0 _ _ _ hJ)))
set_option maxRecDepth 100000 in
set_option maxHeartbeats 4000000 in
theorem sb_X10_init_73 (C : Cx p s m args meth c cX10_init 1 none RX10 D cs A h0.se) (hin2 : meth.name = "<init>") (hz2 : hz.nx ≤ h0.nx + mc ∧ hz.su ≤ h0.su + ms) (N : Nat) (t0 : Nat) (h : Hp) (y0 : Option Nat) (y1 : Option Nat) (hJ : B_X10_init_73 N t0 h y0 y1 = some (hz, ())) (hk0 : h.kd t0 = 13) {H : Heap} {locs : List Loc} {cells slots : Nat} (w : Wo D cs A s h0 h H locs cells slots) {ls : Array Slot} (hl : lv_has ls 1 [(0, .ref t0)]) : W p l e { frames := 1, cells := mc, slots := ms, locals := 40 } s m args below meth c H locs cells slots (MQ below (Zv D cs A hz) args s mc ms A) (F0 m 73 ls [va_rf y1, va_rf y0]) := by
  obtain ⟨hx, hb, hml, hown, hts, -⟩ := id C
  unfold B_X10_init_73 at hJ
  obtain ⟨a113, ea113, hka113, hJ⟩ := dr_some hJ
  rw [ea113]
  refine fp_1308 (x := y1) C hin2 w hka113 tw_6_171 dX10_init_73 (fun H locs w => ?_)
  refine lv_aload_n hx hb dX10_init_76 rfl (lv_at hl 0 rfl) ?_
  refine lv_sipush (v := (514 : Int32)) hx hb dX10_init_77 (by decide) ?_
  obtain ⟨hn114, hJ⟩ := ck_some hJ
  have w0 := w
  refine fa_30 C w hn114 (mb_X10_init_82 N t0 _ _ _ hJ) hz2 dX10_init_80 (fun H w => ?_)
  have hk115 := kd_new (k := 30) (n := (514 : Int32).toNatClampNeg) (sl := (514 : Int32).toNatClampNeg) w0 hk0 (by decide)
  exact sb_X10_init_82 C hin2 hz2 N t0 _ _ _ hJ hk115 w hl
def B_X10_init_64 (N : Nat) (t0 : Nat) (h : Hp) (y0 : Option Nat) (y1 : Option Nat) : Option (Hp × Unit) := dr h 13 y0 (fun a116 => ck (¬ (514 : Int32) < 0 ∧ (514 : Int32).toNatClampNeg ≤ 67108864) (B_X10_init_73 N t0 ((h.sgr 1307 a116 y1).new 32 ((514 : Int32).toNatClampNeg) ((514 : Int32).toNatClampNeg)) (some t0) (some (h.sgr 1307 a116 y1).nx)))
theorem mb_X10_init_64 (N : Nat) (t0 : Nat) (h : Hp) (y0 : Option Nat) (y1 : Option Nat) (hJ : B_X10_init_64 N t0 h y0 y1 = some (hz, ())) : Mo h hz := by
  unfold B_X10_init_64 at hJ
  obtain ⟨a116, ea116, -, hJ⟩ := dr_some hJ
  obtain ⟨-, hJ⟩ := ck_some hJ
  exact (Mo.tr (show Mo h (h.sgr 1307 a116 y1) from ⟨fun _ _ => rfl, Nat.le_refl _, Nat.le_refl _, rfl, fun _ _ => rfl⟩) ((Mo.new (h.sgr 1307 a116 y1) _ _ _).tr (mb_X10_init_73 N t0 _ _ _ hJ)))
set_option maxRecDepth 100000 in
set_option maxHeartbeats 4000000 in
theorem sb_X10_init_64 (C : Cx p s m args meth c cX10_init 1 none RX10 D cs A h0.se) (hin2 : meth.name = "<init>") (hz2 : hz.nx ≤ h0.nx + mc ∧ hz.su ≤ h0.su + ms) (N : Nat) (t0 : Nat) (h : Hp) (y0 : Option Nat) (y1 : Option Nat) (hJ : B_X10_init_64 N t0 h y0 y1 = some (hz, ())) (hk0 : h.kd t0 = 13) {H : Heap} {locs : List Loc} {cells slots : Nat} (w : Wo D cs A s h0 h H locs cells slots) {ls : Array Slot} (hl : lv_has ls 1 [(0, .ref t0)]) : W p l e { frames := 1, cells := mc, slots := ms, locals := 40 } s m args below meth c H locs cells slots (MQ below (Zv D cs A hz) args s mc ms A) (F0 m 64 ls [va_rf y1, va_rf y0]) := by
  obtain ⟨hx, hb, hml, hown, hts, -⟩ := id C
  unfold B_X10_init_64 at hJ
  obtain ⟨a116, ea116, hka116, hJ⟩ := dr_some hJ
  rw [ea116]
  refine fp_1307 (x := y1) C hin2 w hka116 tw_6_170 dX10_init_64 (fun H locs w => ?_)
  refine lv_aload_n hx hb dX10_init_67 rfl (lv_at hl 0 rfl) ?_
  refine lv_sipush (v := (514 : Int32)) hx hb dX10_init_68 (by decide) ?_
  obtain ⟨hn117, hJ⟩ := ck_some hJ
  have w0 := w
  refine fa_32 C w hn117 (mb_X10_init_73 N t0 _ _ _ hJ) hz2 dX10_init_71 (fun H w => ?_)
  have hk118 := kd_new (k := 32) (n := (514 : Int32).toNatClampNeg) (sl := (514 : Int32).toNatClampNeg) w0 hk0 (by decide)
  exact sb_X10_init_73 C hin2 hz2 N t0 _ _ _ hJ hk118 w hl
def B_X10_init_55 (N : Nat) (t0 : Nat) (h : Hp) (y0 : Option Nat) (y1 : Option Nat) : Option (Hp × Unit) := dr h 13 y0 (fun a119 => ck (¬ (514 : Int32) < 0 ∧ (514 : Int32).toNatClampNeg ≤ 67108864) (B_X10_init_64 N t0 ((h.sgr 1306 a119 y1).new 30 ((514 : Int32).toNatClampNeg) ((514 : Int32).toNatClampNeg)) (some t0) (some (h.sgr 1306 a119 y1).nx)))
theorem mb_X10_init_55 (N : Nat) (t0 : Nat) (h : Hp) (y0 : Option Nat) (y1 : Option Nat) (hJ : B_X10_init_55 N t0 h y0 y1 = some (hz, ())) : Mo h hz := by
  unfold B_X10_init_55 at hJ
  obtain ⟨a119, ea119, -, hJ⟩ := dr_some hJ
  obtain ⟨-, hJ⟩ := ck_some hJ
  exact (Mo.tr (show Mo h (h.sgr 1306 a119 y1) from ⟨fun _ _ => rfl, Nat.le_refl _, Nat.le_refl _, rfl, fun _ _ => rfl⟩) ((Mo.new (h.sgr 1306 a119 y1) _ _ _).tr (mb_X10_init_64 N t0 _ _ _ hJ)))
set_option maxRecDepth 100000 in
set_option maxHeartbeats 4000000 in
theorem sb_X10_init_55 (C : Cx p s m args meth c cX10_init 1 none RX10 D cs A h0.se) (hin2 : meth.name = "<init>") (hz2 : hz.nx ≤ h0.nx + mc ∧ hz.su ≤ h0.su + ms) (N : Nat) (t0 : Nat) (h : Hp) (y0 : Option Nat) (y1 : Option Nat) (hJ : B_X10_init_55 N t0 h y0 y1 = some (hz, ())) (hk0 : h.kd t0 = 13) {H : Heap} {locs : List Loc} {cells slots : Nat} (w : Wo D cs A s h0 h H locs cells slots) {ls : Array Slot} (hl : lv_has ls 1 [(0, .ref t0)]) : W p l e { frames := 1, cells := mc, slots := ms, locals := 40 } s m args below meth c H locs cells slots (MQ below (Zv D cs A hz) args s mc ms A) (F0 m 55 ls [va_rf y1, va_rf y0]) := by
  obtain ⟨hx, hb, hml, hown, hts, -⟩ := id C
  unfold B_X10_init_55 at hJ
  obtain ⟨a119, ea119, hka119, hJ⟩ := dr_some hJ
  rw [ea119]
  refine fp_1306 (x := y1) C hin2 w hka119 tw_6_169 dX10_init_55 (fun H locs w => ?_)
  refine lv_aload_n hx hb dX10_init_58 rfl (lv_at hl 0 rfl) ?_
  refine lv_sipush (v := (514 : Int32)) hx hb dX10_init_59 (by decide) ?_
  obtain ⟨hn120, hJ⟩ := ck_some hJ
  have w0 := w
  refine fa_30 C w hn120 (mb_X10_init_64 N t0 _ _ _ hJ) hz2 dX10_init_62 (fun H w => ?_)
  have hk121 := kd_new (k := 30) (n := (514 : Int32).toNatClampNeg) (sl := (514 : Int32).toNatClampNeg) w0 hk0 (by decide)
  exact sb_X10_init_64 C hin2 hz2 N t0 _ _ _ hJ hk121 w hl
def B_X10_init_46 (N : Nat) (t0 : Nat) (h : Hp) (y0 : Option Nat) (y1 : Option Nat) : Option (Hp × Unit) := dr h 13 y0 (fun a122 => ck (¬ (514 : Int32) < 0 ∧ (514 : Int32).toNatClampNeg ≤ 67108864) (B_X10_init_55 N t0 ((h.sgr 1305 a122 y1).new 30 ((514 : Int32).toNatClampNeg) ((514 : Int32).toNatClampNeg)) (some t0) (some (h.sgr 1305 a122 y1).nx)))
theorem mb_X10_init_46 (N : Nat) (t0 : Nat) (h : Hp) (y0 : Option Nat) (y1 : Option Nat) (hJ : B_X10_init_46 N t0 h y0 y1 = some (hz, ())) : Mo h hz := by
  unfold B_X10_init_46 at hJ
  obtain ⟨a122, ea122, -, hJ⟩ := dr_some hJ
  obtain ⟨-, hJ⟩ := ck_some hJ
  exact (Mo.tr (show Mo h (h.sgr 1305 a122 y1) from ⟨fun _ _ => rfl, Nat.le_refl _, Nat.le_refl _, rfl, fun _ _ => rfl⟩) ((Mo.new (h.sgr 1305 a122 y1) _ _ _).tr (mb_X10_init_55 N t0 _ _ _ hJ)))
set_option maxRecDepth 100000 in
set_option maxHeartbeats 4000000 in
theorem sb_X10_init_46 (C : Cx p s m args meth c cX10_init 1 none RX10 D cs A h0.se) (hin2 : meth.name = "<init>") (hz2 : hz.nx ≤ h0.nx + mc ∧ hz.su ≤ h0.su + ms) (N : Nat) (t0 : Nat) (h : Hp) (y0 : Option Nat) (y1 : Option Nat) (hJ : B_X10_init_46 N t0 h y0 y1 = some (hz, ())) (hk0 : h.kd t0 = 13) {H : Heap} {locs : List Loc} {cells slots : Nat} (w : Wo D cs A s h0 h H locs cells slots) {ls : Array Slot} (hl : lv_has ls 1 [(0, .ref t0)]) : W p l e { frames := 1, cells := mc, slots := ms, locals := 40 } s m args below meth c H locs cells slots (MQ below (Zv D cs A hz) args s mc ms A) (F0 m 46 ls [va_rf y1, va_rf y0]) := by
  obtain ⟨hx, hb, hml, hown, hts, -⟩ := id C
  unfold B_X10_init_46 at hJ
  obtain ⟨a122, ea122, hka122, hJ⟩ := dr_some hJ
  rw [ea122]
  refine fp_1305 (x := y1) C hin2 w hka122 tw_6_168 dX10_init_46 (fun H locs w => ?_)
  refine lv_aload_n hx hb dX10_init_49 rfl (lv_at hl 0 rfl) ?_
  refine lv_sipush (v := (514 : Int32)) hx hb dX10_init_50 (by decide) ?_
  obtain ⟨hn123, hJ⟩ := ck_some hJ
  have w0 := w
  refine fa_30 C w hn123 (mb_X10_init_55 N t0 _ _ _ hJ) hz2 dX10_init_53 (fun H w => ?_)
  have hk124 := kd_new (k := 30) (n := (514 : Int32).toNatClampNeg) (sl := (514 : Int32).toNatClampNeg) w0 hk0 (by decide)
  exact sb_X10_init_55 C hin2 hz2 N t0 _ _ _ hJ hk124 w hl
def B_X10_init_37 (N : Nat) (t0 : Nat) (h : Hp) (y0 : Option Nat) (y1 : Option Nat) : Option (Hp × Unit) := dr h 13 y0 (fun a125 => ck (¬ (514 : Int32) < 0 ∧ (514 : Int32).toNatClampNeg ≤ 67108864) (B_X10_init_46 N t0 ((h.sgr 1304 a125 y1).new 30 ((514 : Int32).toNatClampNeg) ((514 : Int32).toNatClampNeg)) (some t0) (some (h.sgr 1304 a125 y1).nx)))
theorem mb_X10_init_37 (N : Nat) (t0 : Nat) (h : Hp) (y0 : Option Nat) (y1 : Option Nat) (hJ : B_X10_init_37 N t0 h y0 y1 = some (hz, ())) : Mo h hz := by
  unfold B_X10_init_37 at hJ
  obtain ⟨a125, ea125, -, hJ⟩ := dr_some hJ
  obtain ⟨-, hJ⟩ := ck_some hJ
  exact (Mo.tr (show Mo h (h.sgr 1304 a125 y1) from ⟨fun _ _ => rfl, Nat.le_refl _, Nat.le_refl _, rfl, fun _ _ => rfl⟩) ((Mo.new (h.sgr 1304 a125 y1) _ _ _).tr (mb_X10_init_46 N t0 _ _ _ hJ)))
set_option maxRecDepth 100000 in
set_option maxHeartbeats 4000000 in
theorem sb_X10_init_37 (C : Cx p s m args meth c cX10_init 1 none RX10 D cs A h0.se) (hin2 : meth.name = "<init>") (hz2 : hz.nx ≤ h0.nx + mc ∧ hz.su ≤ h0.su + ms) (N : Nat) (t0 : Nat) (h : Hp) (y0 : Option Nat) (y1 : Option Nat) (hJ : B_X10_init_37 N t0 h y0 y1 = some (hz, ())) (hk0 : h.kd t0 = 13) {H : Heap} {locs : List Loc} {cells slots : Nat} (w : Wo D cs A s h0 h H locs cells slots) {ls : Array Slot} (hl : lv_has ls 1 [(0, .ref t0)]) : W p l e { frames := 1, cells := mc, slots := ms, locals := 40 } s m args below meth c H locs cells slots (MQ below (Zv D cs A hz) args s mc ms A) (F0 m 37 ls [va_rf y1, va_rf y0]) := by
  obtain ⟨hx, hb, hml, hown, hts, -⟩ := id C
  unfold B_X10_init_37 at hJ
  obtain ⟨a125, ea125, hka125, hJ⟩ := dr_some hJ
  rw [ea125]
  refine fp_1304 (x := y1) C hin2 w hka125 tw_6_167 dX10_init_37 (fun H locs w => ?_)
  refine lv_aload_n hx hb dX10_init_40 rfl (lv_at hl 0 rfl) ?_
  refine lv_sipush (v := (514 : Int32)) hx hb dX10_init_41 (by decide) ?_
  obtain ⟨hn126, hJ⟩ := ck_some hJ
  have w0 := w
  refine fa_30 C w hn126 (mb_X10_init_46 N t0 _ _ _ hJ) hz2 dX10_init_44 (fun H w => ?_)
  have hk127 := kd_new (k := 30) (n := (514 : Int32).toNatClampNeg) (sl := (514 : Int32).toNatClampNeg) w0 hk0 (by decide)
  exact sb_X10_init_46 C hin2 hz2 N t0 _ _ _ hJ hk127 w hl
def B_X10_init_28 (N : Nat) (t0 : Nat) (h : Hp) (y0 : Option Nat) (y1 : Option Nat) : Option (Hp × Unit) := dr h 13 y0 (fun a128 => ck (¬ (514 : Int32) < 0 ∧ (514 : Int32).toNatClampNeg ≤ 67108864) (B_X10_init_37 N t0 ((h.sgr 1303 a128 y1).new 30 ((514 : Int32).toNatClampNeg) ((514 : Int32).toNatClampNeg)) (some t0) (some (h.sgr 1303 a128 y1).nx)))
theorem mb_X10_init_28 (N : Nat) (t0 : Nat) (h : Hp) (y0 : Option Nat) (y1 : Option Nat) (hJ : B_X10_init_28 N t0 h y0 y1 = some (hz, ())) : Mo h hz := by
  unfold B_X10_init_28 at hJ
  obtain ⟨a128, ea128, -, hJ⟩ := dr_some hJ
  obtain ⟨-, hJ⟩ := ck_some hJ
  exact (Mo.tr (show Mo h (h.sgr 1303 a128 y1) from ⟨fun _ _ => rfl, Nat.le_refl _, Nat.le_refl _, rfl, fun _ _ => rfl⟩) ((Mo.new (h.sgr 1303 a128 y1) _ _ _).tr (mb_X10_init_37 N t0 _ _ _ hJ)))
set_option maxRecDepth 100000 in
set_option maxHeartbeats 4000000 in
theorem sb_X10_init_28 (C : Cx p s m args meth c cX10_init 1 none RX10 D cs A h0.se) (hin2 : meth.name = "<init>") (hz2 : hz.nx ≤ h0.nx + mc ∧ hz.su ≤ h0.su + ms) (N : Nat) (t0 : Nat) (h : Hp) (y0 : Option Nat) (y1 : Option Nat) (hJ : B_X10_init_28 N t0 h y0 y1 = some (hz, ())) (hk0 : h.kd t0 = 13) {H : Heap} {locs : List Loc} {cells slots : Nat} (w : Wo D cs A s h0 h H locs cells slots) {ls : Array Slot} (hl : lv_has ls 1 [(0, .ref t0)]) : W p l e { frames := 1, cells := mc, slots := ms, locals := 40 } s m args below meth c H locs cells slots (MQ below (Zv D cs A hz) args s mc ms A) (F0 m 28 ls [va_rf y1, va_rf y0]) := by
  obtain ⟨hx, hb, hml, hown, hts, -⟩ := id C
  unfold B_X10_init_28 at hJ
  obtain ⟨a128, ea128, hka128, hJ⟩ := dr_some hJ
  rw [ea128]
  refine fp_1303 (x := y1) C hin2 w hka128 tw_6_166 dX10_init_28 (fun H locs w => ?_)
  refine lv_aload_n hx hb dX10_init_31 rfl (lv_at hl 0 rfl) ?_
  refine lv_sipush (v := (514 : Int32)) hx hb dX10_init_32 (by decide) ?_
  obtain ⟨hn129, hJ⟩ := ck_some hJ
  have w0 := w
  refine fa_30 C w hn129 (mb_X10_init_37 N t0 _ _ _ hJ) hz2 dX10_init_35 (fun H w => ?_)
  have hk130 := kd_new (k := 30) (n := (514 : Int32).toNatClampNeg) (sl := (514 : Int32).toNatClampNeg) w0 hk0 (by decide)
  exact sb_X10_init_37 C hin2 hz2 N t0 _ _ _ hJ hk130 w hl
def B_X10_init_19 (N : Nat) (t0 : Nat) (h : Hp) (y0 : Option Nat) (y1 : Option Nat) : Option (Hp × Unit) := dr h 13 y0 (fun a131 => ck (¬ (514 : Int32) < 0 ∧ (514 : Int32).toNatClampNeg ≤ 67108864) (B_X10_init_28 N t0 ((h.sgr 1302 a131 y1).new 30 ((514 : Int32).toNatClampNeg) ((514 : Int32).toNatClampNeg)) (some t0) (some (h.sgr 1302 a131 y1).nx)))
theorem mb_X10_init_19 (N : Nat) (t0 : Nat) (h : Hp) (y0 : Option Nat) (y1 : Option Nat) (hJ : B_X10_init_19 N t0 h y0 y1 = some (hz, ())) : Mo h hz := by
  unfold B_X10_init_19 at hJ
  obtain ⟨a131, ea131, -, hJ⟩ := dr_some hJ
  obtain ⟨-, hJ⟩ := ck_some hJ
  exact (Mo.tr (show Mo h (h.sgr 1302 a131 y1) from ⟨fun _ _ => rfl, Nat.le_refl _, Nat.le_refl _, rfl, fun _ _ => rfl⟩) ((Mo.new (h.sgr 1302 a131 y1) _ _ _).tr (mb_X10_init_28 N t0 _ _ _ hJ)))
set_option maxRecDepth 100000 in
set_option maxHeartbeats 4000000 in
theorem sb_X10_init_19 (C : Cx p s m args meth c cX10_init 1 none RX10 D cs A h0.se) (hin2 : meth.name = "<init>") (hz2 : hz.nx ≤ h0.nx + mc ∧ hz.su ≤ h0.su + ms) (N : Nat) (t0 : Nat) (h : Hp) (y0 : Option Nat) (y1 : Option Nat) (hJ : B_X10_init_19 N t0 h y0 y1 = some (hz, ())) (hk0 : h.kd t0 = 13) {H : Heap} {locs : List Loc} {cells slots : Nat} (w : Wo D cs A s h0 h H locs cells slots) {ls : Array Slot} (hl : lv_has ls 1 [(0, .ref t0)]) : W p l e { frames := 1, cells := mc, slots := ms, locals := 40 } s m args below meth c H locs cells slots (MQ below (Zv D cs A hz) args s mc ms A) (F0 m 19 ls [va_rf y1, va_rf y0]) := by
  obtain ⟨hx, hb, hml, hown, hts, -⟩ := id C
  unfold B_X10_init_19 at hJ
  obtain ⟨a131, ea131, hka131, hJ⟩ := dr_some hJ
  rw [ea131]
  refine fp_1302 (x := y1) C hin2 w hka131 tw_6_165 dX10_init_19 (fun H locs w => ?_)
  refine lv_aload_n hx hb dX10_init_22 rfl (lv_at hl 0 rfl) ?_
  refine lv_sipush (v := (514 : Int32)) hx hb dX10_init_23 (by decide) ?_
  obtain ⟨hn132, hJ⟩ := ck_some hJ
  have w0 := w
  refine fa_30 C w hn132 (mb_X10_init_28 N t0 _ _ _ hJ) hz2 dX10_init_26 (fun H w => ?_)
  have hk133 := kd_new (k := 30) (n := (514 : Int32).toNatClampNeg) (sl := (514 : Int32).toNatClampNeg) w0 hk0 (by decide)
  exact sb_X10_init_28 C hin2 hz2 N t0 _ _ _ hJ hk133 w hl
def B_X10_init_10 (N : Nat) (t0 : Nat) (h : Hp) (y0 : Option Nat) (y1 : Option Nat) : Option (Hp × Unit) := dr h 13 y0 (fun a134 => ck (¬ (514 : Int32) < 0 ∧ (514 : Int32).toNatClampNeg ≤ 67108864) (B_X10_init_19 N t0 ((h.sgr 1301 a134 y1).new 32 ((514 : Int32).toNatClampNeg) ((514 : Int32).toNatClampNeg)) (some t0) (some (h.sgr 1301 a134 y1).nx)))
theorem mb_X10_init_10 (N : Nat) (t0 : Nat) (h : Hp) (y0 : Option Nat) (y1 : Option Nat) (hJ : B_X10_init_10 N t0 h y0 y1 = some (hz, ())) : Mo h hz := by
  unfold B_X10_init_10 at hJ
  obtain ⟨a134, ea134, -, hJ⟩ := dr_some hJ
  obtain ⟨-, hJ⟩ := ck_some hJ
  exact (Mo.tr (show Mo h (h.sgr 1301 a134 y1) from ⟨fun _ _ => rfl, Nat.le_refl _, Nat.le_refl _, rfl, fun _ _ => rfl⟩) ((Mo.new (h.sgr 1301 a134 y1) _ _ _).tr (mb_X10_init_19 N t0 _ _ _ hJ)))
set_option maxRecDepth 100000 in
set_option maxHeartbeats 4000000 in
theorem sb_X10_init_10 (C : Cx p s m args meth c cX10_init 1 none RX10 D cs A h0.se) (hin2 : meth.name = "<init>") (hz2 : hz.nx ≤ h0.nx + mc ∧ hz.su ≤ h0.su + ms) (N : Nat) (t0 : Nat) (h : Hp) (y0 : Option Nat) (y1 : Option Nat) (hJ : B_X10_init_10 N t0 h y0 y1 = some (hz, ())) (hk0 : h.kd t0 = 13) {H : Heap} {locs : List Loc} {cells slots : Nat} (w : Wo D cs A s h0 h H locs cells slots) {ls : Array Slot} (hl : lv_has ls 1 [(0, .ref t0)]) : W p l e { frames := 1, cells := mc, slots := ms, locals := 40 } s m args below meth c H locs cells slots (MQ below (Zv D cs A hz) args s mc ms A) (F0 m 10 ls [va_rf y1, va_rf y0]) := by
  obtain ⟨hx, hb, hml, hown, hts, -⟩ := id C
  unfold B_X10_init_10 at hJ
  obtain ⟨a134, ea134, hka134, hJ⟩ := dr_some hJ
  rw [ea134]
  refine fp_1301 (x := y1) C hin2 w hka134 tw_6_164 dX10_init_10 (fun H locs w => ?_)
  refine lv_aload_n hx hb dX10_init_13 rfl (lv_at hl 0 rfl) ?_
  refine lv_sipush (v := (514 : Int32)) hx hb dX10_init_14 (by decide) ?_
  obtain ⟨hn135, hJ⟩ := ck_some hJ
  have w0 := w
  refine fa_32 C w hn135 (mb_X10_init_19 N t0 _ _ _ hJ) hz2 dX10_init_17 (fun H w => ?_)
  have hk136 := kd_new (k := 32) (n := (514 : Int32).toNatClampNeg) (sl := (514 : Int32).toNatClampNeg) w0 hk0 (by decide)
  exact sb_X10_init_19 C hin2 hz2 N t0 _ _ _ hJ hk136 w hl
def B_X10_init_0 (N : Nat) (t0 : Nat) (h : Hp) : Option (Hp × Unit) := ck (¬ (514 : Int32) < 0 ∧ (514 : Int32).toNatClampNeg ≤ 67108864) (B_X10_init_10 N t0 (h.new 30 ((514 : Int32).toNatClampNeg) ((514 : Int32).toNatClampNeg)) (some t0) (some h.nx))
theorem mb_X10_init_0 (N : Nat) (t0 : Nat) (h : Hp) (hJ : B_X10_init_0 N t0 h = some (hz, ())) : Mo h hz := by
  unfold B_X10_init_0 at hJ
  obtain ⟨-, hJ⟩ := ck_some hJ
  exact (Mo.new h _ _ _).tr (mb_X10_init_10 N t0 _ _ _ hJ)
set_option maxRecDepth 100000 in
set_option maxHeartbeats 4000000 in
theorem sb_X10_init_0 (C : Cx p s m args meth c cX10_init 1 none RX10 D cs A h0.se) (hin2 : meth.name = "<init>") (hz2 : hz.nx ≤ h0.nx + mc ∧ hz.su ≤ h0.su + ms) (N : Nat) (t0 : Nat) (h : Hp) (hJ : B_X10_init_0 N t0 h = some (hz, ())) (hk0 : h.kd t0 = 13) {H : Heap} {locs : List Loc} {cells slots : Nat} (w : Wo D cs A s h0 h H locs cells slots) {ls : Array Slot} (hl : lv_has ls 1 [(0, .ref t0)]) : W p l e { frames := 1, cells := mc, slots := ms, locals := 40 } s m args below meth c H locs cells slots (MQ below (Zv D cs A hz) args s mc ms A) (F0 m 0 ls []) := by
  obtain ⟨hx, hb, hml, hown, hts, -⟩ := id C
  unfold B_X10_init_0 at hJ
  refine lv_aload_n hx hb dX10_init_0 rfl (lv_at hl 0 rfl) ?_
  refine jc_O C tw_6_161 tw_1_41 tw_obj hl.1 (by first | exact Nat.le_of_ble_eq_true rfl | simp [rf_cat, cat_i, cat_l, cat_r]) (by decide) dX10_init_1 ?_
  refine lv_aload_n hx hb dX10_init_4 rfl (lv_at hl 0 rfl) ?_
  refine lv_sipush (v := (514 : Int32)) hx hb dX10_init_5 (by decide) ?_
  obtain ⟨hn137, hJ⟩ := ck_some hJ
  have w0 := w
  refine fa_30 C w hn137 (mb_X10_init_10 N t0 _ _ _ hJ) hz2 dX10_init_8 (fun H w => ?_)
  have hk138 := kd_new (k := 30) (n := (514 : Int32).toNatClampNeg) (sl := (514 : Int32).toNatClampNeg) w0 hk0 (by decide)
  exact sb_X10_init_10 C hin2 hz2 N t0 _ _ _ hJ hk138 w hl
def J_X10_init (N : Nat) (t0 : Nat) (h : Hp) : Option (Hp × Unit) := B_X10_init_0 N t0 h
theorem mo_X10_init (N : Nat) (t0 : Nat) (h : Hp) (hJ : J_X10_init N t0 h = some (hz, ())) : Mo h hz := mb_X10_init_0 N t0 h hJ
theorem cd_X10_init : Cd yX10_init 0 := ⟨by decide +kernel, by decide +kernel, by decide +kernel⟩
theorem cc_X10_init (N : Nat) (t0 : Nat) (h : Hp) (hk0 : h.kd t0 = 13) (hJ : J_X10_init N t0 h = some (hz, ())) : Cv l yX10_init cX10_init 1 none 1 40 D cs h hz [.ref t0] := by
  intro mc ms g1 g2
  refine je_any (by decide) (by simp [lg_sl, rf_cat, cat_i, cat_l, cat_r]) ?_
  intro p e s m args below meth c C hin2 w ls hl
  have hl : lv_has ls 1 [(0, .ref t0)] := hl
  exact sb_X10_init_0 C hin2 ⟨g1, g2⟩ N t0 h hJ hk0 w hl
end G_X10_init
section G_X10_thrown
variable {p : Program} {l : Launch} {e : Env} {s : State} {m : MethodId} {args : Array Value} {below : List Frame} {meth : Method} {c : Code} {D : va_G} {cs : C4} {A : Nat → Prop} {h0 hz : Hp} {mc ms : Nat} {rz : Int32}
def B_X10_thrown_0 (N : Nat) (t0 : Nat) (h : Hp) : Option (Hp × Int32) := some (h, h.gi 1300 t0)
theorem mb_X10_thrown_0 (N : Nat) (t0 : Nat) (h : Hp) (hJ : B_X10_thrown_0 N t0 h = some (hz, rz)) : Mo h hz := by
  unfold B_X10_thrown_0 at hJ
  obtain ⟨rfl, -⟩ := rs2 hJ
  exact ⟨fun _ _ => rfl, Nat.le_refl _, Nat.le_refl _, rfl, fun _ _ => rfl⟩
set_option maxRecDepth 100000 in
set_option maxHeartbeats 4000000 in
theorem sb_X10_thrown_0 (C : Cx p s m args meth c cX10_thrown 1 (some .int) RX10 D cs A h0.se) (hz2 : hz.nx ≤ h0.nx + mc ∧ hz.su ≤ h0.su + ms) (N : Nat) (t0 : Nat) (h : Hp) (hJ : B_X10_thrown_0 N t0 h = some (hz, rz)) (hk0 : h.kd t0 = 13) {H : Heap} {locs : List Loc} {cells slots : Nat} (w : Wo D cs A s h0 h H locs cells slots) {ls : Array Slot} (hl : lv_has ls 1 [(0, .ref t0)]) : W p l e { frames := 0, cells := mc, slots := ms, locals := 0 } s m args below meth c H locs cells slots (MQ below (Zi D cs A hz rz) args s mc ms A) (F0 m 0 ls []) := by
  obtain ⟨hx, hb, hml, hown, hts, -⟩ := id C
  unfold B_X10_thrown_0 at hJ
  refine lv_aload_n hx hb dX10_thrown_0 rfl (lv_at hl 0 rfl) ?_
  refine fg_1300 C w hk0 tw_6_163 dX10_thrown_1 ?_
  obtain ⟨rfl, rfl⟩ := rs2 hJ
  exact jr_iret C w hz2 dX10_thrown_4
def J_X10_thrown (N : Nat) (t0 : Nat) (h : Hp) : Option (Hp × Int32) := B_X10_thrown_0 N t0 h
theorem mo_X10_thrown (N : Nat) (t0 : Nat) (h : Hp) (hJ : J_X10_thrown N t0 h = some (hz, rz)) : Mo h hz := mb_X10_thrown_0 N t0 h hJ
theorem cd_X10_thrown : Cd yX10_thrown 0 := ⟨by decide +kernel, by decide +kernel, by decide +kernel⟩
theorem cc_X10_thrown (N : Nat) (t0 : Nat) (h : Hp) (hk0 : h.kd t0 = 13) (hJ : J_X10_thrown N t0 h = some (hz, rz)) : Ci l yX10_thrown cX10_thrown 1 (some .int) 0 0 D cs h hz [.ref t0] rz := by
  intro mc ms g1 g2
  refine je_any (by decide) (by simp [lg_sl, rf_cat, cat_i, cat_l, cat_r]) ?_
  intro p e s m args below meth c C hin2 w ls hl
  have hl : lv_has ls 1 [(0, .ref t0)] := hl
  exact sb_X10_thrown_0 C ⟨g1, g2⟩ N t0 h hJ hk0 w hl
end G_X10_thrown
section G_X10_activeMany
variable {p : Program} {l : Launch} {e : Env} {s : State} {m : MethodId} {args : Array Value} {below : List Frame} {meth : Method} {c : Code} {D : va_G} {cs : C4} {A : Nat → Prop} {h0 hz : Hp} {mc ms : Nat} {rz : Int32}
def B_X10_activeMany_28 (N : Nat) (k4 : Hp → Int32 → Int32 → Option (Hp × Int32)) (t0 : Nat) (h : Hp) (x2 : Int32) (y0 : Int32) (y1 : Int32) : Option (Hp × Int32) := k4 h (y0 + y1) (x2 + (1 : Int32))
theorem mb_X10_activeMany_28 (N : Nat) (k4 : Hp → Int32 → Int32 → Option (Hp × Int32)) (t0 : Nat) (h : Hp) (x2 : Int32) (y0 : Int32) (y1 : Int32) (m4 : ∀ (h : Hp) (x1 : Int32) (x2 : Int32), k4 h x1 x2 = some (hz, rz) → Mo h hz) (hJ : B_X10_activeMany_28 N k4 t0 h x2 y0 y1 = some (hz, rz)) : Mo h hz := by
  unfold B_X10_activeMany_28 at hJ
  exact m4 _ _ _ hJ
set_option maxRecDepth 100000 in
set_option maxHeartbeats 4000000 in
theorem sb_X10_activeMany_28 (C : Cx p s m args meth c cX10_activeMany 3 (some .int) RX10 D cs A h0.se) (hz2 : hz.nx ≤ h0.nx + mc ∧ hz.su ≤ h0.su + ms) (N : Nat) (k4 : Hp → Int32 → Int32 → Option (Hp × Int32)) (t0 : Nat) (m4 : ∀ (h : Hp) (x1 : Int32) (x2 : Int32), k4 h x1 x2 = some (hz, rz) → Mo h hz) (i4 : ∀ (h : Hp) (x1 : Int32) (x2 : Int32) (H : Heap) (locs : List Loc) (cells slots : Nat) (ls : Array Slot), k4 h x1 x2 = some (hz, rz) → h.kd t0 = 13 → Wo D cs A s h0 h H locs cells slots → lv_has ls 3 [(0, .ref t0), (1, .int x1), (2, .int x2)] → W p l e { frames := 0, cells := mc, slots := ms, locals := 0 } s m args below meth c H locs cells slots (MQ below (Zi D cs A hz rz) args s mc ms A) (F0 m 4 ls [])) (h : Hp) (x2 : Int32) (y0 : Int32) (y1 : Int32) (hJ : B_X10_activeMany_28 N k4 t0 h x2 y0 y1 = some (hz, rz)) (hk0 : h.kd t0 = 13) {H : Heap} {locs : List Loc} {cells slots : Nat} (w : Wo D cs A s h0 h H locs cells slots) {ls : Array Slot} (hl : lv_has ls 3 [(0, .ref t0), (2, .int x2)]) : W p l e { frames := 0, cells := mc, slots := ms, locals := 0 } s m args below meth c H locs cells slots (MQ below (Zi D cs A hz rz) args s mc ms A) (F0 m 28 ls [.int y1, .int y0]) := by
  obtain ⟨hx, hb, hml, hown, hts, -⟩ := id C
  unfold B_X10_activeMany_28 at hJ
  refine lv_iadd hx hb dX10_activeMany_28 ?_
  refine lv_istore_n (i := 1) (lv' := [(1, .int (y0 + y1)), (0, .ref t0), (2, .int x2)]) hx hb dX10_activeMany_29 rfl hl (by decide) rfl (fun ls hl => ?_)
  refine lv_iinc (v := x2 + (1 : Int32)) (lv' := [(2, .int (x2 + (1 : Int32))), (1, .int (y0 + y1)), (0, .ref t0)]) hx hb dX10_activeMany_30 hl (k := 2) rfl rfl (by decide) rfl (fun ls hl => ?_)
  refine lv_goto (tgt := 4) hx hb dX10_activeMany_33 (by decide) ?_
  exact i4 _ _ _ _ _ _ _ _ hJ hk0 w (lv_sub (l' := [(0, .ref t0), (1, .int (y0 + y1)), (2, .int (x2 + (1 : Int32)))]) hl [2, 1, 0] rfl)
def B_X10_activeMany_4 (N : Nat) (k4 : Hp → Int32 → Int32 → Option (Hp × Int32)) (t0 : Nat) (h : Hp) (x1 : Int32) (x2 : Int32) : Option (Hp × Int32) := if (h.gi 1311 t0) < x2 then (some (h, x1)) else (dr h 30 (h.gr 1301 t0) (fun a2 => ck (¬ (x2 < 0 ∨ h.al a2 ≤ x2.toNatClampNeg)) (if (h.bi a2 x2.toNatClampNeg) = (1 : Int32) then (B_X10_activeMany_28 N k4 t0 h x2 x1 (1 : Int32)) else (B_X10_activeMany_28 N k4 t0 h x2 x1 (0 : Int32)))))
theorem mb_X10_activeMany_4 (N : Nat) (k4 : Hp → Int32 → Int32 → Option (Hp × Int32)) (t0 : Nat) (h : Hp) (x1 : Int32) (x2 : Int32) (m4 : ∀ (h : Hp) (x1 : Int32) (x2 : Int32), k4 h x1 x2 = some (hz, rz) → Mo h hz) (hJ : B_X10_activeMany_4 N k4 t0 h x1 x2 = some (hz, rz)) : Mo h hz := by
  unfold B_X10_activeMany_4 at hJ
  by_cases c1 : (h.gi 1311 t0) < x2
  · have hJ := it_pos c1 hJ
    obtain ⟨rfl, -⟩ := rs2 hJ
    exact ⟨fun _ _ => rfl, Nat.le_refl _, Nat.le_refl _, rfl, fun _ _ => rfl⟩
  · have hJ := it_neg c1 hJ
    obtain ⟨a2, ea2, -, hJ⟩ := dr_some hJ
    obtain ⟨-, hJ⟩ := ck_some hJ
    by_cases c4 : (h.bi a2 x2.toNatClampNeg) = (1 : Int32)
    · have hJ := it_pos c4 hJ
      exact mb_X10_activeMany_28 N k4 t0 _ _ _ _ m4 hJ
    · have hJ := it_neg c4 hJ
      exact mb_X10_activeMany_28 N k4 t0 _ _ _ _ m4 hJ
set_option maxRecDepth 100000 in
set_option maxHeartbeats 4000000 in
theorem sb_X10_activeMany_4 (C : Cx p s m args meth c cX10_activeMany 3 (some .int) RX10 D cs A h0.se) (hz2 : hz.nx ≤ h0.nx + mc ∧ hz.su ≤ h0.su + ms) (N : Nat) (k4 : Hp → Int32 → Int32 → Option (Hp × Int32)) (t0 : Nat) (m4 : ∀ (h : Hp) (x1 : Int32) (x2 : Int32), k4 h x1 x2 = some (hz, rz) → Mo h hz) (i4 : ∀ (h : Hp) (x1 : Int32) (x2 : Int32) (H : Heap) (locs : List Loc) (cells slots : Nat) (ls : Array Slot), k4 h x1 x2 = some (hz, rz) → h.kd t0 = 13 → Wo D cs A s h0 h H locs cells slots → lv_has ls 3 [(0, .ref t0), (1, .int x1), (2, .int x2)] → W p l e { frames := 0, cells := mc, slots := ms, locals := 0 } s m args below meth c H locs cells slots (MQ below (Zi D cs A hz rz) args s mc ms A) (F0 m 4 ls [])) (h : Hp) (x1 : Int32) (x2 : Int32) (hJ : B_X10_activeMany_4 N k4 t0 h x1 x2 = some (hz, rz)) (hk0 : h.kd t0 = 13) {H : Heap} {locs : List Loc} {cells slots : Nat} (w : Wo D cs A s h0 h H locs cells slots) {ls : Array Slot} (hl : lv_has ls 3 [(0, .ref t0), (1, .int x1), (2, .int x2)]) : W p l e { frames := 0, cells := mc, slots := ms, locals := 0 } s m args below meth c H locs cells slots (MQ below (Zi D cs A hz rz) args s mc ms A) (F0 m 4 ls []) := by
  obtain ⟨hx, hb, hml, hown, hts, -⟩ := id C
  unfold B_X10_activeMany_4 at hJ
  refine lv_iload_n hx hb dX10_activeMany_4 rfl (lv_at hl 2 rfl) ?_
  refine lv_aload_n hx hb dX10_activeMany_5 rfl (lv_at hl 0 rfl) ?_
  refine fg_1311 C w hk0 tw_6_174 dX10_activeMany_6 ?_
  refine lv_icmp_gt (tgt := 36) hx hb dX10_activeMany_9 (by decide) (fun c1 => ?_) (fun c1 => ?_)
  · have hJ := it_pos c1 hJ
    refine lv_iload_n hx hb dX10_activeMany_36 rfl (lv_at hl 1 rfl) ?_
    obtain ⟨rfl, rfl⟩ := rs2 hJ
    exact jr_iret C w hz2 dX10_activeMany_37
  · have hJ := it_neg c1 hJ
    refine lv_iload_n hx hb dX10_activeMany_12 rfl (lv_at hl 1 rfl) ?_
    refine lv_aload_n hx hb dX10_activeMany_13 rfl (lv_at hl 0 rfl) ?_
    refine fg_1301 C w hk0 tw_6_164 dX10_activeMany_14 ?_
    refine lv_iload_n hx hb dX10_activeMany_17 rfl (lv_at hl 2 rfl) ?_
    obtain ⟨a2, ea2, hka2, hJ⟩ := dr_some hJ
    rw [ea2]
    obtain ⟨hi3, hJ⟩ := ck_some hJ
    refine jr_ialdM C w hka2 hi3 dX10_activeMany_18 ?_
    refine lv_iconst (v := (1 : Int32)) hx hb dX10_activeMany_19 (by decide) ?_
    refine lv_icmp_ne (tgt := 27) hx hb dX10_activeMany_20 (by decide) (fun c4 => ?_) (fun c4 => ?_)
    · have hJ := it_neg c4 hJ
      refine lv_iconst (v := (0 : Int32)) hx hb dX10_activeMany_27 (by decide) ?_
      exact sb_X10_activeMany_28 C hz2 N k4 t0 m4 i4 _ _ _ _ hJ hk0 w (lv_sub (l' := [(0, .ref t0), (2, .int x2)]) hl [0, 2] rfl)
    · have hJ := it_pos c4 hJ
      refine lv_iconst (v := (1 : Int32)) hx hb dX10_activeMany_23 (by decide) ?_
      refine lv_goto (tgt := 28) hx hb dX10_activeMany_24 (by decide) ?_
      exact sb_X10_activeMany_28 C hz2 N k4 t0 m4 i4 _ _ _ _ hJ hk0 w (lv_sub (l' := [(0, .ref t0), (2, .int x2)]) hl [0, 2] rfl)
def L_X10_activeMany_4 (N : Nat) (t0 : Nat) : Nat → Hp → Int32 → Int32 → Option (Hp × Int32)
  | 0 => fun _ _ _ => none
  | n + 1 => fun h x1 x2 => B_X10_activeMany_4 N (L_X10_activeMany_4 N t0 n) t0 h x1 x2
theorem ml_X10_activeMany_4 (N : Nat) (t0 : Nat) : ∀ (n : Nat) (h : Hp) (x1 : Int32) (x2 : Int32), L_X10_activeMany_4 N t0 n h x1 x2 = some (hz, rz) → Mo h hz := by
  intro n
  induction n with
  | zero => intro h x1 x2 hJ; cases hJ
  | succ n ih => intro h x1 x2 hJ; exact mb_X10_activeMany_4 N (L_X10_activeMany_4 N t0 n) t0 h x1 x2 ih hJ
theorem sl_X10_activeMany_4 (C : Cx p s m args meth c cX10_activeMany 3 (some .int) RX10 D cs A h0.se) (hz2 : hz.nx ≤ h0.nx + mc ∧ hz.su ≤ h0.su + ms) (N : Nat) (t0 : Nat) : ∀ n : Nat, ∀ (h : Hp) (x1 : Int32) (x2 : Int32) (H : Heap) (locs : List Loc) (cells slots : Nat) (ls : Array Slot), L_X10_activeMany_4 N t0 n h x1 x2 = some (hz, rz) → h.kd t0 = 13 → Wo D cs A s h0 h H locs cells slots → lv_has ls 3 [(0, .ref t0), (1, .int x1), (2, .int x2)] → W p l e { frames := 0, cells := mc, slots := ms, locals := 0 } s m args below meth c H locs cells slots (MQ below (Zi D cs A hz rz) args s mc ms A) (F0 m 4 ls []) := by
  intro n
  induction n with
  | zero => intro h x1 x2 H locs cells slots ls hJ; cases hJ
  | succ n ih =>
    intro h x1 x2 H locs cells slots ls hJ hk0 w hl
    exact sb_X10_activeMany_4 C hz2 N (L_X10_activeMany_4 N t0 n) t0 (ml_X10_activeMany_4 N t0 n) ih h x1 x2 hJ hk0 w hl
def B_X10_activeMany_0 (N : Nat) (t0 : Nat) (h : Hp) : Option (Hp × Int32) := L_X10_activeMany_4 N t0 N h (0 : Int32) (1 : Int32)
theorem mb_X10_activeMany_0 (N : Nat) (t0 : Nat) (h : Hp) (hJ : B_X10_activeMany_0 N t0 h = some (hz, rz)) : Mo h hz := by
  unfold B_X10_activeMany_0 at hJ
  exact ml_X10_activeMany_4 N t0 N _ _ _ hJ
set_option maxRecDepth 100000 in
set_option maxHeartbeats 4000000 in
theorem sb_X10_activeMany_0 (C : Cx p s m args meth c cX10_activeMany 3 (some .int) RX10 D cs A h0.se) (hz2 : hz.nx ≤ h0.nx + mc ∧ hz.su ≤ h0.su + ms) (N : Nat) (t0 : Nat) (h : Hp) (hJ : B_X10_activeMany_0 N t0 h = some (hz, rz)) (hk0 : h.kd t0 = 13) {H : Heap} {locs : List Loc} {cells slots : Nat} (w : Wo D cs A s h0 h H locs cells slots) {ls : Array Slot} (hl : lv_has ls 3 [(0, .ref t0)]) : W p l e { frames := 0, cells := mc, slots := ms, locals := 0 } s m args below meth c H locs cells slots (MQ below (Zi D cs A hz rz) args s mc ms A) (F0 m 0 ls []) := by
  obtain ⟨hx, hb, hml, hown, hts, -⟩ := id C
  unfold B_X10_activeMany_0 at hJ
  refine lv_iconst (v := (0 : Int32)) hx hb dX10_activeMany_0 (by decide) ?_
  refine lv_istore_n (i := 1) (lv' := [(1, .int (0 : Int32)), (0, .ref t0)]) hx hb dX10_activeMany_1 rfl hl (by decide) rfl (fun ls hl => ?_)
  refine lv_iconst (v := (1 : Int32)) hx hb dX10_activeMany_2 (by decide) ?_
  refine lv_istore_n (i := 2) (lv' := [(2, .int (1 : Int32)), (1, .int (0 : Int32)), (0, .ref t0)]) hx hb dX10_activeMany_3 rfl hl (by decide) rfl (fun ls hl => ?_)
  exact sl_X10_activeMany_4 C hz2 N t0 N _ _ _ _ _ _ _ _ hJ hk0 w (lv_sub (l' := [(0, .ref t0), (1, .int (0 : Int32)), (2, .int (1 : Int32))]) hl [2, 1, 0] rfl)
def J_X10_activeMany (N : Nat) (t0 : Nat) (h : Hp) : Option (Hp × Int32) := B_X10_activeMany_0 N t0 h
theorem mo_X10_activeMany (N : Nat) (t0 : Nat) (h : Hp) (hJ : J_X10_activeMany N t0 h = some (hz, rz)) : Mo h hz := mb_X10_activeMany_0 N t0 h hJ
theorem cd_X10_activeMany : Cd yX10_activeMany 0 := ⟨by decide +kernel, by decide +kernel, by decide +kernel⟩
theorem cc_X10_activeMany (N : Nat) (t0 : Nat) (h : Hp) (hk0 : h.kd t0 = 13) (hJ : J_X10_activeMany N t0 h = some (hz, rz)) : Ci l yX10_activeMany cX10_activeMany 3 (some .int) 0 0 D cs h hz [.ref t0] rz := by
  intro mc ms g1 g2
  refine je_any (by decide) (by simp [lg_sl, rf_cat, cat_i, cat_l, cat_r]) ?_
  intro p e s m args below meth c C hin2 w ls hl
  have hl : lv_has ls 3 [(0, .ref t0)] := hl
  exact sb_X10_activeMany_0 C ⟨g1, g2⟩ N t0 h hJ hk0 w hl
end G_X10_activeMany
section G_X10_endOf
variable {p : Program} {l : Launch} {e : Env} {s : State} {m : MethodId} {args : Array Value} {below : List Frame} {meth : Method} {c : Code} {D : va_G} {cs : C4} {A : Nat → Prop} {h0 hz : Hp} {mc ms : Nat} {rz : Int32}
def B_X10_endOf_21 (N : Nat) (t0 : Nat) (h : Hp) (y0 : Int32) : Option (Hp × Int32) := some (h, y0)
theorem mb_X10_endOf_21 (N : Nat) (t0 : Nat) (h : Hp) (y0 : Int32) (hJ : B_X10_endOf_21 N t0 h y0 = some (hz, rz)) : Mo h hz := by
  unfold B_X10_endOf_21 at hJ
  obtain ⟨rfl, -⟩ := rs2 hJ
  exact ⟨fun _ _ => rfl, Nat.le_refl _, Nat.le_refl _, rfl, fun _ _ => rfl⟩
set_option maxRecDepth 100000 in
set_option maxHeartbeats 4000000 in
theorem sb_X10_endOf_21 (C : Cx p s m args meth c cX10_endOf 2 (some .int) RX10 D cs A h0.se) (hz2 : hz.nx ≤ h0.nx + mc ∧ hz.su ≤ h0.su + ms) (N : Nat) (t0 : Nat) (h : Hp) (y0 : Int32) (hJ : B_X10_endOf_21 N t0 h y0 = some (hz, rz)) (hk0 : h.kd t0 = 13) {H : Heap} {locs : List Loc} {cells slots : Nat} (w : Wo D cs A s h0 h H locs cells slots) {ls : Array Slot} (hl : lv_has ls 2 [(0, .ref t0)]) : W p l e { frames := 0, cells := mc, slots := ms, locals := 0 } s m args below meth c H locs cells slots (MQ below (Zi D cs A hz rz) args s mc ms A) (F0 m 21 ls [.int y0]) := by
  obtain ⟨hx, hb, hml, hown, hts, -⟩ := id C
  unfold B_X10_endOf_21 at hJ
  obtain ⟨rfl, rfl⟩ := rs2 hJ
  exact jr_iret C w hz2 dX10_endOf_21
def B_X10_endOf_0 (N : Nat) (t0 : Nat) (h : Hp) (x1 : Int32) : Option (Hp × Int32) := dr h 30 (h.gr 1301 t0) (fun a1 => ck (¬ (x1 < 0 ∨ h.al a1 ≤ x1.toNatClampNeg)) (if (h.bi a1 x1.toNatClampNeg) = (1 : Int32) then (B_X10_endOf_21 N t0 h (2147483647 : Int32)) else (dr h 30 (h.gr 1304 t0) (fun a4 => ck (¬ (x1 < 0 ∨ h.al a4 ≤ x1.toNatClampNeg)) (B_X10_endOf_21 N t0 h (h.bi a4 x1.toNatClampNeg))))))
theorem mb_X10_endOf_0 (N : Nat) (t0 : Nat) (h : Hp) (x1 : Int32) (hJ : B_X10_endOf_0 N t0 h x1 = some (hz, rz)) : Mo h hz := by
  unfold B_X10_endOf_0 at hJ
  obtain ⟨a1, ea1, -, hJ⟩ := dr_some hJ
  obtain ⟨-, hJ⟩ := ck_some hJ
  by_cases c3 : (h.bi a1 x1.toNatClampNeg) = (1 : Int32)
  · have hJ := it_pos c3 hJ
    exact mb_X10_endOf_21 N t0 _ _ hJ
  · have hJ := it_neg c3 hJ
    obtain ⟨a4, ea4, -, hJ⟩ := dr_some hJ
    obtain ⟨-, hJ⟩ := ck_some hJ
    exact mb_X10_endOf_21 N t0 _ _ hJ
set_option maxRecDepth 100000 in
set_option maxHeartbeats 4000000 in
theorem sb_X10_endOf_0 (C : Cx p s m args meth c cX10_endOf 2 (some .int) RX10 D cs A h0.se) (hz2 : hz.nx ≤ h0.nx + mc ∧ hz.su ≤ h0.su + ms) (N : Nat) (t0 : Nat) (h : Hp) (x1 : Int32) (hJ : B_X10_endOf_0 N t0 h x1 = some (hz, rz)) (hk0 : h.kd t0 = 13) {H : Heap} {locs : List Loc} {cells slots : Nat} (w : Wo D cs A s h0 h H locs cells slots) {ls : Array Slot} (hl : lv_has ls 2 [(0, .ref t0), (1, .int x1)]) : W p l e { frames := 0, cells := mc, slots := ms, locals := 0 } s m args below meth c H locs cells slots (MQ below (Zi D cs A hz rz) args s mc ms A) (F0 m 0 ls []) := by
  obtain ⟨hx, hb, hml, hown, hts, -⟩ := id C
  unfold B_X10_endOf_0 at hJ
  refine lv_aload_n hx hb dX10_endOf_0 rfl (lv_at hl 0 rfl) ?_
  refine fg_1301 C w hk0 tw_6_164 dX10_endOf_1 ?_
  refine lv_iload_n hx hb dX10_endOf_4 rfl (lv_at hl 1 rfl) ?_
  obtain ⟨a1, ea1, hka1, hJ⟩ := dr_some hJ
  rw [ea1]
  obtain ⟨hi2, hJ⟩ := ck_some hJ
  refine jr_ialdM C w hka1 hi2 dX10_endOf_5 ?_
  refine lv_iconst (v := (1 : Int32)) hx hb dX10_endOf_6 (by decide) ?_
  refine lv_icmp_ne (tgt := 15) hx hb dX10_endOf_7 (by decide) (fun c3 => ?_) (fun c3 => ?_)
  · have hJ := it_neg c3 hJ
    refine lv_aload_n hx hb dX10_endOf_15 rfl (lv_at hl 0 rfl) ?_
    refine fg_1304 C w hk0 tw_6_167 dX10_endOf_16 ?_
    refine lv_iload_n hx hb dX10_endOf_19 rfl (lv_at hl 1 rfl) ?_
    obtain ⟨a4, ea4, hka4, hJ⟩ := dr_some hJ
    rw [ea4]
    obtain ⟨hi5, hJ⟩ := ck_some hJ
    refine jr_ialdM C w hka4 hi5 dX10_endOf_20 ?_
    exact sb_X10_endOf_21 C hz2 N t0 _ _ hJ hk0 w (lv_sub (l' := [(0, .ref t0)]) hl [0] rfl)
  · have hJ := it_pos c3 hJ
    refine lv_ldc (v := (2147483647 : Int32)) hx hb hown (hts _ tw_7_154) dX10_endOf_10 ?_
    refine lv_goto (tgt := 21) hx hb dX10_endOf_12 (by decide) ?_
    exact sb_X10_endOf_21 C hz2 N t0 _ _ hJ hk0 w (lv_sub (l' := [(0, .ref t0)]) hl [0] rfl)
def J_X10_endOf (N : Nat) (t0 : Nat) (h : Hp) (x1 : Int32) : Option (Hp × Int32) := B_X10_endOf_0 N t0 h x1
theorem mo_X10_endOf (N : Nat) (t0 : Nat) (h : Hp) (x1 : Int32) (hJ : J_X10_endOf N t0 h x1 = some (hz, rz)) : Mo h hz := mb_X10_endOf_0 N t0 h x1 hJ
theorem cd_X10_endOf : Cd yX10_endOf 1 := ⟨by decide +kernel, by decide +kernel, by decide +kernel⟩
theorem cc_X10_endOf (N : Nat) (t0 : Nat) (h : Hp) (x1 : Int32) (hk0 : h.kd t0 = 13) (hJ : J_X10_endOf N t0 h x1 = some (hz, rz)) : Ci l yX10_endOf cX10_endOf 2 (some .int) 0 0 D cs h hz [.ref t0, .int x1] rz := by
  intro mc ms g1 g2
  refine je_any (by decide) (by simp [lg_sl, rf_cat, cat_i, cat_l, cat_r]) ?_
  intro p e s m args below meth c C hin2 w ls hl
  have hl : lv_has ls 2 [(0, .ref t0), (1, .int x1)] := hl
  exact sb_X10_endOf_0 C ⟨g1, g2⟩ N t0 h x1 hJ hk0 w hl
end G_X10_endOf
section G_X10_isIn
variable {p : Program} {l : Launch} {e : Env} {s : State} {m : MethodId} {args : Array Value} {below : List Frame} {meth : Method} {c : Code} {D : va_G} {cs : C4} {A : Nat → Prop} {h0 hz : Hp} {mc ms : Nat} {rz : Int32}
def B_X10_isIn_25 (N : Nat) (t0 : Nat) (h : Hp) (y0 : Int32) : Option (Hp × Int32) := ck (y0 = 0 ∨ y0 = 1) (some (h, y0))
theorem mb_X10_isIn_25 (N : Nat) (t0 : Nat) (h : Hp) (y0 : Int32) (hJ : B_X10_isIn_25 N t0 h y0 = some (hz, rz)) : Mo h hz := by
  unfold B_X10_isIn_25 at hJ
  obtain ⟨-, hJ⟩ := ck_some hJ
  obtain ⟨rfl, -⟩ := rs2 hJ
  exact ⟨fun _ _ => rfl, Nat.le_refl _, Nat.le_refl _, rfl, fun _ _ => rfl⟩
set_option maxRecDepth 100000 in
set_option maxHeartbeats 4000000 in
theorem sb_X10_isIn_25 (C : Cx p s m args meth c cX10_isIn 2 (some .boolean) RX10 D cs A h0.se) (hz2 : hz.nx ≤ h0.nx + mc ∧ hz.su ≤ h0.su + ms) (N : Nat) (t0 : Nat) (h : Hp) (y0 : Int32) (hJ : B_X10_isIn_25 N t0 h y0 = some (hz, rz)) (hk0 : h.kd t0 = 13) {H : Heap} {locs : List Loc} {cells slots : Nat} (w : Wo D cs A s h0 h H locs cells slots) {ls : Array Slot} (hl : lv_has ls 2 [(0, .ref t0)]) : W p l e { frames := 0, cells := mc, slots := ms, locals := 0 } s m args below meth c H locs cells slots (MQ below (Zi D cs A hz rz) args s mc ms A) (F0 m 25 ls [.int y0]) := by
  obtain ⟨hx, hb, hml, hown, hts, -⟩ := id C
  unfold B_X10_isIn_25 at hJ
  obtain ⟨hzo1, hJ⟩ := ck_some hJ
  obtain ⟨rfl, rfl⟩ := rs2 hJ
  exact jr_zret C w hzo1 hz2 dX10_isIn_25
def B_X10_isIn_20 (N : Nat) (t0 : Nat) (h : Hp) : Option (Hp × Int32) := B_X10_isIn_25 N t0 h (1 : Int32)
theorem mb_X10_isIn_20 (N : Nat) (t0 : Nat) (h : Hp) (hJ : B_X10_isIn_20 N t0 h = some (hz, rz)) : Mo h hz := by
  unfold B_X10_isIn_20 at hJ
  exact mb_X10_isIn_25 N t0 _ _ hJ
set_option maxRecDepth 100000 in
set_option maxHeartbeats 4000000 in
theorem sb_X10_isIn_20 (C : Cx p s m args meth c cX10_isIn 2 (some .boolean) RX10 D cs A h0.se) (hz2 : hz.nx ≤ h0.nx + mc ∧ hz.su ≤ h0.su + ms) (N : Nat) (t0 : Nat) (h : Hp) (hJ : B_X10_isIn_20 N t0 h = some (hz, rz)) (hk0 : h.kd t0 = 13) {H : Heap} {locs : List Loc} {cells slots : Nat} (w : Wo D cs A s h0 h H locs cells slots) {ls : Array Slot} (hl : lv_has ls 2 [(0, .ref t0)]) : W p l e { frames := 0, cells := mc, slots := ms, locals := 0 } s m args below meth c H locs cells slots (MQ below (Zi D cs A hz rz) args s mc ms A) (F0 m 20 ls []) := by
  obtain ⟨hx, hb, hml, hown, hts, -⟩ := id C
  unfold B_X10_isIn_20 at hJ
  refine lv_iconst (v := (1 : Int32)) hx hb dX10_isIn_20 (by decide) ?_
  refine lv_goto (tgt := 25) hx hb dX10_isIn_21 (by decide) ?_
  exact sb_X10_isIn_25 C hz2 N t0 _ _ hJ hk0 w hl
def B_X10_isIn_0 (N : Nat) (t0 : Nat) (h : Hp) (x1 : Int32) : Option (Hp × Int32) := dr h 30 (h.gr 1301 t0) (fun a2 => ck (¬ (x1 < 0 ∨ h.al a2 ≤ x1.toNatClampNeg)) (if (h.bi a2 x1.toNatClampNeg) = (1 : Int32) then (B_X10_isIn_20 N t0 h) else (dr h 30 (h.gr 1301 t0) (fun a5 => ck (¬ (x1 < 0 ∨ h.al a5 ≤ x1.toNatClampNeg)) (if (h.bi a5 x1.toNatClampNeg) = (2 : Int32) then (B_X10_isIn_20 N t0 h) else (B_X10_isIn_25 N t0 h (0 : Int32)))))))
theorem mb_X10_isIn_0 (N : Nat) (t0 : Nat) (h : Hp) (x1 : Int32) (hJ : B_X10_isIn_0 N t0 h x1 = some (hz, rz)) : Mo h hz := by
  unfold B_X10_isIn_0 at hJ
  obtain ⟨a2, ea2, -, hJ⟩ := dr_some hJ
  obtain ⟨-, hJ⟩ := ck_some hJ
  by_cases c4 : (h.bi a2 x1.toNatClampNeg) = (1 : Int32)
  · have hJ := it_pos c4 hJ
    exact mb_X10_isIn_20 N t0 _ hJ
  · have hJ := it_neg c4 hJ
    obtain ⟨a5, ea5, -, hJ⟩ := dr_some hJ
    obtain ⟨-, hJ⟩ := ck_some hJ
    by_cases c7 : (h.bi a5 x1.toNatClampNeg) = (2 : Int32)
    · have hJ := it_pos c7 hJ
      exact mb_X10_isIn_20 N t0 _ hJ
    · have hJ := it_neg c7 hJ
      exact mb_X10_isIn_25 N t0 _ _ hJ
set_option maxRecDepth 100000 in
set_option maxHeartbeats 4000000 in
theorem sb_X10_isIn_0 (C : Cx p s m args meth c cX10_isIn 2 (some .boolean) RX10 D cs A h0.se) (hz2 : hz.nx ≤ h0.nx + mc ∧ hz.su ≤ h0.su + ms) (N : Nat) (t0 : Nat) (h : Hp) (x1 : Int32) (hJ : B_X10_isIn_0 N t0 h x1 = some (hz, rz)) (hk0 : h.kd t0 = 13) {H : Heap} {locs : List Loc} {cells slots : Nat} (w : Wo D cs A s h0 h H locs cells slots) {ls : Array Slot} (hl : lv_has ls 2 [(0, .ref t0), (1, .int x1)]) : W p l e { frames := 0, cells := mc, slots := ms, locals := 0 } s m args below meth c H locs cells slots (MQ below (Zi D cs A hz rz) args s mc ms A) (F0 m 0 ls []) := by
  obtain ⟨hx, hb, hml, hown, hts, -⟩ := id C
  unfold B_X10_isIn_0 at hJ
  refine lv_aload_n hx hb dX10_isIn_0 rfl (lv_at hl 0 rfl) ?_
  refine fg_1301 C w hk0 tw_6_164 dX10_isIn_1 ?_
  refine lv_iload_n hx hb dX10_isIn_4 rfl (lv_at hl 1 rfl) ?_
  obtain ⟨a2, ea2, hka2, hJ⟩ := dr_some hJ
  rw [ea2]
  obtain ⟨hi3, hJ⟩ := ck_some hJ
  refine jr_ialdM C w hka2 hi3 dX10_isIn_5 ?_
  refine lv_iconst (v := (1 : Int32)) hx hb dX10_isIn_6 (by decide) ?_
  refine lv_icmp_eq (tgt := 20) hx hb dX10_isIn_7 (by decide) (fun c4 => ?_) (fun c4 => ?_)
  · have hJ := it_pos c4 hJ
    exact sb_X10_isIn_20 C hz2 N t0 _ hJ hk0 w (lv_sub (l' := [(0, .ref t0)]) hl [0] rfl)
  · have hJ := it_neg c4 hJ
    refine lv_aload_n hx hb dX10_isIn_10 rfl (lv_at hl 0 rfl) ?_
    refine fg_1301 C w hk0 tw_6_164 dX10_isIn_11 ?_
    refine lv_iload_n hx hb dX10_isIn_14 rfl (lv_at hl 1 rfl) ?_
    obtain ⟨a5, ea5, hka5, hJ⟩ := dr_some hJ
    rw [ea5]
    obtain ⟨hi6, hJ⟩ := ck_some hJ
    refine jr_ialdM C w hka5 hi6 dX10_isIn_15 ?_
    refine lv_iconst (v := (2 : Int32)) hx hb dX10_isIn_16 (by decide) ?_
    refine lv_icmp_ne (tgt := 24) hx hb dX10_isIn_17 (by decide) (fun c7 => ?_) (fun c7 => ?_)
    · have hJ := it_neg c7 hJ
      refine lv_iconst (v := (0 : Int32)) hx hb dX10_isIn_24 (by decide) ?_
      exact sb_X10_isIn_25 C hz2 N t0 _ _ hJ hk0 w (lv_sub (l' := [(0, .ref t0)]) hl [0] rfl)
    · have hJ := it_pos c7 hJ
      exact sb_X10_isIn_20 C hz2 N t0 _ hJ hk0 w (lv_sub (l' := [(0, .ref t0)]) hl [0] rfl)
def J_X10_isIn (N : Nat) (t0 : Nat) (h : Hp) (x1 : Int32) : Option (Hp × Int32) := B_X10_isIn_0 N t0 h x1
theorem mo_X10_isIn (N : Nat) (t0 : Nat) (h : Hp) (x1 : Int32) (hJ : J_X10_isIn N t0 h x1 = some (hz, rz)) : Mo h hz := mb_X10_isIn_0 N t0 h x1 hJ
theorem cd_X10_isIn : Cd yX10_isIn 1 := ⟨by decide +kernel, by decide +kernel, by decide +kernel⟩
theorem cc_X10_isIn (N : Nat) (t0 : Nat) (h : Hp) (x1 : Int32) (hk0 : h.kd t0 = 13) (hJ : J_X10_isIn N t0 h x1 = some (hz, rz)) : Ci l yX10_isIn cX10_isIn 2 (some .boolean) 0 0 D cs h hz [.ref t0, .int x1] rz := by
  intro mc ms g1 g2
  refine je_any (by decide) (by simp [lg_sl, rf_cat, cat_i, cat_l, cat_r]) ?_
  intro p e s m args below meth c C hin2 w ls hl
  have hl : lv_has ls 2 [(0, .ref t0), (1, .int x1)] := hl
  exact sb_X10_isIn_0 C ⟨g1, g2⟩ N t0 h x1 hJ hk0 w hl
end G_X10_isIn
section G_X10_isReadKey
variable {p : Program} {l : Launch} {e : Env} {s : State} {m : MethodId} {args : Array Value} {below : List Frame} {meth : Method} {c : Code} {D : va_G} {cs : C4} {A : Nat → Prop} {h0 hz : Hp} {mc ms : Nat} {rz : Int32}
def B_X10_isReadKey_54 (N : Nat) (k14 : Hp → Int32 → Int32 → Int32 → Option (Hp × Int32)) (t0 : Nat) (h : Hp) (x1 : Int32) (x2 : Int32) (x3 : Int32) : Option (Hp × Int32) := k14 h x1 x2 (x3 + (1 : Int32))
theorem mb_X10_isReadKey_54 (N : Nat) (k14 : Hp → Int32 → Int32 → Int32 → Option (Hp × Int32)) (t0 : Nat) (h : Hp) (x1 : Int32) (x2 : Int32) (x3 : Int32) (m14 : ∀ (h : Hp) (x1 : Int32) (x2 : Int32) (x3 : Int32), k14 h x1 x2 x3 = some (hz, rz) → Mo h hz) (hJ : B_X10_isReadKey_54 N k14 t0 h x1 x2 x3 = some (hz, rz)) : Mo h hz := by
  unfold B_X10_isReadKey_54 at hJ
  exact m14 _ _ _ _ hJ
set_option maxRecDepth 100000 in
set_option maxHeartbeats 4000000 in
theorem sb_X10_isReadKey_54 (C : Cx p s m args meth c cX10_isReadKey 4 (some .boolean) RX10 D cs A h0.se) (hz2 : hz.nx ≤ h0.nx + mc ∧ hz.su ≤ h0.su + ms) (N : Nat) (k14 : Hp → Int32 → Int32 → Int32 → Option (Hp × Int32)) (t0 : Nat) (m14 : ∀ (h : Hp) (x1 : Int32) (x2 : Int32) (x3 : Int32), k14 h x1 x2 x3 = some (hz, rz) → Mo h hz) (i14 : ∀ (h : Hp) (x1 : Int32) (x2 : Int32) (x3 : Int32) (H : Heap) (locs : List Loc) (cells slots : Nat) (ls : Array Slot), k14 h x1 x2 x3 = some (hz, rz) → h.kd t0 = 13 → Wo D cs A s h0 h H locs cells slots → lv_has ls 4 [(0, .ref t0), (1, .int x1), (2, .int x2), (3, .int x3)] → W p l e { frames := 0, cells := mc, slots := ms, locals := 0 } s m args below meth c H locs cells slots (MQ below (Zi D cs A hz rz) args s mc ms A) (F0 m 14 ls [])) (h : Hp) (x1 : Int32) (x2 : Int32) (x3 : Int32) (hJ : B_X10_isReadKey_54 N k14 t0 h x1 x2 x3 = some (hz, rz)) (hk0 : h.kd t0 = 13) {H : Heap} {locs : List Loc} {cells slots : Nat} (w : Wo D cs A s h0 h H locs cells slots) {ls : Array Slot} (hl : lv_has ls 4 [(0, .ref t0), (1, .int x1), (2, .int x2), (3, .int x3)]) : W p l e { frames := 0, cells := mc, slots := ms, locals := 0 } s m args below meth c H locs cells slots (MQ below (Zi D cs A hz rz) args s mc ms A) (F0 m 54 ls []) := by
  obtain ⟨hx, hb, hml, hown, hts, -⟩ := id C
  unfold B_X10_isReadKey_54 at hJ
  refine lv_iinc (v := x3 + (1 : Int32)) (lv' := [(3, .int (x3 + (1 : Int32))), (0, .ref t0), (1, .int x1), (2, .int x2)]) hx hb dX10_isReadKey_54 hl (k := 3) rfl rfl (by decide) rfl (fun ls hl => ?_)
  refine lv_goto (tgt := 14) hx hb dX10_isReadKey_57 (by decide) ?_
  exact i14 _ _ _ _ _ _ _ _ _ hJ hk0 w (lv_sub (l' := [(0, .ref t0), (1, .int x1), (2, .int x2), (3, .int (x3 + (1 : Int32)))]) hl [1, 2, 3, 0] rfl)
def B_X10_isReadKey_14 (N : Nat) (k14 : Hp → Int32 → Int32 → Int32 → Option (Hp × Int32)) (t0 : Nat) (h : Hp) (x1 : Int32) (x2 : Int32) (x3 : Int32) : Option (Hp × Int32) := if (h.gi 1323 t0) ≤ x3 then (some (h, (0 : Int32))) else (dr h 30 (h.gr 1320 t0) (fun a2 => ck (¬ (x3 < 0 ∨ h.al a2 ≤ x3.toNatClampNeg)) (if (h.bi a2 x3.toNatClampNeg) = x1 then (dr h 30 (h.gr 1321 t0) (fun a5 => ck (¬ (x3 < 0 ∨ h.al a5 ≤ x3.toNatClampNeg)) (if x2 < (h.bi a5 x3.toNatClampNeg) then (B_X10_isReadKey_54 N k14 t0 h x1 x2 x3) else (dr h 30 (h.gr 1322 t0) (fun a8 => ck (¬ (x3 < 0 ∨ h.al a8 ≤ x3.toNatClampNeg)) (if (h.bi a8 x3.toNatClampNeg) < x2 then (B_X10_isReadKey_54 N k14 t0 h x1 x2 x3) else (some (h, (1 : Int32))))))))) else (B_X10_isReadKey_54 N k14 t0 h x1 x2 x3))))
theorem mb_X10_isReadKey_14 (N : Nat) (k14 : Hp → Int32 → Int32 → Int32 → Option (Hp × Int32)) (t0 : Nat) (h : Hp) (x1 : Int32) (x2 : Int32) (x3 : Int32) (m14 : ∀ (h : Hp) (x1 : Int32) (x2 : Int32) (x3 : Int32), k14 h x1 x2 x3 = some (hz, rz) → Mo h hz) (hJ : B_X10_isReadKey_14 N k14 t0 h x1 x2 x3 = some (hz, rz)) : Mo h hz := by
  unfold B_X10_isReadKey_14 at hJ
  by_cases c1 : (h.gi 1323 t0) ≤ x3
  · have hJ := it_pos c1 hJ
    obtain ⟨rfl, -⟩ := rs2 hJ
    exact ⟨fun _ _ => rfl, Nat.le_refl _, Nat.le_refl _, rfl, fun _ _ => rfl⟩
  · have hJ := it_neg c1 hJ
    obtain ⟨a2, ea2, -, hJ⟩ := dr_some hJ
    obtain ⟨-, hJ⟩ := ck_some hJ
    by_cases c4 : (h.bi a2 x3.toNatClampNeg) = x1
    · have hJ := it_pos c4 hJ
      obtain ⟨a5, ea5, -, hJ⟩ := dr_some hJ
      obtain ⟨-, hJ⟩ := ck_some hJ
      by_cases c7 : x2 < (h.bi a5 x3.toNatClampNeg)
      · have hJ := it_pos c7 hJ
        exact mb_X10_isReadKey_54 N k14 t0 _ _ _ _ m14 hJ
      · have hJ := it_neg c7 hJ
        obtain ⟨a8, ea8, -, hJ⟩ := dr_some hJ
        obtain ⟨-, hJ⟩ := ck_some hJ
        by_cases c10 : (h.bi a8 x3.toNatClampNeg) < x2
        · have hJ := it_pos c10 hJ
          exact mb_X10_isReadKey_54 N k14 t0 _ _ _ _ m14 hJ
        · have hJ := it_neg c10 hJ
          obtain ⟨rfl, -⟩ := rs2 hJ
          exact ⟨fun _ _ => rfl, Nat.le_refl _, Nat.le_refl _, rfl, fun _ _ => rfl⟩
    · have hJ := it_neg c4 hJ
      exact mb_X10_isReadKey_54 N k14 t0 _ _ _ _ m14 hJ
set_option maxRecDepth 100000 in
set_option maxHeartbeats 4000000 in
theorem sb_X10_isReadKey_14 (C : Cx p s m args meth c cX10_isReadKey 4 (some .boolean) RX10 D cs A h0.se) (hz2 : hz.nx ≤ h0.nx + mc ∧ hz.su ≤ h0.su + ms) (N : Nat) (k14 : Hp → Int32 → Int32 → Int32 → Option (Hp × Int32)) (t0 : Nat) (m14 : ∀ (h : Hp) (x1 : Int32) (x2 : Int32) (x3 : Int32), k14 h x1 x2 x3 = some (hz, rz) → Mo h hz) (i14 : ∀ (h : Hp) (x1 : Int32) (x2 : Int32) (x3 : Int32) (H : Heap) (locs : List Loc) (cells slots : Nat) (ls : Array Slot), k14 h x1 x2 x3 = some (hz, rz) → h.kd t0 = 13 → Wo D cs A s h0 h H locs cells slots → lv_has ls 4 [(0, .ref t0), (1, .int x1), (2, .int x2), (3, .int x3)] → W p l e { frames := 0, cells := mc, slots := ms, locals := 0 } s m args below meth c H locs cells slots (MQ below (Zi D cs A hz rz) args s mc ms A) (F0 m 14 ls [])) (h : Hp) (x1 : Int32) (x2 : Int32) (x3 : Int32) (hJ : B_X10_isReadKey_14 N k14 t0 h x1 x2 x3 = some (hz, rz)) (hk0 : h.kd t0 = 13) {H : Heap} {locs : List Loc} {cells slots : Nat} (w : Wo D cs A s h0 h H locs cells slots) {ls : Array Slot} (hl : lv_has ls 4 [(0, .ref t0), (1, .int x1), (2, .int x2), (3, .int x3)]) : W p l e { frames := 0, cells := mc, slots := ms, locals := 0 } s m args below meth c H locs cells slots (MQ below (Zi D cs A hz rz) args s mc ms A) (F0 m 14 ls []) := by
  obtain ⟨hx, hb, hml, hown, hts, -⟩ := id C
  unfold B_X10_isReadKey_14 at hJ
  refine lv_iload_n hx hb dX10_isReadKey_14 rfl (lv_at hl 3 rfl) ?_
  refine lv_aload_n hx hb dX10_isReadKey_15 rfl (lv_at hl 0 rfl) ?_
  refine fg_1323 C w hk0 tw_6_186 dX10_isReadKey_16 ?_
  refine lv_icmp_ge (tgt := 60) hx hb dX10_isReadKey_19 (by decide) (fun c1 => ?_) (fun c1 => ?_)
  · have hJ := it_pos c1 hJ
    refine lv_iconst (v := (0 : Int32)) hx hb dX10_isReadKey_60 (by decide) ?_
    obtain ⟨rfl, rfl⟩ := rs2 hJ
    exact jr_zret C w (Or.inl rfl) hz2 dX10_isReadKey_61
  · have hJ := it_neg c1 hJ
    refine lv_aload_n hx hb dX10_isReadKey_22 rfl (lv_at hl 0 rfl) ?_
    refine fg_1320 C w hk0 tw_6_183 dX10_isReadKey_23 ?_
    refine lv_iload_n hx hb dX10_isReadKey_26 rfl (lv_at hl 3 rfl) ?_
    obtain ⟨a2, ea2, hka2, hJ⟩ := dr_some hJ
    rw [ea2]
    obtain ⟨hi3, hJ⟩ := ck_some hJ
    refine jr_ialdM C w hka2 hi3 dX10_isReadKey_27 ?_
    refine lv_iload_n hx hb dX10_isReadKey_28 rfl (lv_at hl 1 rfl) ?_
    refine lv_icmp_ne (tgt := 54) hx hb dX10_isReadKey_29 (by decide) (fun c4 => ?_) (fun c4 => ?_)
    · have hJ := it_neg c4 hJ
      exact sb_X10_isReadKey_54 C hz2 N k14 t0 m14 i14 _ _ _ _ hJ hk0 w hl
    · have hJ := it_pos c4 hJ
      refine lv_aload_n hx hb dX10_isReadKey_32 rfl (lv_at hl 0 rfl) ?_
      refine fg_1321 C w hk0 tw_6_184 dX10_isReadKey_33 ?_
      refine lv_iload_n hx hb dX10_isReadKey_36 rfl (lv_at hl 3 rfl) ?_
      obtain ⟨a5, ea5, hka5, hJ⟩ := dr_some hJ
      rw [ea5]
      obtain ⟨hi6, hJ⟩ := ck_some hJ
      refine jr_ialdM C w hka5 hi6 dX10_isReadKey_37 ?_
      refine lv_iload_n hx hb dX10_isReadKey_38 rfl (lv_at hl 2 rfl) ?_
      refine lv_icmp_gt (tgt := 54) hx hb dX10_isReadKey_39 (by decide) (fun c7 => ?_) (fun c7 => ?_)
      · have hJ := it_pos c7 hJ
        exact sb_X10_isReadKey_54 C hz2 N k14 t0 m14 i14 _ _ _ _ hJ hk0 w hl
      · have hJ := it_neg c7 hJ
        refine lv_iload_n hx hb dX10_isReadKey_42 rfl (lv_at hl 2 rfl) ?_
        refine lv_aload_n hx hb dX10_isReadKey_43 rfl (lv_at hl 0 rfl) ?_
        refine fg_1322 C w hk0 tw_6_185 dX10_isReadKey_44 ?_
        refine lv_iload_n hx hb dX10_isReadKey_47 rfl (lv_at hl 3 rfl) ?_
        obtain ⟨a8, ea8, hka8, hJ⟩ := dr_some hJ
        rw [ea8]
        obtain ⟨hi9, hJ⟩ := ck_some hJ
        refine jr_ialdM C w hka8 hi9 dX10_isReadKey_48 ?_
        refine lv_icmp_gt (tgt := 54) hx hb dX10_isReadKey_49 (by decide) (fun c10 => ?_) (fun c10 => ?_)
        · have hJ := it_pos c10 hJ
          exact sb_X10_isReadKey_54 C hz2 N k14 t0 m14 i14 _ _ _ _ hJ hk0 w hl
        · have hJ := it_neg c10 hJ
          refine lv_iconst (v := (1 : Int32)) hx hb dX10_isReadKey_52 (by decide) ?_
          obtain ⟨rfl, rfl⟩ := rs2 hJ
          exact jr_zret C w (Or.inr rfl) hz2 dX10_isReadKey_53
def L_X10_isReadKey_14 (N : Nat) (t0 : Nat) : Nat → Hp → Int32 → Int32 → Int32 → Option (Hp × Int32)
  | 0 => fun _ _ _ _ => none
  | n + 1 => fun h x1 x2 x3 => B_X10_isReadKey_14 N (L_X10_isReadKey_14 N t0 n) t0 h x1 x2 x3
theorem ml_X10_isReadKey_14 (N : Nat) (t0 : Nat) : ∀ (n : Nat) (h : Hp) (x1 : Int32) (x2 : Int32) (x3 : Int32), L_X10_isReadKey_14 N t0 n h x1 x2 x3 = some (hz, rz) → Mo h hz := by
  intro n
  induction n with
  | zero => intro h x1 x2 x3 hJ; cases hJ
  | succ n ih => intro h x1 x2 x3 hJ; exact mb_X10_isReadKey_14 N (L_X10_isReadKey_14 N t0 n) t0 h x1 x2 x3 ih hJ
theorem sl_X10_isReadKey_14 (C : Cx p s m args meth c cX10_isReadKey 4 (some .boolean) RX10 D cs A h0.se) (hz2 : hz.nx ≤ h0.nx + mc ∧ hz.su ≤ h0.su + ms) (N : Nat) (t0 : Nat) : ∀ n : Nat, ∀ (h : Hp) (x1 : Int32) (x2 : Int32) (x3 : Int32) (H : Heap) (locs : List Loc) (cells slots : Nat) (ls : Array Slot), L_X10_isReadKey_14 N t0 n h x1 x2 x3 = some (hz, rz) → h.kd t0 = 13 → Wo D cs A s h0 h H locs cells slots → lv_has ls 4 [(0, .ref t0), (1, .int x1), (2, .int x2), (3, .int x3)] → W p l e { frames := 0, cells := mc, slots := ms, locals := 0 } s m args below meth c H locs cells slots (MQ below (Zi D cs A hz rz) args s mc ms A) (F0 m 14 ls []) := by
  intro n
  induction n with
  | zero => intro h x1 x2 x3 H locs cells slots ls hJ; cases hJ
  | succ n ih =>
    intro h x1 x2 x3 H locs cells slots ls hJ hk0 w hl
    exact sb_X10_isReadKey_14 C hz2 N (L_X10_isReadKey_14 N t0 n) t0 (ml_X10_isReadKey_14 N t0 n) ih h x1 x2 x3 hJ hk0 w hl
def B_X10_isReadKey_0 (N : Nat) (t0 : Nat) (h : Hp) (x1 : Int32) (x2 : Int32) : Option (Hp × Int32) := dr h 30 (h.gr 1307 t0) (fun a11 => ck (¬ (x1 < 0 ∨ h.al a11 ≤ x1.toNatClampNeg)) (if (h.bi a11 x1.toNatClampNeg) = (1 : Int32) then (some (h, (0 : Int32))) else (L_X10_isReadKey_14 N t0 N h x1 x2 (0 : Int32))))
theorem mb_X10_isReadKey_0 (N : Nat) (t0 : Nat) (h : Hp) (x1 : Int32) (x2 : Int32) (hJ : B_X10_isReadKey_0 N t0 h x1 x2 = some (hz, rz)) : Mo h hz := by
  unfold B_X10_isReadKey_0 at hJ
  obtain ⟨a11, ea11, -, hJ⟩ := dr_some hJ
  obtain ⟨-, hJ⟩ := ck_some hJ
  by_cases c13 : (h.bi a11 x1.toNatClampNeg) = (1 : Int32)
  · have hJ := it_pos c13 hJ
    obtain ⟨rfl, -⟩ := rs2 hJ
    exact ⟨fun _ _ => rfl, Nat.le_refl _, Nat.le_refl _, rfl, fun _ _ => rfl⟩
  · have hJ := it_neg c13 hJ
    exact ml_X10_isReadKey_14 N t0 N _ _ _ _ hJ
set_option maxRecDepth 100000 in
set_option maxHeartbeats 4000000 in
theorem sb_X10_isReadKey_0 (C : Cx p s m args meth c cX10_isReadKey 4 (some .boolean) RX10 D cs A h0.se) (hz2 : hz.nx ≤ h0.nx + mc ∧ hz.su ≤ h0.su + ms) (N : Nat) (t0 : Nat) (h : Hp) (x1 : Int32) (x2 : Int32) (hJ : B_X10_isReadKey_0 N t0 h x1 x2 = some (hz, rz)) (hk0 : h.kd t0 = 13) {H : Heap} {locs : List Loc} {cells slots : Nat} (w : Wo D cs A s h0 h H locs cells slots) {ls : Array Slot} (hl : lv_has ls 4 [(0, .ref t0), (1, .int x1), (2, .int x2)]) : W p l e { frames := 0, cells := mc, slots := ms, locals := 0 } s m args below meth c H locs cells slots (MQ below (Zi D cs A hz rz) args s mc ms A) (F0 m 0 ls []) := by
  obtain ⟨hx, hb, hml, hown, hts, -⟩ := id C
  unfold B_X10_isReadKey_0 at hJ
  refine lv_aload_n hx hb dX10_isReadKey_0 rfl (lv_at hl 0 rfl) ?_
  refine fg_1307 C w hk0 tw_6_170 dX10_isReadKey_1 ?_
  refine lv_iload_n hx hb dX10_isReadKey_4 rfl (lv_at hl 1 rfl) ?_
  obtain ⟨a11, ea11, hka11, hJ⟩ := dr_some hJ
  rw [ea11]
  obtain ⟨hi12, hJ⟩ := ck_some hJ
  refine jr_ialdM C w hka11 hi12 dX10_isReadKey_5 ?_
  refine lv_iconst (v := (1 : Int32)) hx hb dX10_isReadKey_6 (by decide) ?_
  refine lv_icmp_ne (tgt := 12) hx hb dX10_isReadKey_7 (by decide) (fun c13 => ?_) (fun c13 => ?_)
  · have hJ := it_neg c13 hJ
    refine lv_iconst (v := (0 : Int32)) hx hb dX10_isReadKey_12 (by decide) ?_
    refine lv_istore_n (i := 3) (lv' := [(3, .int (0 : Int32)), (0, .ref t0), (1, .int x1), (2, .int x2)]) hx hb dX10_isReadKey_13 rfl hl (by decide) rfl (fun ls hl => ?_)
    exact sl_X10_isReadKey_14 C hz2 N t0 N _ _ _ _ _ _ _ _ _ hJ hk0 w (lv_sub (l' := [(0, .ref t0), (1, .int x1), (2, .int x2), (3, .int (0 : Int32))]) hl [1, 2, 3, 0] rfl)
  · have hJ := it_pos c13 hJ
    refine lv_iconst (v := (0 : Int32)) hx hb dX10_isReadKey_10 (by decide) ?_
    obtain ⟨rfl, rfl⟩ := rs2 hJ
    exact jr_zret C w (Or.inl rfl) hz2 dX10_isReadKey_11
def J_X10_isReadKey (N : Nat) (t0 : Nat) (h : Hp) (x1 : Int32) (x2 : Int32) : Option (Hp × Int32) := B_X10_isReadKey_0 N t0 h x1 x2
theorem mo_X10_isReadKey (N : Nat) (t0 : Nat) (h : Hp) (x1 : Int32) (x2 : Int32) (hJ : J_X10_isReadKey N t0 h x1 x2 = some (hz, rz)) : Mo h hz := mb_X10_isReadKey_0 N t0 h x1 x2 hJ
theorem cd_X10_isReadKey : Cd yX10_isReadKey 2 := ⟨by decide +kernel, by decide +kernel, by decide +kernel⟩
theorem cc_X10_isReadKey (N : Nat) (t0 : Nat) (h : Hp) (x1 : Int32) (x2 : Int32) (hk0 : h.kd t0 = 13) (hJ : J_X10_isReadKey N t0 h x1 x2 = some (hz, rz)) : Ci l yX10_isReadKey cX10_isReadKey 4 (some .boolean) 0 0 D cs h hz [.ref t0, .int x1, .int x2] rz := by
  intro mc ms g1 g2
  refine je_any (by decide) (by simp [lg_sl, rf_cat, cat_i, cat_l, cat_r]) ?_
  intro p e s m args below meth c C hin2 w ls hl
  have hl : lv_has ls 4 [(0, .ref t0), (1, .int x1), (2, .int x2)] := hl
  exact sb_X10_isReadKey_0 C ⟨g1, g2⟩ N t0 h x1 x2 hJ hk0 w hl
end G_X10_isReadKey
section G_X10_precedes
variable {p : Program} {l : Launch} {e : Env} {s : State} {m : MethodId} {args : Array Value} {below : List Frame} {meth : Method} {c : Code} {D : va_G} {cs : C4} {A : Nat → Prop} {h0 hz : Hp} {mc ms : Nat} {rz : Int32}
def B_X10_precedes_52 (N : Nat) (t0 : Nat) (h : Hp) : Option (Hp × Int32) := some (h, (0 : Int32))
theorem mb_X10_precedes_52 (N : Nat) (t0 : Nat) (h : Hp) (hJ : B_X10_precedes_52 N t0 h = some (hz, rz)) : Mo h hz := by
  unfold B_X10_precedes_52 at hJ
  obtain ⟨rfl, -⟩ := rs2 hJ
  exact ⟨fun _ _ => rfl, Nat.le_refl _, Nat.le_refl _, rfl, fun _ _ => rfl⟩
set_option maxRecDepth 100000 in
set_option maxHeartbeats 4000000 in
theorem sb_X10_precedes_52 (C : Cx p s m args meth c cX10_precedes 4 (some .boolean) RX10 D cs A h0.se) (hz2 : hz.nx ≤ h0.nx + mc ∧ hz.su ≤ h0.su + ms) (N : Nat) (t0 : Nat) (h : Hp) (hJ : B_X10_precedes_52 N t0 h = some (hz, rz)) (hk0 : h.kd t0 = 13) {H : Heap} {locs : List Loc} {cells slots : Nat} (w : Wo D cs A s h0 h H locs cells slots) {ls : Array Slot} (hl : lv_has ls 4 [(0, .ref t0)]) : W p l e { frames := 1, cells := mc, slots := ms, locals := 30 } s m args below meth c H locs cells slots (MQ below (Zi D cs A hz rz) args s mc ms A) (F0 m 52 ls []) := by
  obtain ⟨hx, hb, hml, hown, hts, -⟩ := id C
  unfold B_X10_precedes_52 at hJ
  refine lv_iconst (v := (0 : Int32)) hx hb dX10_precedes_52 (by decide) ?_
  obtain ⟨rfl, rfl⟩ := rs2 hJ
  exact jr_zret C w (Or.inl rfl) hz2 dX10_precedes_53
def B_X10_precedes_90 (N : Nat) (k56 : Hp → Int32 → Int32 → Int32 → Option (Hp × Int32)) (t0 : Nat) (h : Hp) (x1 : Int32) (x2 : Int32) (x3 : Int32) : Option (Hp × Int32) := k56 h x1 x2 (x3 + (1 : Int32))
theorem mb_X10_precedes_90 (N : Nat) (k56 : Hp → Int32 → Int32 → Int32 → Option (Hp × Int32)) (t0 : Nat) (h : Hp) (x1 : Int32) (x2 : Int32) (x3 : Int32) (m56 : ∀ (h : Hp) (x1 : Int32) (x2 : Int32) (x3 : Int32), k56 h x1 x2 x3 = some (hz, rz) → Mo h hz) (hJ : B_X10_precedes_90 N k56 t0 h x1 x2 x3 = some (hz, rz)) : Mo h hz := by
  unfold B_X10_precedes_90 at hJ
  exact m56 _ _ _ _ hJ
set_option maxRecDepth 100000 in
set_option maxHeartbeats 4000000 in
theorem sb_X10_precedes_90 (C : Cx p s m args meth c cX10_precedes 4 (some .boolean) RX10 D cs A h0.se) (hz2 : hz.nx ≤ h0.nx + mc ∧ hz.su ≤ h0.su + ms) (N : Nat) (k56 : Hp → Int32 → Int32 → Int32 → Option (Hp × Int32)) (t0 : Nat) (m56 : ∀ (h : Hp) (x1 : Int32) (x2 : Int32) (x3 : Int32), k56 h x1 x2 x3 = some (hz, rz) → Mo h hz) (i56 : ∀ (h : Hp) (x1 : Int32) (x2 : Int32) (x3 : Int32) (H : Heap) (locs : List Loc) (cells slots : Nat) (ls : Array Slot), k56 h x1 x2 x3 = some (hz, rz) → h.kd t0 = 13 → Wo D cs A s h0 h H locs cells slots → lv_has ls 4 [(0, .ref t0), (1, .int x1), (2, .int x2), (3, .int x3)] → W p l e { frames := 1, cells := mc, slots := ms, locals := 30 } s m args below meth c H locs cells slots (MQ below (Zi D cs A hz rz) args s mc ms A) (F0 m 56 ls [])) (h : Hp) (x1 : Int32) (x2 : Int32) (x3 : Int32) (hJ : B_X10_precedes_90 N k56 t0 h x1 x2 x3 = some (hz, rz)) (hk0 : h.kd t0 = 13) {H : Heap} {locs : List Loc} {cells slots : Nat} (w : Wo D cs A s h0 h H locs cells slots) {ls : Array Slot} (hl : lv_has ls 4 [(0, .ref t0), (1, .int x1), (2, .int x2), (3, .int x3)]) : W p l e { frames := 1, cells := mc, slots := ms, locals := 30 } s m args below meth c H locs cells slots (MQ below (Zi D cs A hz rz) args s mc ms A) (F0 m 90 ls []) := by
  obtain ⟨hx, hb, hml, hown, hts, -⟩ := id C
  unfold B_X10_precedes_90 at hJ
  refine lv_iinc (v := x3 + (1 : Int32)) (lv' := [(3, .int (x3 + (1 : Int32))), (0, .ref t0), (1, .int x1), (2, .int x2)]) hx hb dX10_precedes_90 hl (k := 3) rfl rfl (by decide) rfl (fun ls hl => ?_)
  refine lv_goto (tgt := 56) hx hb dX10_precedes_93 (by decide) ?_
  exact i56 _ _ _ _ _ _ _ _ _ hJ hk0 w (lv_sub (l' := [(0, .ref t0), (1, .int x1), (2, .int x2), (3, .int (x3 + (1 : Int32)))]) hl [1, 2, 3, 0] rfl)
def B_X10_precedes_85 (N : Nat) (k56 : Hp → Int32 → Int32 → Int32 → Option (Hp × Int32)) (t0 : Nat) (h : Hp) (x1 : Int32) (x2 : Int32) (x3 : Int32) (y0 : Int32) : Option (Hp × Int32) := if y0 = 0 then (B_X10_precedes_90 N k56 t0 h x1 x2 x3) else (some (h, (1 : Int32)))
theorem mb_X10_precedes_85 (N : Nat) (k56 : Hp → Int32 → Int32 → Int32 → Option (Hp × Int32)) (t0 : Nat) (h : Hp) (x1 : Int32) (x2 : Int32) (x3 : Int32) (y0 : Int32) (m56 : ∀ (h : Hp) (x1 : Int32) (x2 : Int32) (x3 : Int32), k56 h x1 x2 x3 = some (hz, rz) → Mo h hz) (hJ : B_X10_precedes_85 N k56 t0 h x1 x2 x3 y0 = some (hz, rz)) : Mo h hz := by
  unfold B_X10_precedes_85 at hJ
  by_cases c1 : y0 = 0
  · have hJ := it_pos c1 hJ
    exact mb_X10_precedes_90 N k56 t0 _ _ _ _ m56 hJ
  · have hJ := it_neg c1 hJ
    obtain ⟨rfl, -⟩ := rs2 hJ
    exact ⟨fun _ _ => rfl, Nat.le_refl _, Nat.le_refl _, rfl, fun _ _ => rfl⟩
set_option maxRecDepth 100000 in
set_option maxHeartbeats 4000000 in
theorem sb_X10_precedes_85 (C : Cx p s m args meth c cX10_precedes 4 (some .boolean) RX10 D cs A h0.se) (hz2 : hz.nx ≤ h0.nx + mc ∧ hz.su ≤ h0.su + ms) (N : Nat) (k56 : Hp → Int32 → Int32 → Int32 → Option (Hp × Int32)) (t0 : Nat) (m56 : ∀ (h : Hp) (x1 : Int32) (x2 : Int32) (x3 : Int32), k56 h x1 x2 x3 = some (hz, rz) → Mo h hz) (i56 : ∀ (h : Hp) (x1 : Int32) (x2 : Int32) (x3 : Int32) (H : Heap) (locs : List Loc) (cells slots : Nat) (ls : Array Slot), k56 h x1 x2 x3 = some (hz, rz) → h.kd t0 = 13 → Wo D cs A s h0 h H locs cells slots → lv_has ls 4 [(0, .ref t0), (1, .int x1), (2, .int x2), (3, .int x3)] → W p l e { frames := 1, cells := mc, slots := ms, locals := 30 } s m args below meth c H locs cells slots (MQ below (Zi D cs A hz rz) args s mc ms A) (F0 m 56 ls [])) (h : Hp) (x1 : Int32) (x2 : Int32) (x3 : Int32) (y0 : Int32) (hJ : B_X10_precedes_85 N k56 t0 h x1 x2 x3 y0 = some (hz, rz)) (hk0 : h.kd t0 = 13) {H : Heap} {locs : List Loc} {cells slots : Nat} (w : Wo D cs A s h0 h H locs cells slots) {ls : Array Slot} (hl : lv_has ls 4 [(0, .ref t0), (1, .int x1), (2, .int x2), (3, .int x3)]) : W p l e { frames := 1, cells := mc, slots := ms, locals := 30 } s m args below meth c H locs cells slots (MQ below (Zi D cs A hz rz) args s mc ms A) (F0 m 85 ls [.int y0]) := by
  obtain ⟨hx, hb, hml, hown, hts, -⟩ := id C
  unfold B_X10_precedes_85 at hJ
  refine lv_if_eq (tgt := 90) hx hb dX10_precedes_85 (by decide) (fun c1 => ?_) (fun c1 => ?_)
  · have hJ := it_pos c1 hJ
    exact sb_X10_precedes_90 C hz2 N k56 t0 m56 i56 _ _ _ _ hJ hk0 w hl
  · have hJ := it_neg c1 hJ
    refine lv_iconst (v := (1 : Int32)) hx hb dX10_precedes_88 (by decide) ?_
    obtain ⟨rfl, rfl⟩ := rs2 hJ
    exact jr_zret C w (Or.inr rfl) hz2 dX10_precedes_89
def B_X10_precedes_56 (N : Nat) (k56 : Hp → Int32 → Int32 → Int32 → Option (Hp × Int32)) (t0 : Nat) (h : Hp) (x1 : Int32) (x2 : Int32) (x3 : Int32) : Option (Hp × Int32) := if (h.gi 1328 t0) ≤ x3 then (some (h, (0 : Int32))) else (dr h 30 (h.gr 1325 t0) (fun a3 => ck (¬ (x3 < 0 ∨ h.al a3 ≤ x3.toNatClampNeg)) (if (h.bi a3 x3.toNatClampNeg) = x2 then (dr h 30 (h.gr 1324 t0) (fun a6 => ck (¬ (x3 < 0 ∨ h.al a6 ≤ x3.toNatClampNeg)) ((J_X10_isReadKey N t0 h x1 (h.bi a6 x3.toNatClampNeg)).bind (fun z => B_X10_precedes_85 N k56 t0 z.1 x1 x2 x3 z.2)))) else (B_X10_precedes_90 N k56 t0 h x1 x2 x3))))
theorem mb_X10_precedes_56 (N : Nat) (k56 : Hp → Int32 → Int32 → Int32 → Option (Hp × Int32)) (t0 : Nat) (h : Hp) (x1 : Int32) (x2 : Int32) (x3 : Int32) (m56 : ∀ (h : Hp) (x1 : Int32) (x2 : Int32) (x3 : Int32), k56 h x1 x2 x3 = some (hz, rz) → Mo h hz) (hJ : B_X10_precedes_56 N k56 t0 h x1 x2 x3 = some (hz, rz)) : Mo h hz := by
  unfold B_X10_precedes_56 at hJ
  by_cases c2 : (h.gi 1328 t0) ≤ x3
  · have hJ := it_pos c2 hJ
    obtain ⟨rfl, -⟩ := rs2 hJ
    exact ⟨fun _ _ => rfl, Nat.le_refl _, Nat.le_refl _, rfl, fun _ _ => rfl⟩
  · have hJ := it_neg c2 hJ
    obtain ⟨a3, ea3, -, hJ⟩ := dr_some hJ
    obtain ⟨-, hJ⟩ := ck_some hJ
    by_cases c5 : (h.bi a3 x3.toNatClampNeg) = x2
    · have hJ := it_pos c5 hJ
      obtain ⟨a6, ea6, -, hJ⟩ := dr_some hJ
      obtain ⟨-, hJ⟩ := ck_some hJ
      obtain ⟨⟨h8, r9⟩, e10, hJ⟩ := ob_some hJ
      exact (mo_X10_isReadKey N t0 h x1 (h.bi a6 x3.toNatClampNeg) e10).tr (mb_X10_precedes_85 N k56 t0 _ _ _ _ _ m56 hJ)
    · have hJ := it_neg c5 hJ
      exact mb_X10_precedes_90 N k56 t0 _ _ _ _ m56 hJ
set_option maxRecDepth 100000 in
set_option maxHeartbeats 4000000 in
theorem sb_X10_precedes_56 (C : Cx p s m args meth c cX10_precedes 4 (some .boolean) RX10 D cs A h0.se) (hz2 : hz.nx ≤ h0.nx + mc ∧ hz.su ≤ h0.su + ms) (N : Nat) (k56 : Hp → Int32 → Int32 → Int32 → Option (Hp × Int32)) (t0 : Nat) (m56 : ∀ (h : Hp) (x1 : Int32) (x2 : Int32) (x3 : Int32), k56 h x1 x2 x3 = some (hz, rz) → Mo h hz) (i56 : ∀ (h : Hp) (x1 : Int32) (x2 : Int32) (x3 : Int32) (H : Heap) (locs : List Loc) (cells slots : Nat) (ls : Array Slot), k56 h x1 x2 x3 = some (hz, rz) → h.kd t0 = 13 → Wo D cs A s h0 h H locs cells slots → lv_has ls 4 [(0, .ref t0), (1, .int x1), (2, .int x2), (3, .int x3)] → W p l e { frames := 1, cells := mc, slots := ms, locals := 30 } s m args below meth c H locs cells slots (MQ below (Zi D cs A hz rz) args s mc ms A) (F0 m 56 ls [])) (h : Hp) (x1 : Int32) (x2 : Int32) (x3 : Int32) (hJ : B_X10_precedes_56 N k56 t0 h x1 x2 x3 = some (hz, rz)) (hk0 : h.kd t0 = 13) {H : Heap} {locs : List Loc} {cells slots : Nat} (w : Wo D cs A s h0 h H locs cells slots) {ls : Array Slot} (hl : lv_has ls 4 [(0, .ref t0), (1, .int x1), (2, .int x2), (3, .int x3)]) : W p l e { frames := 1, cells := mc, slots := ms, locals := 30 } s m args below meth c H locs cells slots (MQ below (Zi D cs A hz rz) args s mc ms A) (F0 m 56 ls []) := by
  obtain ⟨hx, hb, hml, hown, hts, -⟩ := id C
  unfold B_X10_precedes_56 at hJ
  refine lv_iload_n hx hb dX10_precedes_56 rfl (lv_at hl 3 rfl) ?_
  refine lv_aload_n hx hb dX10_precedes_57 rfl (lv_at hl 0 rfl) ?_
  refine fg_1328 C w hk0 tw_6_191 dX10_precedes_58 ?_
  refine lv_icmp_ge (tgt := 96) hx hb dX10_precedes_61 (by decide) (fun c2 => ?_) (fun c2 => ?_)
  · have hJ := it_pos c2 hJ
    refine lv_iconst (v := (0 : Int32)) hx hb dX10_precedes_96 (by decide) ?_
    obtain ⟨rfl, rfl⟩ := rs2 hJ
    exact jr_zret C w (Or.inl rfl) hz2 dX10_precedes_97
  · have hJ := it_neg c2 hJ
    refine lv_aload_n hx hb dX10_precedes_64 rfl (lv_at hl 0 rfl) ?_
    refine fg_1325 C w hk0 tw_6_188 dX10_precedes_65 ?_
    refine lv_iload_n hx hb dX10_precedes_68 rfl (lv_at hl 3 rfl) ?_
    obtain ⟨a3, ea3, hka3, hJ⟩ := dr_some hJ
    rw [ea3]
    obtain ⟨hi4, hJ⟩ := ck_some hJ
    refine jr_ialdM C w hka3 hi4 dX10_precedes_69 ?_
    refine lv_iload_n hx hb dX10_precedes_70 rfl (lv_at hl 2 rfl) ?_
    refine lv_icmp_ne (tgt := 90) hx hb dX10_precedes_71 (by decide) (fun c5 => ?_) (fun c5 => ?_)
    · have hJ := it_neg c5 hJ
      exact sb_X10_precedes_90 C hz2 N k56 t0 m56 i56 _ _ _ _ hJ hk0 w hl
    · have hJ := it_pos c5 hJ
      refine lv_aload_n hx hb dX10_precedes_74 rfl (lv_at hl 0 rfl) ?_
      refine lv_iload_n hx hb dX10_precedes_75 rfl (lv_at hl 1 rfl) ?_
      refine lv_aload_n hx hb dX10_precedes_76 rfl (lv_at hl 0 rfl) ?_
      refine fg_1324 C w hk0 tw_6_187 dX10_precedes_77 ?_
      refine lv_iload_n hx hb dX10_precedes_80 rfl (lv_at hl 3 rfl) ?_
      obtain ⟨a6, ea6, hka6, hJ⟩ := dr_some hJ
      rw [ea6]
      obtain ⟨hi7, hJ⟩ := ck_some hJ
      refine jr_ialdM C w hka6 hi7 dX10_precedes_81 ?_
      obtain ⟨⟨h8, r9⟩, e10, hJ⟩ := ob_some hJ
      refine jc_Vi (As := [.int x1, .int (h.bi a6 x3.toNatClampNeg)]) C w (cc_X10_isReadKey N t0 h x1 (h.bi a6 x3.toNatClampNeg) hk0 e10) (mo_X10_isReadKey N t0 h x1 (h.bi a6 x3.toNatClampNeg) e10) (mb_X10_precedes_85 N k56 t0 _ _ _ _ _ m56 hJ) hz2 hk0 (by decide) rfl (fs := fs13 h t0) rfl rfl ⟨tw_7_166, tw_7_163, tw_7_165, ts_38, tw_1_7⟩ cd_X10_isReadKey ⟨by decide, by decide⟩ hl.1 (by first | exact Nat.le_of_ble_eq_true rfl | simp [rf_cat, cat_i, cat_l, cat_r]) rfl dX10_precedes_82 (fun H locs w1 => ?_)
      have hk11 := kd_keep w (mo_X10_isReadKey N t0 h x1 (h.bi a6 x3.toNatClampNeg) e10) hk0 (by decide)
      have w := w1
      exact sb_X10_precedes_85 C hz2 N k56 t0 m56 i56 _ _ _ _ _ hJ hk11 w hl
def L_X10_precedes_56 (N : Nat) (t0 : Nat) : Nat → Hp → Int32 → Int32 → Int32 → Option (Hp × Int32)
  | 0 => fun _ _ _ _ => none
  | n + 1 => fun h x1 x2 x3 => B_X10_precedes_56 N (L_X10_precedes_56 N t0 n) t0 h x1 x2 x3
theorem ml_X10_precedes_56 (N : Nat) (t0 : Nat) : ∀ (n : Nat) (h : Hp) (x1 : Int32) (x2 : Int32) (x3 : Int32), L_X10_precedes_56 N t0 n h x1 x2 x3 = some (hz, rz) → Mo h hz := by
  intro n
  induction n with
  | zero => intro h x1 x2 x3 hJ; cases hJ
  | succ n ih => intro h x1 x2 x3 hJ; exact mb_X10_precedes_56 N (L_X10_precedes_56 N t0 n) t0 h x1 x2 x3 ih hJ
theorem sl_X10_precedes_56 (C : Cx p s m args meth c cX10_precedes 4 (some .boolean) RX10 D cs A h0.se) (hz2 : hz.nx ≤ h0.nx + mc ∧ hz.su ≤ h0.su + ms) (N : Nat) (t0 : Nat) : ∀ n : Nat, ∀ (h : Hp) (x1 : Int32) (x2 : Int32) (x3 : Int32) (H : Heap) (locs : List Loc) (cells slots : Nat) (ls : Array Slot), L_X10_precedes_56 N t0 n h x1 x2 x3 = some (hz, rz) → h.kd t0 = 13 → Wo D cs A s h0 h H locs cells slots → lv_has ls 4 [(0, .ref t0), (1, .int x1), (2, .int x2), (3, .int x3)] → W p l e { frames := 1, cells := mc, slots := ms, locals := 30 } s m args below meth c H locs cells slots (MQ below (Zi D cs A hz rz) args s mc ms A) (F0 m 56 ls []) := by
  intro n
  induction n with
  | zero => intro h x1 x2 x3 H locs cells slots ls hJ; cases hJ
  | succ n ih =>
    intro h x1 x2 x3 H locs cells slots ls hJ hk0 w hl
    exact sb_X10_precedes_56 C hz2 N (L_X10_precedes_56 N t0 n) t0 (ml_X10_precedes_56 N t0 n) ih h x1 x2 x3 hJ hk0 w hl
def B_X10_precedes_49 (N : Nat) (t0 : Nat) (h : Hp) (x1 : Int32) (x2 : Int32) (y0 : Int32) (y1 : Int32) : Option (Hp × Int32) := if y0 < y1 then (L_X10_precedes_56 N t0 N h x1 x2 (0 : Int32)) else (B_X10_precedes_52 N t0 h)
theorem mb_X10_precedes_49 (N : Nat) (t0 : Nat) (h : Hp) (x1 : Int32) (x2 : Int32) (y0 : Int32) (y1 : Int32) (hJ : B_X10_precedes_49 N t0 h x1 x2 y0 y1 = some (hz, rz)) : Mo h hz := by
  unfold B_X10_precedes_49 at hJ
  by_cases c12 : y0 < y1
  · have hJ := it_pos c12 hJ
    exact ml_X10_precedes_56 N t0 N _ _ _ _ hJ
  · have hJ := it_neg c12 hJ
    exact mb_X10_precedes_52 N t0 _ hJ
set_option maxRecDepth 100000 in
set_option maxHeartbeats 4000000 in
theorem sb_X10_precedes_49 (C : Cx p s m args meth c cX10_precedes 4 (some .boolean) RX10 D cs A h0.se) (hz2 : hz.nx ≤ h0.nx + mc ∧ hz.su ≤ h0.su + ms) (N : Nat) (t0 : Nat) (h : Hp) (x1 : Int32) (x2 : Int32) (y0 : Int32) (y1 : Int32) (hJ : B_X10_precedes_49 N t0 h x1 x2 y0 y1 = some (hz, rz)) (hk0 : h.kd t0 = 13) {H : Heap} {locs : List Loc} {cells slots : Nat} (w : Wo D cs A s h0 h H locs cells slots) {ls : Array Slot} (hl : lv_has ls 4 [(0, .ref t0), (1, .int x1), (2, .int x2)]) : W p l e { frames := 1, cells := mc, slots := ms, locals := 30 } s m args below meth c H locs cells slots (MQ below (Zi D cs A hz rz) args s mc ms A) (F0 m 49 ls [.int y1, .int y0]) := by
  obtain ⟨hx, hb, hml, hown, hts, -⟩ := id C
  unfold B_X10_precedes_49 at hJ
  refine lv_icmp_lt (tgt := 54) hx hb dX10_precedes_49 (by decide) (fun c12 => ?_) (fun c12 => ?_)
  · have hJ := it_pos c12 hJ
    refine lv_iconst (v := (0 : Int32)) hx hb dX10_precedes_54 (by decide) ?_
    refine lv_istore_n (i := 3) (lv' := [(3, .int (0 : Int32)), (0, .ref t0), (1, .int x1), (2, .int x2)]) hx hb dX10_precedes_55 rfl hl (by decide) rfl (fun ls hl => ?_)
    exact sl_X10_precedes_56 C hz2 N t0 N _ _ _ _ _ _ _ _ _ hJ hk0 w (lv_sub (l' := [(0, .ref t0), (1, .int x1), (2, .int x2), (3, .int (0 : Int32))]) hl [1, 2, 3, 0] rfl)
  · have hJ := it_neg c12 hJ
    exact sb_X10_precedes_52 C hz2 N t0 _ hJ hk0 w (lv_sub (l' := [(0, .ref t0)]) hl [0] rfl)
def B_X10_precedes_20 (N : Nat) (t0 : Nat) (h : Hp) (x1 : Int32) (x2 : Int32) (y0 : Int32) : Option (Hp × Int32) := if y0 = 0 then (B_X10_precedes_52 N t0 h) else (dr h 30 (h.gr 1303 t0) (fun a14 => ck (¬ (x1 < 0 ∨ h.al a14 ≤ x1.toNatClampNeg)) (dr h 30 (h.gr 1304 t0) (fun a16 => ck (¬ (x2 < 0 ∨ h.al a16 ≤ x2.toNatClampNeg)) (if (h.bi a16 x2.toNatClampNeg) ≤ (h.bi a14 x1.toNatClampNeg) then (B_X10_precedes_52 N t0 h) else (dr h 30 (h.gr 1303 t0) (fun a19 => ck (¬ (x2 < 0 ∨ h.al a19 ≤ x2.toNatClampNeg)) ((J_X10_endOf N t0 h x1).bind (fun z => B_X10_precedes_49 N t0 z.1 x1 x2 (h.bi a19 x2.toNatClampNeg) z.2)))))))))
theorem mb_X10_precedes_20 (N : Nat) (t0 : Nat) (h : Hp) (x1 : Int32) (x2 : Int32) (y0 : Int32) (hJ : B_X10_precedes_20 N t0 h x1 x2 y0 = some (hz, rz)) : Mo h hz := by
  unfold B_X10_precedes_20 at hJ
  by_cases c13 : y0 = 0
  · have hJ := it_pos c13 hJ
    exact mb_X10_precedes_52 N t0 _ hJ
  · have hJ := it_neg c13 hJ
    obtain ⟨a14, ea14, -, hJ⟩ := dr_some hJ
    obtain ⟨-, hJ⟩ := ck_some hJ
    obtain ⟨a16, ea16, -, hJ⟩ := dr_some hJ
    obtain ⟨-, hJ⟩ := ck_some hJ
    by_cases c18 : (h.bi a16 x2.toNatClampNeg) ≤ (h.bi a14 x1.toNatClampNeg)
    · have hJ := it_pos c18 hJ
      exact mb_X10_precedes_52 N t0 _ hJ
    · have hJ := it_neg c18 hJ
      obtain ⟨a19, ea19, -, hJ⟩ := dr_some hJ
      obtain ⟨-, hJ⟩ := ck_some hJ
      obtain ⟨⟨h21, r22⟩, e23, hJ⟩ := ob_some hJ
      exact (mo_X10_endOf N t0 h x1 e23).tr (mb_X10_precedes_49 N t0 _ _ _ _ _ hJ)
set_option maxRecDepth 100000 in
set_option maxHeartbeats 4000000 in
theorem sb_X10_precedes_20 (C : Cx p s m args meth c cX10_precedes 4 (some .boolean) RX10 D cs A h0.se) (hz2 : hz.nx ≤ h0.nx + mc ∧ hz.su ≤ h0.su + ms) (N : Nat) (t0 : Nat) (h : Hp) (x1 : Int32) (x2 : Int32) (y0 : Int32) (hJ : B_X10_precedes_20 N t0 h x1 x2 y0 = some (hz, rz)) (hk0 : h.kd t0 = 13) {H : Heap} {locs : List Loc} {cells slots : Nat} (w : Wo D cs A s h0 h H locs cells slots) {ls : Array Slot} (hl : lv_has ls 4 [(0, .ref t0), (1, .int x1), (2, .int x2)]) : W p l e { frames := 1, cells := mc, slots := ms, locals := 30 } s m args below meth c H locs cells slots (MQ below (Zi D cs A hz rz) args s mc ms A) (F0 m 20 ls [.int y0]) := by
  obtain ⟨hx, hb, hml, hown, hts, -⟩ := id C
  unfold B_X10_precedes_20 at hJ
  refine lv_if_eq (tgt := 52) hx hb dX10_precedes_20 (by decide) (fun c13 => ?_) (fun c13 => ?_)
  · have hJ := it_pos c13 hJ
    exact sb_X10_precedes_52 C hz2 N t0 _ hJ hk0 w (lv_sub (l' := [(0, .ref t0)]) hl [0] rfl)
  · have hJ := it_neg c13 hJ
    refine lv_aload_n hx hb dX10_precedes_23 rfl (lv_at hl 0 rfl) ?_
    refine fg_1303 C w hk0 tw_6_166 dX10_precedes_24 ?_
    refine lv_iload_n hx hb dX10_precedes_27 rfl (lv_at hl 1 rfl) ?_
    obtain ⟨a14, ea14, hka14, hJ⟩ := dr_some hJ
    rw [ea14]
    obtain ⟨hi15, hJ⟩ := ck_some hJ
    refine jr_ialdM C w hka14 hi15 dX10_precedes_28 ?_
    refine lv_aload_n hx hb dX10_precedes_29 rfl (lv_at hl 0 rfl) ?_
    refine fg_1304 C w hk0 tw_6_167 dX10_precedes_30 ?_
    refine lv_iload_n hx hb dX10_precedes_33 rfl (lv_at hl 2 rfl) ?_
    obtain ⟨a16, ea16, hka16, hJ⟩ := dr_some hJ
    rw [ea16]
    obtain ⟨hi17, hJ⟩ := ck_some hJ
    refine jr_ialdM C w hka16 hi17 dX10_precedes_34 ?_
    refine lv_icmp_ge (tgt := 52) hx hb dX10_precedes_35 (by decide) (fun c18 => ?_) (fun c18 => ?_)
    · have hJ := it_pos c18 hJ
      exact sb_X10_precedes_52 C hz2 N t0 _ hJ hk0 w (lv_sub (l' := [(0, .ref t0)]) hl [0] rfl)
    · have hJ := it_neg c18 hJ
      refine lv_aload_n hx hb dX10_precedes_38 rfl (lv_at hl 0 rfl) ?_
      refine fg_1303 C w hk0 tw_6_166 dX10_precedes_39 ?_
      refine lv_iload_n hx hb dX10_precedes_42 rfl (lv_at hl 2 rfl) ?_
      obtain ⟨a19, ea19, hka19, hJ⟩ := dr_some hJ
      rw [ea19]
      obtain ⟨hi20, hJ⟩ := ck_some hJ
      refine jr_ialdM C w hka19 hi20 dX10_precedes_43 ?_
      refine lv_aload_n hx hb dX10_precedes_44 rfl (lv_at hl 0 rfl) ?_
      refine lv_iload_n hx hb dX10_precedes_45 rfl (lv_at hl 1 rfl) ?_
      obtain ⟨⟨h21, r22⟩, e23, hJ⟩ := ob_some hJ
      refine jc_Vi (As := [.int x1]) C w (cc_X10_endOf N t0 h x1 hk0 e23) (mo_X10_endOf N t0 h x1 e23) (mb_X10_precedes_49 N t0 _ _ _ _ _ hJ) hz2 hk0 (by decide) rfl (fs := fs13 h t0) rfl rfl ⟨tw_7_153, tw_7_150, tw_7_152, ts_35, tw_1_7⟩ cd_X10_endOf ⟨by decide, by decide⟩ hl.1 (by first | exact Nat.le_of_ble_eq_true rfl | simp [rf_cat, cat_i, cat_l, cat_r]) rfl dX10_precedes_46 (fun H locs w1 => ?_)
      have hk24 := kd_keep w (mo_X10_endOf N t0 h x1 e23) hk0 (by decide)
      have w := w1
      exact sb_X10_precedes_49 C hz2 N t0 _ _ _ _ _ hJ hk24 w hl
def B_X10_precedes_0 (N : Nat) (t0 : Nat) (h : Hp) (x1 : Int32) (x2 : Int32) : Option (Hp × Int32) := if x1 = x2 then (B_X10_precedes_52 N t0 h) else (dr h 30 (h.gr 1301 t0) (fun a26 => ck (¬ (x2 < 0 ∨ h.al a26 ≤ x2.toNatClampNeg)) (if (h.bi a26 x2.toNatClampNeg) = (2 : Int32) then ((J_X10_isIn N t0 h x1).bind (fun z => B_X10_precedes_20 N t0 z.1 x1 x2 z.2)) else (B_X10_precedes_52 N t0 h))))
theorem mb_X10_precedes_0 (N : Nat) (t0 : Nat) (h : Hp) (x1 : Int32) (x2 : Int32) (hJ : B_X10_precedes_0 N t0 h x1 x2 = some (hz, rz)) : Mo h hz := by
  unfold B_X10_precedes_0 at hJ
  by_cases c25 : x1 = x2
  · have hJ := it_pos c25 hJ
    exact mb_X10_precedes_52 N t0 _ hJ
  · have hJ := it_neg c25 hJ
    obtain ⟨a26, ea26, -, hJ⟩ := dr_some hJ
    obtain ⟨-, hJ⟩ := ck_some hJ
    by_cases c28 : (h.bi a26 x2.toNatClampNeg) = (2 : Int32)
    · have hJ := it_pos c28 hJ
      obtain ⟨⟨h29, r30⟩, e31, hJ⟩ := ob_some hJ
      exact (mo_X10_isIn N t0 h x1 e31).tr (mb_X10_precedes_20 N t0 _ _ _ _ hJ)
    · have hJ := it_neg c28 hJ
      exact mb_X10_precedes_52 N t0 _ hJ
set_option maxRecDepth 100000 in
set_option maxHeartbeats 4000000 in
theorem sb_X10_precedes_0 (C : Cx p s m args meth c cX10_precedes 4 (some .boolean) RX10 D cs A h0.se) (hz2 : hz.nx ≤ h0.nx + mc ∧ hz.su ≤ h0.su + ms) (N : Nat) (t0 : Nat) (h : Hp) (x1 : Int32) (x2 : Int32) (hJ : B_X10_precedes_0 N t0 h x1 x2 = some (hz, rz)) (hk0 : h.kd t0 = 13) {H : Heap} {locs : List Loc} {cells slots : Nat} (w : Wo D cs A s h0 h H locs cells slots) {ls : Array Slot} (hl : lv_has ls 4 [(0, .ref t0), (1, .int x1), (2, .int x2)]) : W p l e { frames := 1, cells := mc, slots := ms, locals := 30 } s m args below meth c H locs cells slots (MQ below (Zi D cs A hz rz) args s mc ms A) (F0 m 0 ls []) := by
  obtain ⟨hx, hb, hml, hown, hts, -⟩ := id C
  unfold B_X10_precedes_0 at hJ
  refine lv_iload_n hx hb dX10_precedes_0 rfl (lv_at hl 1 rfl) ?_
  refine lv_iload_n hx hb dX10_precedes_1 rfl (lv_at hl 2 rfl) ?_
  refine lv_icmp_eq (tgt := 52) hx hb dX10_precedes_2 (by decide) (fun c25 => ?_) (fun c25 => ?_)
  · have hJ := it_pos c25 hJ
    exact sb_X10_precedes_52 C hz2 N t0 _ hJ hk0 w (lv_sub (l' := [(0, .ref t0)]) hl [0] rfl)
  · have hJ := it_neg c25 hJ
    refine lv_aload_n hx hb dX10_precedes_5 rfl (lv_at hl 0 rfl) ?_
    refine fg_1301 C w hk0 tw_6_164 dX10_precedes_6 ?_
    refine lv_iload_n hx hb dX10_precedes_9 rfl (lv_at hl 2 rfl) ?_
    obtain ⟨a26, ea26, hka26, hJ⟩ := dr_some hJ
    rw [ea26]
    obtain ⟨hi27, hJ⟩ := ck_some hJ
    refine jr_ialdM C w hka26 hi27 dX10_precedes_10 ?_
    refine lv_iconst (v := (2 : Int32)) hx hb dX10_precedes_11 (by decide) ?_
    refine lv_icmp_ne (tgt := 52) hx hb dX10_precedes_12 (by decide) (fun c28 => ?_) (fun c28 => ?_)
    · have hJ := it_neg c28 hJ
      exact sb_X10_precedes_52 C hz2 N t0 _ hJ hk0 w (lv_sub (l' := [(0, .ref t0)]) hl [0] rfl)
    · have hJ := it_pos c28 hJ
      refine lv_aload_n hx hb dX10_precedes_15 rfl (lv_at hl 0 rfl) ?_
      refine lv_iload_n hx hb dX10_precedes_16 rfl (lv_at hl 1 rfl) ?_
      obtain ⟨⟨h29, r30⟩, e31, hJ⟩ := ob_some hJ
      refine jc_Vi (As := [.int x1]) C w (cc_X10_isIn N t0 h x1 hk0 e31) (mo_X10_isIn N t0 h x1 e31) (mb_X10_precedes_20 N t0 _ _ _ _ hJ) hz2 hk0 (by decide) rfl (fs := fs13 h t0) rfl rfl ⟨tw_7_162, tw_7_159, tw_7_161, ts_37, tw_1_7⟩ cd_X10_isIn ⟨by decide, by decide⟩ hl.1 (by first | exact Nat.le_of_ble_eq_true rfl | simp [rf_cat, cat_i, cat_l, cat_r]) rfl dX10_precedes_17 (fun H locs w1 => ?_)
      have hk32 := kd_keep w (mo_X10_isIn N t0 h x1 e31) hk0 (by decide)
      have w := w1
      exact sb_X10_precedes_20 C hz2 N t0 _ _ _ _ hJ hk32 w hl
def J_X10_precedes (N : Nat) (t0 : Nat) (h : Hp) (x1 : Int32) (x2 : Int32) : Option (Hp × Int32) := B_X10_precedes_0 N t0 h x1 x2
theorem mo_X10_precedes (N : Nat) (t0 : Nat) (h : Hp) (x1 : Int32) (x2 : Int32) (hJ : J_X10_precedes N t0 h x1 x2 = some (hz, rz)) : Mo h hz := mb_X10_precedes_0 N t0 h x1 x2 hJ
theorem cd_X10_precedes : Cd yX10_precedes 2 := ⟨by decide +kernel, by decide +kernel, by decide +kernel⟩
theorem cc_X10_precedes (N : Nat) (t0 : Nat) (h : Hp) (x1 : Int32) (x2 : Int32) (hk0 : h.kd t0 = 13) (hJ : J_X10_precedes N t0 h x1 x2 = some (hz, rz)) : Ci l yX10_precedes cX10_precedes 4 (some .boolean) 1 30 D cs h hz [.ref t0, .int x1, .int x2] rz := by
  intro mc ms g1 g2
  refine je_any (by decide) (by simp [lg_sl, rf_cat, cat_i, cat_l, cat_r]) ?_
  intro p e s m args below meth c C hin2 w ls hl
  have hl : lv_has ls 4 [(0, .ref t0), (1, .int x1), (2, .int x2)] := hl
  exact sb_X10_precedes_0 C ⟨g1, g2⟩ N t0 h x1 x2 hJ hk0 w hl
end G_X10_precedes
section G_X10_outOf
variable {p : Program} {l : Launch} {e : Env} {s : State} {m : MethodId} {args : Array Value} {below : List Frame} {meth : Method} {c : Code} {D : va_G} {cs : C4} {A : Nat → Prop} {h0 hz : Hp} {mc ms : Nat} {rz : Int32}
def B_X10_outOf_69 (N : Nat) (k4 : Hp → Int32 → Int32 → Int32 → Option (Hp × Int32)) (t0 : Nat) (h : Hp) (x1 : Int32) (x2 : Int32) (x3 : Int32) : Option (Hp × Int32) := k4 h x1 x2 (x3 + (1 : Int32))
theorem mb_X10_outOf_69 (N : Nat) (k4 : Hp → Int32 → Int32 → Int32 → Option (Hp × Int32)) (t0 : Nat) (h : Hp) (x1 : Int32) (x2 : Int32) (x3 : Int32) (m4 : ∀ (h : Hp) (x1 : Int32) (x2 : Int32) (x3 : Int32), k4 h x1 x2 x3 = some (hz, rz) → Mo h hz) (hJ : B_X10_outOf_69 N k4 t0 h x1 x2 x3 = some (hz, rz)) : Mo h hz := by
  unfold B_X10_outOf_69 at hJ
  exact m4 _ _ _ _ hJ
set_option maxRecDepth 100000 in
set_option maxHeartbeats 4000000 in
theorem sb_X10_outOf_69 (C : Cx p s m args meth c cX10_outOf 4 (some .int) RX10 D cs A h0.se) (hz2 : hz.nx ≤ h0.nx + mc ∧ hz.su ≤ h0.su + ms) (N : Nat) (k4 : Hp → Int32 → Int32 → Int32 → Option (Hp × Int32)) (t0 : Nat) (m4 : ∀ (h : Hp) (x1 : Int32) (x2 : Int32) (x3 : Int32), k4 h x1 x2 x3 = some (hz, rz) → Mo h hz) (i4 : ∀ (h : Hp) (x1 : Int32) (x2 : Int32) (x3 : Int32) (H : Heap) (locs : List Loc) (cells slots : Nat) (ls : Array Slot), k4 h x1 x2 x3 = some (hz, rz) → h.kd t0 = 13 → Wo D cs A s h0 h H locs cells slots → lv_has ls 4 [(0, .ref t0), (1, .int x1), (2, .int x2), (3, .int x3)] → W p l e { frames := 2, cells := mc, slots := ms, locals := 60 } s m args below meth c H locs cells slots (MQ below (Zi D cs A hz rz) args s mc ms A) (F0 m 4 ls [])) (h : Hp) (x1 : Int32) (x2 : Int32) (x3 : Int32) (hJ : B_X10_outOf_69 N k4 t0 h x1 x2 x3 = some (hz, rz)) (hk0 : h.kd t0 = 13) {H : Heap} {locs : List Loc} {cells slots : Nat} (w : Wo D cs A s h0 h H locs cells slots) {ls : Array Slot} (hl : lv_has ls 4 [(0, .ref t0), (1, .int x1), (2, .int x2), (3, .int x3)]) : W p l e { frames := 2, cells := mc, slots := ms, locals := 60 } s m args below meth c H locs cells slots (MQ below (Zi D cs A hz rz) args s mc ms A) (F0 m 69 ls []) := by
  obtain ⟨hx, hb, hml, hown, hts, -⟩ := id C
  unfold B_X10_outOf_69 at hJ
  refine lv_iinc (v := x3 + (1 : Int32)) (lv' := [(3, .int (x3 + (1 : Int32))), (0, .ref t0), (1, .int x1), (2, .int x2)]) hx hb dX10_outOf_69 hl (k := 3) rfl rfl (by decide) rfl (fun ls hl => ?_)
  refine lv_goto (tgt := 4) hx hb dX10_outOf_72 (by decide) ?_
  exact i4 _ _ _ _ _ _ _ _ _ hJ hk0 w (lv_sub (l' := [(0, .ref t0), (1, .int x1), (2, .int x2), (3, .int (x3 + (1 : Int32)))]) hl [1, 2, 3, 0] rfl)
def B_X10_outOf_59 (N : Nat) (k4 : Hp → Int32 → Int32 → Int32 → Option (Hp × Int32)) (t0 : Nat) (h : Hp) (x1 : Int32) (x2 : Int32) (x3 : Int32) (y0 : Int32) : Option (Hp × Int32) := if y0 = 0 then (B_X10_outOf_69 N k4 t0 h x1 x2 x3) else (dr h 30 (h.gr 1304 t0) (fun a2 => ck (¬ (x3 < 0 ∨ h.al a2 ≤ x3.toNatClampNeg)) (B_X10_outOf_69 N k4 t0 h x1 (h.bi a2 x3.toNatClampNeg) x3)))
theorem mb_X10_outOf_59 (N : Nat) (k4 : Hp → Int32 → Int32 → Int32 → Option (Hp × Int32)) (t0 : Nat) (h : Hp) (x1 : Int32) (x2 : Int32) (x3 : Int32) (y0 : Int32) (m4 : ∀ (h : Hp) (x1 : Int32) (x2 : Int32) (x3 : Int32), k4 h x1 x2 x3 = some (hz, rz) → Mo h hz) (hJ : B_X10_outOf_59 N k4 t0 h x1 x2 x3 y0 = some (hz, rz)) : Mo h hz := by
  unfold B_X10_outOf_59 at hJ
  by_cases c1 : y0 = 0
  · have hJ := it_pos c1 hJ
    exact mb_X10_outOf_69 N k4 t0 _ _ _ _ m4 hJ
  · have hJ := it_neg c1 hJ
    obtain ⟨a2, ea2, -, hJ⟩ := dr_some hJ
    obtain ⟨-, hJ⟩ := ck_some hJ
    exact mb_X10_outOf_69 N k4 t0 _ _ _ _ m4 hJ
set_option maxRecDepth 100000 in
set_option maxHeartbeats 4000000 in
theorem sb_X10_outOf_59 (C : Cx p s m args meth c cX10_outOf 4 (some .int) RX10 D cs A h0.se) (hz2 : hz.nx ≤ h0.nx + mc ∧ hz.su ≤ h0.su + ms) (N : Nat) (k4 : Hp → Int32 → Int32 → Int32 → Option (Hp × Int32)) (t0 : Nat) (m4 : ∀ (h : Hp) (x1 : Int32) (x2 : Int32) (x3 : Int32), k4 h x1 x2 x3 = some (hz, rz) → Mo h hz) (i4 : ∀ (h : Hp) (x1 : Int32) (x2 : Int32) (x3 : Int32) (H : Heap) (locs : List Loc) (cells slots : Nat) (ls : Array Slot), k4 h x1 x2 x3 = some (hz, rz) → h.kd t0 = 13 → Wo D cs A s h0 h H locs cells slots → lv_has ls 4 [(0, .ref t0), (1, .int x1), (2, .int x2), (3, .int x3)] → W p l e { frames := 2, cells := mc, slots := ms, locals := 60 } s m args below meth c H locs cells slots (MQ below (Zi D cs A hz rz) args s mc ms A) (F0 m 4 ls [])) (h : Hp) (x1 : Int32) (x2 : Int32) (x3 : Int32) (y0 : Int32) (hJ : B_X10_outOf_59 N k4 t0 h x1 x2 x3 y0 = some (hz, rz)) (hk0 : h.kd t0 = 13) {H : Heap} {locs : List Loc} {cells slots : Nat} (w : Wo D cs A s h0 h H locs cells slots) {ls : Array Slot} (hl : lv_has ls 4 [(0, .ref t0), (1, .int x1), (2, .int x2), (3, .int x3)]) : W p l e { frames := 2, cells := mc, slots := ms, locals := 60 } s m args below meth c H locs cells slots (MQ below (Zi D cs A hz rz) args s mc ms A) (F0 m 59 ls [.int y0]) := by
  obtain ⟨hx, hb, hml, hown, hts, -⟩ := id C
  unfold B_X10_outOf_59 at hJ
  refine lv_if_eq (tgt := 69) hx hb dX10_outOf_59 (by decide) (fun c1 => ?_) (fun c1 => ?_)
  · have hJ := it_pos c1 hJ
    exact sb_X10_outOf_69 C hz2 N k4 t0 m4 i4 _ _ _ _ hJ hk0 w hl
  · have hJ := it_neg c1 hJ
    refine lv_aload_n hx hb dX10_outOf_62 rfl (lv_at hl 0 rfl) ?_
    refine fg_1304 C w hk0 tw_6_167 dX10_outOf_63 ?_
    refine lv_iload_n hx hb dX10_outOf_66 rfl (lv_at hl 3 rfl) ?_
    obtain ⟨a2, ea2, hka2, hJ⟩ := dr_some hJ
    rw [ea2]
    obtain ⟨hi3, hJ⟩ := ck_some hJ
    refine jr_ialdM C w hka2 hi3 dX10_outOf_67 ?_
    refine lv_istore_n (i := 2) (lv' := [(2, .int (h.bi a2 x3.toNatClampNeg)), (0, .ref t0), (1, .int x1), (3, .int x3)]) hx hb dX10_outOf_68 rfl hl (by decide) rfl (fun ls hl => ?_)
    exact sb_X10_outOf_69 C hz2 N k4 t0 m4 i4 _ _ _ _ hJ hk0 w (lv_sub (l' := [(0, .ref t0), (1, .int x1), (2, .int (h.bi a2 x3.toNatClampNeg)), (3, .int x3)]) hl [1, 2, 0, 3] rfl)
def B_X10_outOf_53 (N : Nat) (k4 : Hp → Int32 → Int32 → Int32 → Option (Hp × Int32)) (t0 : Nat) (h : Hp) (x1 : Int32) (x2 : Int32) (x3 : Int32) : Option (Hp × Int32) := (J_X10_precedes N t0 h x1 x3).bind (fun z => B_X10_outOf_59 N k4 t0 z.1 x1 x2 x3 z.2)
theorem mb_X10_outOf_53 (N : Nat) (k4 : Hp → Int32 → Int32 → Int32 → Option (Hp × Int32)) (t0 : Nat) (h : Hp) (x1 : Int32) (x2 : Int32) (x3 : Int32) (m4 : ∀ (h : Hp) (x1 : Int32) (x2 : Int32) (x3 : Int32), k4 h x1 x2 x3 = some (hz, rz) → Mo h hz) (hJ : B_X10_outOf_53 N k4 t0 h x1 x2 x3 = some (hz, rz)) : Mo h hz := by
  unfold B_X10_outOf_53 at hJ
  obtain ⟨⟨h4, r5⟩, e6, hJ⟩ := ob_some hJ
  exact (mo_X10_precedes N t0 h x1 x3 e6).tr (mb_X10_outOf_59 N k4 t0 _ _ _ _ _ m4 hJ)
set_option maxRecDepth 100000 in
set_option maxHeartbeats 4000000 in
theorem sb_X10_outOf_53 (C : Cx p s m args meth c cX10_outOf 4 (some .int) RX10 D cs A h0.se) (hz2 : hz.nx ≤ h0.nx + mc ∧ hz.su ≤ h0.su + ms) (N : Nat) (k4 : Hp → Int32 → Int32 → Int32 → Option (Hp × Int32)) (t0 : Nat) (m4 : ∀ (h : Hp) (x1 : Int32) (x2 : Int32) (x3 : Int32), k4 h x1 x2 x3 = some (hz, rz) → Mo h hz) (i4 : ∀ (h : Hp) (x1 : Int32) (x2 : Int32) (x3 : Int32) (H : Heap) (locs : List Loc) (cells slots : Nat) (ls : Array Slot), k4 h x1 x2 x3 = some (hz, rz) → h.kd t0 = 13 → Wo D cs A s h0 h H locs cells slots → lv_has ls 4 [(0, .ref t0), (1, .int x1), (2, .int x2), (3, .int x3)] → W p l e { frames := 2, cells := mc, slots := ms, locals := 60 } s m args below meth c H locs cells slots (MQ below (Zi D cs A hz rz) args s mc ms A) (F0 m 4 ls [])) (h : Hp) (x1 : Int32) (x2 : Int32) (x3 : Int32) (hJ : B_X10_outOf_53 N k4 t0 h x1 x2 x3 = some (hz, rz)) (hk0 : h.kd t0 = 13) {H : Heap} {locs : List Loc} {cells slots : Nat} (w : Wo D cs A s h0 h H locs cells slots) {ls : Array Slot} (hl : lv_has ls 4 [(0, .ref t0), (1, .int x1), (2, .int x2), (3, .int x3)]) : W p l e { frames := 2, cells := mc, slots := ms, locals := 60 } s m args below meth c H locs cells slots (MQ below (Zi D cs A hz rz) args s mc ms A) (F0 m 53 ls []) := by
  obtain ⟨hx, hb, hml, hown, hts, -⟩ := id C
  unfold B_X10_outOf_53 at hJ
  refine lv_aload_n hx hb dX10_outOf_53 rfl (lv_at hl 0 rfl) ?_
  refine lv_iload_n hx hb dX10_outOf_54 rfl (lv_at hl 1 rfl) ?_
  refine lv_iload_n hx hb dX10_outOf_55 rfl (lv_at hl 3 rfl) ?_
  obtain ⟨⟨h4, r5⟩, e6, hJ⟩ := ob_some hJ
  refine jc_Vi (As := [.int x1, .int x3]) C w (cc_X10_precedes N t0 h x1 x3 hk0 e6) (mo_X10_precedes N t0 h x1 x3 e6) (mb_X10_outOf_59 N k4 t0 _ _ _ _ _ m4 hJ) hz2 hk0 (by decide) rfl (fs := fs13 h t0) rfl rfl ⟨tw_7_158, tw_7_155, tw_7_157, ts_36, tw_1_7⟩ cd_X10_precedes ⟨by decide, by decide⟩ hl.1 (by first | exact Nat.le_of_ble_eq_true rfl | simp [rf_cat, cat_i, cat_l, cat_r]) rfl dX10_outOf_56 (fun H locs w1 => ?_)
  have hk7 := kd_keep w (mo_X10_precedes N t0 h x1 x3 e6) hk0 (by decide)
  have w := w1
  exact sb_X10_outOf_59 C hz2 N k4 t0 m4 i4 _ _ _ _ _ hJ hk7 w hl
def B_X10_outOf_33 (N : Nat) (k4 : Hp → Int32 → Int32 → Int32 → Option (Hp × Int32)) (t0 : Nat) (h : Hp) (x1 : Int32) (x2 : Int32) (x3 : Int32) (y0 : Int32) (y1 : Int32) : Option (Hp × Int32) := if y1 ≤ y0 then (B_X10_outOf_69 N k4 t0 h x1 x2 x3) else (if x2 ≤ 0 then (B_X10_outOf_53 N k4 t0 h x1 x2 x3) else (dr h 30 (h.gr 1304 t0) (fun a10 => ck (¬ (x3 < 0 ∨ h.al a10 ≤ x3.toNatClampNeg)) (if (h.bi a10 x3.toNatClampNeg) < x2 then (B_X10_outOf_53 N k4 t0 h x1 x2 x3) else (B_X10_outOf_69 N k4 t0 h x1 x2 x3)))))
theorem mb_X10_outOf_33 (N : Nat) (k4 : Hp → Int32 → Int32 → Int32 → Option (Hp × Int32)) (t0 : Nat) (h : Hp) (x1 : Int32) (x2 : Int32) (x3 : Int32) (y0 : Int32) (y1 : Int32) (m4 : ∀ (h : Hp) (x1 : Int32) (x2 : Int32) (x3 : Int32), k4 h x1 x2 x3 = some (hz, rz) → Mo h hz) (hJ : B_X10_outOf_33 N k4 t0 h x1 x2 x3 y0 y1 = some (hz, rz)) : Mo h hz := by
  unfold B_X10_outOf_33 at hJ
  by_cases c8 : y1 ≤ y0
  · have hJ := it_pos c8 hJ
    exact mb_X10_outOf_69 N k4 t0 _ _ _ _ m4 hJ
  · have hJ := it_neg c8 hJ
    by_cases c9 : x2 ≤ 0
    · have hJ := it_pos c9 hJ
      exact mb_X10_outOf_53 N k4 t0 _ _ _ _ m4 hJ
    · have hJ := it_neg c9 hJ
      obtain ⟨a10, ea10, -, hJ⟩ := dr_some hJ
      obtain ⟨-, hJ⟩ := ck_some hJ
      by_cases c12 : (h.bi a10 x3.toNatClampNeg) < x2
      · have hJ := it_pos c12 hJ
        exact mb_X10_outOf_53 N k4 t0 _ _ _ _ m4 hJ
      · have hJ := it_neg c12 hJ
        exact mb_X10_outOf_69 N k4 t0 _ _ _ _ m4 hJ
set_option maxRecDepth 100000 in
set_option maxHeartbeats 4000000 in
theorem sb_X10_outOf_33 (C : Cx p s m args meth c cX10_outOf 4 (some .int) RX10 D cs A h0.se) (hz2 : hz.nx ≤ h0.nx + mc ∧ hz.su ≤ h0.su + ms) (N : Nat) (k4 : Hp → Int32 → Int32 → Int32 → Option (Hp × Int32)) (t0 : Nat) (m4 : ∀ (h : Hp) (x1 : Int32) (x2 : Int32) (x3 : Int32), k4 h x1 x2 x3 = some (hz, rz) → Mo h hz) (i4 : ∀ (h : Hp) (x1 : Int32) (x2 : Int32) (x3 : Int32) (H : Heap) (locs : List Loc) (cells slots : Nat) (ls : Array Slot), k4 h x1 x2 x3 = some (hz, rz) → h.kd t0 = 13 → Wo D cs A s h0 h H locs cells slots → lv_has ls 4 [(0, .ref t0), (1, .int x1), (2, .int x2), (3, .int x3)] → W p l e { frames := 2, cells := mc, slots := ms, locals := 60 } s m args below meth c H locs cells slots (MQ below (Zi D cs A hz rz) args s mc ms A) (F0 m 4 ls [])) (h : Hp) (x1 : Int32) (x2 : Int32) (x3 : Int32) (y0 : Int32) (y1 : Int32) (hJ : B_X10_outOf_33 N k4 t0 h x1 x2 x3 y0 y1 = some (hz, rz)) (hk0 : h.kd t0 = 13) {H : Heap} {locs : List Loc} {cells slots : Nat} (w : Wo D cs A s h0 h H locs cells slots) {ls : Array Slot} (hl : lv_has ls 4 [(0, .ref t0), (1, .int x1), (2, .int x2), (3, .int x3)]) : W p l e { frames := 2, cells := mc, slots := ms, locals := 60 } s m args below meth c H locs cells slots (MQ below (Zi D cs A hz rz) args s mc ms A) (F0 m 33 ls [.int y1, .int y0]) := by
  obtain ⟨hx, hb, hml, hown, hts, -⟩ := id C
  unfold B_X10_outOf_33 at hJ
  refine lv_icmp_ge (tgt := 69) hx hb dX10_outOf_33 (by decide) (fun c8 => ?_) (fun c8 => ?_)
  · have hJ := it_pos c8 hJ
    exact sb_X10_outOf_69 C hz2 N k4 t0 m4 i4 _ _ _ _ hJ hk0 w hl
  · have hJ := it_neg c8 hJ
    refine lv_iload_n hx hb dX10_outOf_36 rfl (lv_at hl 2 rfl) ?_
    refine lv_if_le (tgt := 53) hx hb dX10_outOf_37 (by decide) (fun c9 => ?_) (fun c9 => ?_)
    · have hJ := it_pos c9 hJ
      exact sb_X10_outOf_53 C hz2 N k4 t0 m4 i4 _ _ _ _ hJ hk0 w hl
    · have hJ := it_neg c9 hJ
      refine lv_aload_n hx hb dX10_outOf_40 rfl (lv_at hl 0 rfl) ?_
      refine fg_1304 C w hk0 tw_6_167 dX10_outOf_41 ?_
      refine lv_iload_n hx hb dX10_outOf_44 rfl (lv_at hl 3 rfl) ?_
      obtain ⟨a10, ea10, hka10, hJ⟩ := dr_some hJ
      rw [ea10]
      obtain ⟨hi11, hJ⟩ := ck_some hJ
      refine jr_ialdM C w hka10 hi11 dX10_outOf_45 ?_
      refine lv_iload_n hx hb dX10_outOf_46 rfl (lv_at hl 2 rfl) ?_
      refine lv_icmp_lt (tgt := 53) hx hb dX10_outOf_47 (by decide) (fun c12 => ?_) (fun c12 => ?_)
      · have hJ := it_pos c12 hJ
        exact sb_X10_outOf_53 C hz2 N k4 t0 m4 i4 _ _ _ _ hJ hk0 w hl
      · have hJ := it_neg c12 hJ
        refine lv_goto (tgt := 69) hx hb dX10_outOf_50 (by decide) ?_
        exact sb_X10_outOf_69 C hz2 N k4 t0 m4 i4 _ _ _ _ hJ hk0 w hl
def B_X10_outOf_4 (N : Nat) (k4 : Hp → Int32 → Int32 → Int32 → Option (Hp × Int32)) (t0 : Nat) (h : Hp) (x1 : Int32) (x2 : Int32) (x3 : Int32) : Option (Hp × Int32) := if (h.gi 1311 t0) < x3 then (some (h, x2)) else (dr h 30 (h.gr 1301 t0) (fun a14 => ck (¬ (x3 < 0 ∨ h.al a14 ≤ x3.toNatClampNeg)) (if (h.bi a14 x3.toNatClampNeg) = (2 : Int32) then (dr h 30 (h.gr 1304 t0) (fun a17 => ck (¬ (x3 < 0 ∨ h.al a17 ≤ x3.toNatClampNeg)) ((J_X10_endOf N t0 h x1).bind (fun z => B_X10_outOf_33 N k4 t0 z.1 x1 x2 x3 (h.bi a17 x3.toNatClampNeg) z.2)))) else (B_X10_outOf_69 N k4 t0 h x1 x2 x3))))
theorem mb_X10_outOf_4 (N : Nat) (k4 : Hp → Int32 → Int32 → Int32 → Option (Hp × Int32)) (t0 : Nat) (h : Hp) (x1 : Int32) (x2 : Int32) (x3 : Int32) (m4 : ∀ (h : Hp) (x1 : Int32) (x2 : Int32) (x3 : Int32), k4 h x1 x2 x3 = some (hz, rz) → Mo h hz) (hJ : B_X10_outOf_4 N k4 t0 h x1 x2 x3 = some (hz, rz)) : Mo h hz := by
  unfold B_X10_outOf_4 at hJ
  by_cases c13 : (h.gi 1311 t0) < x3
  · have hJ := it_pos c13 hJ
    obtain ⟨rfl, -⟩ := rs2 hJ
    exact ⟨fun _ _ => rfl, Nat.le_refl _, Nat.le_refl _, rfl, fun _ _ => rfl⟩
  · have hJ := it_neg c13 hJ
    obtain ⟨a14, ea14, -, hJ⟩ := dr_some hJ
    obtain ⟨-, hJ⟩ := ck_some hJ
    by_cases c16 : (h.bi a14 x3.toNatClampNeg) = (2 : Int32)
    · have hJ := it_pos c16 hJ
      obtain ⟨a17, ea17, -, hJ⟩ := dr_some hJ
      obtain ⟨-, hJ⟩ := ck_some hJ
      obtain ⟨⟨h19, r20⟩, e21, hJ⟩ := ob_some hJ
      exact (mo_X10_endOf N t0 h x1 e21).tr (mb_X10_outOf_33 N k4 t0 _ _ _ _ _ _ m4 hJ)
    · have hJ := it_neg c16 hJ
      exact mb_X10_outOf_69 N k4 t0 _ _ _ _ m4 hJ
set_option maxRecDepth 100000 in
set_option maxHeartbeats 4000000 in
theorem sb_X10_outOf_4 (C : Cx p s m args meth c cX10_outOf 4 (some .int) RX10 D cs A h0.se) (hz2 : hz.nx ≤ h0.nx + mc ∧ hz.su ≤ h0.su + ms) (N : Nat) (k4 : Hp → Int32 → Int32 → Int32 → Option (Hp × Int32)) (t0 : Nat) (m4 : ∀ (h : Hp) (x1 : Int32) (x2 : Int32) (x3 : Int32), k4 h x1 x2 x3 = some (hz, rz) → Mo h hz) (i4 : ∀ (h : Hp) (x1 : Int32) (x2 : Int32) (x3 : Int32) (H : Heap) (locs : List Loc) (cells slots : Nat) (ls : Array Slot), k4 h x1 x2 x3 = some (hz, rz) → h.kd t0 = 13 → Wo D cs A s h0 h H locs cells slots → lv_has ls 4 [(0, .ref t0), (1, .int x1), (2, .int x2), (3, .int x3)] → W p l e { frames := 2, cells := mc, slots := ms, locals := 60 } s m args below meth c H locs cells slots (MQ below (Zi D cs A hz rz) args s mc ms A) (F0 m 4 ls [])) (h : Hp) (x1 : Int32) (x2 : Int32) (x3 : Int32) (hJ : B_X10_outOf_4 N k4 t0 h x1 x2 x3 = some (hz, rz)) (hk0 : h.kd t0 = 13) {H : Heap} {locs : List Loc} {cells slots : Nat} (w : Wo D cs A s h0 h H locs cells slots) {ls : Array Slot} (hl : lv_has ls 4 [(0, .ref t0), (1, .int x1), (2, .int x2), (3, .int x3)]) : W p l e { frames := 2, cells := mc, slots := ms, locals := 60 } s m args below meth c H locs cells slots (MQ below (Zi D cs A hz rz) args s mc ms A) (F0 m 4 ls []) := by
  obtain ⟨hx, hb, hml, hown, hts, -⟩ := id C
  unfold B_X10_outOf_4 at hJ
  refine lv_iload_n hx hb dX10_outOf_4 rfl (lv_at hl 3 rfl) ?_
  refine lv_aload_n hx hb dX10_outOf_5 rfl (lv_at hl 0 rfl) ?_
  refine fg_1311 C w hk0 tw_6_174 dX10_outOf_6 ?_
  refine lv_icmp_gt (tgt := 75) hx hb dX10_outOf_9 (by decide) (fun c13 => ?_) (fun c13 => ?_)
  · have hJ := it_pos c13 hJ
    refine lv_iload_n hx hb dX10_outOf_75 rfl (lv_at hl 2 rfl) ?_
    obtain ⟨rfl, rfl⟩ := rs2 hJ
    exact jr_iret C w hz2 dX10_outOf_76
  · have hJ := it_neg c13 hJ
    refine lv_aload_n hx hb dX10_outOf_12 rfl (lv_at hl 0 rfl) ?_
    refine fg_1301 C w hk0 tw_6_164 dX10_outOf_13 ?_
    refine lv_iload_n hx hb dX10_outOf_16 rfl (lv_at hl 3 rfl) ?_
    obtain ⟨a14, ea14, hka14, hJ⟩ := dr_some hJ
    rw [ea14]
    obtain ⟨hi15, hJ⟩ := ck_some hJ
    refine jr_ialdM C w hka14 hi15 dX10_outOf_17 ?_
    refine lv_iconst (v := (2 : Int32)) hx hb dX10_outOf_18 (by decide) ?_
    refine lv_icmp_ne (tgt := 69) hx hb dX10_outOf_19 (by decide) (fun c16 => ?_) (fun c16 => ?_)
    · have hJ := it_neg c16 hJ
      exact sb_X10_outOf_69 C hz2 N k4 t0 m4 i4 _ _ _ _ hJ hk0 w hl
    · have hJ := it_pos c16 hJ
      refine lv_aload_n hx hb dX10_outOf_22 rfl (lv_at hl 0 rfl) ?_
      refine fg_1304 C w hk0 tw_6_167 dX10_outOf_23 ?_
      refine lv_iload_n hx hb dX10_outOf_26 rfl (lv_at hl 3 rfl) ?_
      obtain ⟨a17, ea17, hka17, hJ⟩ := dr_some hJ
      rw [ea17]
      obtain ⟨hi18, hJ⟩ := ck_some hJ
      refine jr_ialdM C w hka17 hi18 dX10_outOf_27 ?_
      refine lv_aload_n hx hb dX10_outOf_28 rfl (lv_at hl 0 rfl) ?_
      refine lv_iload_n hx hb dX10_outOf_29 rfl (lv_at hl 1 rfl) ?_
      obtain ⟨⟨h19, r20⟩, e21, hJ⟩ := ob_some hJ
      refine jc_Vi (As := [.int x1]) C w (cc_X10_endOf N t0 h x1 hk0 e21) (mo_X10_endOf N t0 h x1 e21) (mb_X10_outOf_33 N k4 t0 _ _ _ _ _ _ m4 hJ) hz2 hk0 (by decide) rfl (fs := fs13 h t0) rfl rfl ⟨tw_7_153, tw_7_150, tw_7_152, ts_35, tw_1_7⟩ cd_X10_endOf ⟨by decide, by decide⟩ hl.1 (by first | exact Nat.le_of_ble_eq_true rfl | simp [rf_cat, cat_i, cat_l, cat_r]) rfl dX10_outOf_30 (fun H locs w1 => ?_)
      have hk22 := kd_keep w (mo_X10_endOf N t0 h x1 e21) hk0 (by decide)
      have w := w1
      exact sb_X10_outOf_33 C hz2 N k4 t0 m4 i4 _ _ _ _ _ _ hJ hk22 w hl
def L_X10_outOf_4 (N : Nat) (t0 : Nat) : Nat → Hp → Int32 → Int32 → Int32 → Option (Hp × Int32)
  | 0 => fun _ _ _ _ => none
  | n + 1 => fun h x1 x2 x3 => B_X10_outOf_4 N (L_X10_outOf_4 N t0 n) t0 h x1 x2 x3
theorem ml_X10_outOf_4 (N : Nat) (t0 : Nat) : ∀ (n : Nat) (h : Hp) (x1 : Int32) (x2 : Int32) (x3 : Int32), L_X10_outOf_4 N t0 n h x1 x2 x3 = some (hz, rz) → Mo h hz := by
  intro n
  induction n with
  | zero => intro h x1 x2 x3 hJ; cases hJ
  | succ n ih => intro h x1 x2 x3 hJ; exact mb_X10_outOf_4 N (L_X10_outOf_4 N t0 n) t0 h x1 x2 x3 ih hJ
theorem sl_X10_outOf_4 (C : Cx p s m args meth c cX10_outOf 4 (some .int) RX10 D cs A h0.se) (hz2 : hz.nx ≤ h0.nx + mc ∧ hz.su ≤ h0.su + ms) (N : Nat) (t0 : Nat) : ∀ n : Nat, ∀ (h : Hp) (x1 : Int32) (x2 : Int32) (x3 : Int32) (H : Heap) (locs : List Loc) (cells slots : Nat) (ls : Array Slot), L_X10_outOf_4 N t0 n h x1 x2 x3 = some (hz, rz) → h.kd t0 = 13 → Wo D cs A s h0 h H locs cells slots → lv_has ls 4 [(0, .ref t0), (1, .int x1), (2, .int x2), (3, .int x3)] → W p l e { frames := 2, cells := mc, slots := ms, locals := 60 } s m args below meth c H locs cells slots (MQ below (Zi D cs A hz rz) args s mc ms A) (F0 m 4 ls []) := by
  intro n
  induction n with
  | zero => intro h x1 x2 x3 H locs cells slots ls hJ; cases hJ
  | succ n ih =>
    intro h x1 x2 x3 H locs cells slots ls hJ hk0 w hl
    exact sb_X10_outOf_4 C hz2 N (L_X10_outOf_4 N t0 n) t0 (ml_X10_outOf_4 N t0 n) ih h x1 x2 x3 hJ hk0 w hl
def B_X10_outOf_0 (N : Nat) (t0 : Nat) (h : Hp) (x1 : Int32) : Option (Hp × Int32) := L_X10_outOf_4 N t0 N h x1 (0 : Int32) (1 : Int32)
theorem mb_X10_outOf_0 (N : Nat) (t0 : Nat) (h : Hp) (x1 : Int32) (hJ : B_X10_outOf_0 N t0 h x1 = some (hz, rz)) : Mo h hz := by
  unfold B_X10_outOf_0 at hJ
  exact ml_X10_outOf_4 N t0 N _ _ _ _ hJ
set_option maxRecDepth 100000 in
set_option maxHeartbeats 4000000 in
theorem sb_X10_outOf_0 (C : Cx p s m args meth c cX10_outOf 4 (some .int) RX10 D cs A h0.se) (hz2 : hz.nx ≤ h0.nx + mc ∧ hz.su ≤ h0.su + ms) (N : Nat) (t0 : Nat) (h : Hp) (x1 : Int32) (hJ : B_X10_outOf_0 N t0 h x1 = some (hz, rz)) (hk0 : h.kd t0 = 13) {H : Heap} {locs : List Loc} {cells slots : Nat} (w : Wo D cs A s h0 h H locs cells slots) {ls : Array Slot} (hl : lv_has ls 4 [(0, .ref t0), (1, .int x1)]) : W p l e { frames := 2, cells := mc, slots := ms, locals := 60 } s m args below meth c H locs cells slots (MQ below (Zi D cs A hz rz) args s mc ms A) (F0 m 0 ls []) := by
  obtain ⟨hx, hb, hml, hown, hts, -⟩ := id C
  unfold B_X10_outOf_0 at hJ
  refine lv_iconst (v := (0 : Int32)) hx hb dX10_outOf_0 (by decide) ?_
  refine lv_istore_n (i := 2) (lv' := [(2, .int (0 : Int32)), (0, .ref t0), (1, .int x1)]) hx hb dX10_outOf_1 rfl hl (by decide) rfl (fun ls hl => ?_)
  refine lv_iconst (v := (1 : Int32)) hx hb dX10_outOf_2 (by decide) ?_
  refine lv_istore_n (i := 3) (lv' := [(3, .int (1 : Int32)), (2, .int (0 : Int32)), (0, .ref t0), (1, .int x1)]) hx hb dX10_outOf_3 rfl hl (by decide) rfl (fun ls hl => ?_)
  exact sl_X10_outOf_4 C hz2 N t0 N _ _ _ _ _ _ _ _ _ hJ hk0 w (lv_sub (l' := [(0, .ref t0), (1, .int x1), (2, .int (0 : Int32)), (3, .int (1 : Int32))]) hl [2, 3, 1, 0] rfl)
def J_X10_outOf (N : Nat) (t0 : Nat) (h : Hp) (x1 : Int32) : Option (Hp × Int32) := B_X10_outOf_0 N t0 h x1
theorem mo_X10_outOf (N : Nat) (t0 : Nat) (h : Hp) (x1 : Int32) (hJ : J_X10_outOf N t0 h x1 = some (hz, rz)) : Mo h hz := mb_X10_outOf_0 N t0 h x1 hJ
theorem cd_X10_outOf : Cd yX10_outOf 1 := ⟨by decide +kernel, by decide +kernel, by decide +kernel⟩
theorem cc_X10_outOf (N : Nat) (t0 : Nat) (h : Hp) (x1 : Int32) (hk0 : h.kd t0 = 13) (hJ : J_X10_outOf N t0 h x1 = some (hz, rz)) : Ci l yX10_outOf cX10_outOf 4 (some .int) 2 60 D cs h hz [.ref t0, .int x1] rz := by
  intro mc ms g1 g2
  refine je_any (by decide) (by simp [lg_sl, rf_cat, cat_i, cat_l, cat_r]) ?_
  intro p e s m args below meth c C hin2 w ls hl
  have hl : lv_has ls 4 [(0, .ref t0), (1, .int x1)] := hl
  exact sb_X10_outOf_0 C ⟨g1, g2⟩ N t0 h x1 hJ hk0 w hl
end G_X10_outOf
section G_X10_judgeOne
variable {p : Program} {l : Launch} {e : Env} {s : State} {m : MethodId} {args : Array Value} {below : List Frame} {meth : Method} {c : Code} {D : va_G} {cs : C4} {A : Nat → Prop} {h0 hz : Hp} {mc ms : Nat}
def B_X10_judgeOne_123 (N : Nat) (k7 : Hp → Int32 → Int32 → Int32 → Int32 → Option (Hp × Unit)) (t0 : Nat) (h : Hp) (x1 : Int32) (x2 : Int32) (x3 : Int32) (x4 : Int32) : Option (Hp × Unit) := k7 h x1 x2 x3 (x4 + (1 : Int32))
theorem mb_X10_judgeOne_123 (N : Nat) (k7 : Hp → Int32 → Int32 → Int32 → Int32 → Option (Hp × Unit)) (t0 : Nat) (h : Hp) (x1 : Int32) (x2 : Int32) (x3 : Int32) (x4 : Int32) (m7 : ∀ (h : Hp) (x1 : Int32) (x2 : Int32) (x3 : Int32) (x4 : Int32), k7 h x1 x2 x3 x4 = some (hz, ()) → Mo h hz) (hJ : B_X10_judgeOne_123 N k7 t0 h x1 x2 x3 x4 = some (hz, ())) : Mo h hz := by
  unfold B_X10_judgeOne_123 at hJ
  exact m7 _ _ _ _ _ hJ
set_option maxRecDepth 100000 in
set_option maxHeartbeats 4000000 in
theorem sb_X10_judgeOne_123 (C : Cx p s m args meth c cX10_judgeOne 6 none RX10 D cs A h0.se) (hz2 : hz.nx ≤ h0.nx + mc ∧ hz.su ≤ h0.su + ms) (N : Nat) (k7 : Hp → Int32 → Int32 → Int32 → Int32 → Option (Hp × Unit)) (t0 : Nat) (m7 : ∀ (h : Hp) (x1 : Int32) (x2 : Int32) (x3 : Int32) (x4 : Int32), k7 h x1 x2 x3 x4 = some (hz, ()) → Mo h hz) (i7 : ∀ (h : Hp) (x1 : Int32) (x2 : Int32) (x3 : Int32) (x4 : Int32) (H : Heap) (locs : List Loc) (cells slots : Nat) (ls : Array Slot), k7 h x1 x2 x3 x4 = some (hz, ()) → h.kd t0 = 13 → Wo D cs A s h0 h H locs cells slots → lv_has ls 6 [(0, .ref t0), (1, .int x1), (2, .int x2), (3, .int x3), (4, .int x4)] → W p l e { frames := 3, cells := mc, slots := ms, locals := 90 } s m args below meth c H locs cells slots (MQ below (Zv D cs A hz) args s mc ms A) (F0 m 7 ls [])) (h : Hp) (x1 : Int32) (x2 : Int32) (x3 : Int32) (x4 : Int32) (hJ : B_X10_judgeOne_123 N k7 t0 h x1 x2 x3 x4 = some (hz, ())) (hk0 : h.kd t0 = 13) {H : Heap} {locs : List Loc} {cells slots : Nat} (w : Wo D cs A s h0 h H locs cells slots) {ls : Array Slot} (hl : lv_has ls 6 [(0, .ref t0), (1, .int x1), (2, .int x2), (3, .int x3), (4, .int x4)]) : W p l e { frames := 3, cells := mc, slots := ms, locals := 90 } s m args below meth c H locs cells slots (MQ below (Zv D cs A hz) args s mc ms A) (F0 m 123 ls []) := by
  obtain ⟨hx, hb, hml, hown, hts, -⟩ := id C
  unfold B_X10_judgeOne_123 at hJ
  refine lv_iinc (v := x4 + (1 : Int32)) (lv' := [(4, .int (x4 + (1 : Int32))), (0, .ref t0), (1, .int x1), (2, .int x2), (3, .int x3)]) hx hb dX10_judgeOne_123 hl (k := 4) rfl rfl (by decide) rfl (fun ls hl => ?_)
  refine lv_goto (tgt := 7) hx hb dX10_judgeOne_126 (by decide) ?_
  exact i7 _ _ _ _ _ _ _ _ _ _ hJ hk0 w (lv_sub (l' := [(0, .ref t0), (1, .int x1), (2, .int x2), (3, .int x3), (4, .int (x4 + (1 : Int32)))]) hl [1, 2, 3, 4, 0] rfl)
def B_X10_judgeOne_122 (N : Nat) (k7 : Hp → Int32 → Int32 → Int32 → Int32 → Option (Hp × Unit)) (t0 : Nat) (h : Hp) (x1 : Int32) (x2 : Int32) (x4 : Int32) (y0 : Int32) : Option (Hp × Unit) := B_X10_judgeOne_123 N k7 t0 h x1 x2 y0 x4
theorem mb_X10_judgeOne_122 (N : Nat) (k7 : Hp → Int32 → Int32 → Int32 → Int32 → Option (Hp × Unit)) (t0 : Nat) (h : Hp) (x1 : Int32) (x2 : Int32) (x4 : Int32) (y0 : Int32) (m7 : ∀ (h : Hp) (x1 : Int32) (x2 : Int32) (x3 : Int32) (x4 : Int32), k7 h x1 x2 x3 x4 = some (hz, ()) → Mo h hz) (hJ : B_X10_judgeOne_122 N k7 t0 h x1 x2 x4 y0 = some (hz, ())) : Mo h hz := by
  unfold B_X10_judgeOne_122 at hJ
  exact mb_X10_judgeOne_123 N k7 t0 _ _ _ _ _ m7 hJ
set_option maxRecDepth 100000 in
set_option maxHeartbeats 4000000 in
theorem sb_X10_judgeOne_122 (C : Cx p s m args meth c cX10_judgeOne 6 none RX10 D cs A h0.se) (hz2 : hz.nx ≤ h0.nx + mc ∧ hz.su ≤ h0.su + ms) (N : Nat) (k7 : Hp → Int32 → Int32 → Int32 → Int32 → Option (Hp × Unit)) (t0 : Nat) (m7 : ∀ (h : Hp) (x1 : Int32) (x2 : Int32) (x3 : Int32) (x4 : Int32), k7 h x1 x2 x3 x4 = some (hz, ()) → Mo h hz) (i7 : ∀ (h : Hp) (x1 : Int32) (x2 : Int32) (x3 : Int32) (x4 : Int32) (H : Heap) (locs : List Loc) (cells slots : Nat) (ls : Array Slot), k7 h x1 x2 x3 x4 = some (hz, ()) → h.kd t0 = 13 → Wo D cs A s h0 h H locs cells slots → lv_has ls 6 [(0, .ref t0), (1, .int x1), (2, .int x2), (3, .int x3), (4, .int x4)] → W p l e { frames := 3, cells := mc, slots := ms, locals := 90 } s m args below meth c H locs cells slots (MQ below (Zv D cs A hz) args s mc ms A) (F0 m 7 ls [])) (h : Hp) (x1 : Int32) (x2 : Int32) (x4 : Int32) (y0 : Int32) (hJ : B_X10_judgeOne_122 N k7 t0 h x1 x2 x4 y0 = some (hz, ())) (hk0 : h.kd t0 = 13) {H : Heap} {locs : List Loc} {cells slots : Nat} (w : Wo D cs A s h0 h H locs cells slots) {ls : Array Slot} (hl : lv_has ls 6 [(0, .ref t0), (1, .int x1), (2, .int x2), (4, .int x4)]) : W p l e { frames := 3, cells := mc, slots := ms, locals := 90 } s m args below meth c H locs cells slots (MQ below (Zv D cs A hz) args s mc ms A) (F0 m 122 ls [.int y0]) := by
  obtain ⟨hx, hb, hml, hown, hts, -⟩ := id C
  unfold B_X10_judgeOne_122 at hJ
  refine lv_istore_n (i := 3) (lv' := [(3, .int y0), (0, .ref t0), (1, .int x1), (2, .int x2), (4, .int x4)]) hx hb dX10_judgeOne_122 rfl hl (by decide) rfl (fun ls hl => ?_)
  exact sb_X10_judgeOne_123 C hz2 N k7 t0 m7 i7 _ _ _ _ _ hJ hk0 w (lv_sub (l' := [(0, .ref t0), (1, .int x1), (2, .int x2), (3, .int y0), (4, .int x4)]) hl [1, 2, 3, 0, 4] rfl)
def B_X10_judgeOne_117 (N : Nat) (k7 : Hp → Int32 → Int32 → Int32 → Int32 → Option (Hp × Unit)) (t0 : Nat) (h : Hp) (x1 : Int32) (x2 : Int32) (x4 : Int32) : Option (Hp × Unit) := B_X10_judgeOne_122 N k7 t0 h x1 x2 x4 (1 : Int32)
theorem mb_X10_judgeOne_117 (N : Nat) (k7 : Hp → Int32 → Int32 → Int32 → Int32 → Option (Hp × Unit)) (t0 : Nat) (h : Hp) (x1 : Int32) (x2 : Int32) (x4 : Int32) (m7 : ∀ (h : Hp) (x1 : Int32) (x2 : Int32) (x3 : Int32) (x4 : Int32), k7 h x1 x2 x3 x4 = some (hz, ()) → Mo h hz) (hJ : B_X10_judgeOne_117 N k7 t0 h x1 x2 x4 = some (hz, ())) : Mo h hz := by
  unfold B_X10_judgeOne_117 at hJ
  exact mb_X10_judgeOne_122 N k7 t0 _ _ _ _ _ m7 hJ
set_option maxRecDepth 100000 in
set_option maxHeartbeats 4000000 in
theorem sb_X10_judgeOne_117 (C : Cx p s m args meth c cX10_judgeOne 6 none RX10 D cs A h0.se) (hz2 : hz.nx ≤ h0.nx + mc ∧ hz.su ≤ h0.su + ms) (N : Nat) (k7 : Hp → Int32 → Int32 → Int32 → Int32 → Option (Hp × Unit)) (t0 : Nat) (m7 : ∀ (h : Hp) (x1 : Int32) (x2 : Int32) (x3 : Int32) (x4 : Int32), k7 h x1 x2 x3 x4 = some (hz, ()) → Mo h hz) (i7 : ∀ (h : Hp) (x1 : Int32) (x2 : Int32) (x3 : Int32) (x4 : Int32) (H : Heap) (locs : List Loc) (cells slots : Nat) (ls : Array Slot), k7 h x1 x2 x3 x4 = some (hz, ()) → h.kd t0 = 13 → Wo D cs A s h0 h H locs cells slots → lv_has ls 6 [(0, .ref t0), (1, .int x1), (2, .int x2), (3, .int x3), (4, .int x4)] → W p l e { frames := 3, cells := mc, slots := ms, locals := 90 } s m args below meth c H locs cells slots (MQ below (Zv D cs A hz) args s mc ms A) (F0 m 7 ls [])) (h : Hp) (x1 : Int32) (x2 : Int32) (x4 : Int32) (hJ : B_X10_judgeOne_117 N k7 t0 h x1 x2 x4 = some (hz, ())) (hk0 : h.kd t0 = 13) {H : Heap} {locs : List Loc} {cells slots : Nat} (w : Wo D cs A s h0 h H locs cells slots) {ls : Array Slot} (hl : lv_has ls 6 [(0, .ref t0), (1, .int x1), (2, .int x2), (4, .int x4)]) : W p l e { frames := 3, cells := mc, slots := ms, locals := 90 } s m args below meth c H locs cells slots (MQ below (Zv D cs A hz) args s mc ms A) (F0 m 117 ls []) := by
  obtain ⟨hx, hb, hml, hown, hts, -⟩ := id C
  unfold B_X10_judgeOne_117 at hJ
  refine lv_iconst (v := (1 : Int32)) hx hb dX10_judgeOne_117 (by decide) ?_
  refine lv_goto (tgt := 122) hx hb dX10_judgeOne_118 (by decide) ?_
  exact sb_X10_judgeOne_122 C hz2 N k7 t0 m7 i7 _ _ _ _ _ hJ hk0 w hl
def B_X10_judgeOne_121 (N : Nat) (k7 : Hp → Int32 → Int32 → Int32 → Int32 → Option (Hp × Unit)) (t0 : Nat) (h : Hp) (x1 : Int32) (x2 : Int32) (x4 : Int32) : Option (Hp × Unit) := B_X10_judgeOne_122 N k7 t0 h x1 x2 x4 (0 : Int32)
theorem mb_X10_judgeOne_121 (N : Nat) (k7 : Hp → Int32 → Int32 → Int32 → Int32 → Option (Hp × Unit)) (t0 : Nat) (h : Hp) (x1 : Int32) (x2 : Int32) (x4 : Int32) (m7 : ∀ (h : Hp) (x1 : Int32) (x2 : Int32) (x3 : Int32) (x4 : Int32), k7 h x1 x2 x3 x4 = some (hz, ()) → Mo h hz) (hJ : B_X10_judgeOne_121 N k7 t0 h x1 x2 x4 = some (hz, ())) : Mo h hz := by
  unfold B_X10_judgeOne_121 at hJ
  exact mb_X10_judgeOne_122 N k7 t0 _ _ _ _ _ m7 hJ
set_option maxRecDepth 100000 in
set_option maxHeartbeats 4000000 in
theorem sb_X10_judgeOne_121 (C : Cx p s m args meth c cX10_judgeOne 6 none RX10 D cs A h0.se) (hz2 : hz.nx ≤ h0.nx + mc ∧ hz.su ≤ h0.su + ms) (N : Nat) (k7 : Hp → Int32 → Int32 → Int32 → Int32 → Option (Hp × Unit)) (t0 : Nat) (m7 : ∀ (h : Hp) (x1 : Int32) (x2 : Int32) (x3 : Int32) (x4 : Int32), k7 h x1 x2 x3 x4 = some (hz, ()) → Mo h hz) (i7 : ∀ (h : Hp) (x1 : Int32) (x2 : Int32) (x3 : Int32) (x4 : Int32) (H : Heap) (locs : List Loc) (cells slots : Nat) (ls : Array Slot), k7 h x1 x2 x3 x4 = some (hz, ()) → h.kd t0 = 13 → Wo D cs A s h0 h H locs cells slots → lv_has ls 6 [(0, .ref t0), (1, .int x1), (2, .int x2), (3, .int x3), (4, .int x4)] → W p l e { frames := 3, cells := mc, slots := ms, locals := 90 } s m args below meth c H locs cells slots (MQ below (Zv D cs A hz) args s mc ms A) (F0 m 7 ls [])) (h : Hp) (x1 : Int32) (x2 : Int32) (x4 : Int32) (hJ : B_X10_judgeOne_121 N k7 t0 h x1 x2 x4 = some (hz, ())) (hk0 : h.kd t0 = 13) {H : Heap} {locs : List Loc} {cells slots : Nat} (w : Wo D cs A s h0 h H locs cells slots) {ls : Array Slot} (hl : lv_has ls 6 [(0, .ref t0), (1, .int x1), (2, .int x2), (4, .int x4)]) : W p l e { frames := 3, cells := mc, slots := ms, locals := 90 } s m args below meth c H locs cells slots (MQ below (Zv D cs A hz) args s mc ms A) (F0 m 121 ls []) := by
  obtain ⟨hx, hb, hml, hown, hts, -⟩ := id C
  unfold B_X10_judgeOne_121 at hJ
  refine lv_iconst (v := (0 : Int32)) hx hb dX10_judgeOne_121 (by decide) ?_
  exact sb_X10_judgeOne_122 C hz2 N k7 t0 m7 i7 _ _ _ _ _ hJ hk0 w hl
def B_X10_judgeOne_95 (N : Nat) (k7 : Hp → Int32 → Int32 → Int32 → Int32 → Option (Hp × Unit)) (t0 : Nat) (h : Hp) (x1 : Int32) (x2 : Int32) (x3 : Int32) (x4 : Int32) (y0 : Int32) : Option (Hp × Unit) := if x3 = 0 then (if y0 = 0 then (B_X10_judgeOne_121 N k7 t0 h x1 x2 x4) else (dr h 30 (h.gr 1303 t0) (fun a3 => ck (¬ (x1 < 0 ∨ h.al a3 ≤ x1.toNatClampNeg)) (if (h.bi a3 x1.toNatClampNeg) < y0 then (B_X10_judgeOne_121 N k7 t0 h x1 x2 x4) else (B_X10_judgeOne_117 N k7 t0 h x1 x2 x4))))) else (B_X10_judgeOne_117 N k7 t0 h x1 x2 x4)
theorem mb_X10_judgeOne_95 (N : Nat) (k7 : Hp → Int32 → Int32 → Int32 → Int32 → Option (Hp × Unit)) (t0 : Nat) (h : Hp) (x1 : Int32) (x2 : Int32) (x3 : Int32) (x4 : Int32) (y0 : Int32) (m7 : ∀ (h : Hp) (x1 : Int32) (x2 : Int32) (x3 : Int32) (x4 : Int32), k7 h x1 x2 x3 x4 = some (hz, ()) → Mo h hz) (hJ : B_X10_judgeOne_95 N k7 t0 h x1 x2 x3 x4 y0 = some (hz, ())) : Mo h hz := by
  unfold B_X10_judgeOne_95 at hJ
  by_cases c1 : x3 = 0
  · have hJ := it_pos c1 hJ
    by_cases c2 : y0 = 0
    · have hJ := it_pos c2 hJ
      exact mb_X10_judgeOne_121 N k7 t0 _ _ _ _ m7 hJ
    · have hJ := it_neg c2 hJ
      obtain ⟨a3, ea3, -, hJ⟩ := dr_some hJ
      obtain ⟨-, hJ⟩ := ck_some hJ
      by_cases c5 : (h.bi a3 x1.toNatClampNeg) < y0
      · have hJ := it_pos c5 hJ
        exact mb_X10_judgeOne_121 N k7 t0 _ _ _ _ m7 hJ
      · have hJ := it_neg c5 hJ
        exact mb_X10_judgeOne_117 N k7 t0 _ _ _ _ m7 hJ
  · have hJ := it_neg c1 hJ
    exact mb_X10_judgeOne_117 N k7 t0 _ _ _ _ m7 hJ
set_option maxRecDepth 100000 in
set_option maxHeartbeats 4000000 in
theorem sb_X10_judgeOne_95 (C : Cx p s m args meth c cX10_judgeOne 6 none RX10 D cs A h0.se) (hz2 : hz.nx ≤ h0.nx + mc ∧ hz.su ≤ h0.su + ms) (N : Nat) (k7 : Hp → Int32 → Int32 → Int32 → Int32 → Option (Hp × Unit)) (t0 : Nat) (m7 : ∀ (h : Hp) (x1 : Int32) (x2 : Int32) (x3 : Int32) (x4 : Int32), k7 h x1 x2 x3 x4 = some (hz, ()) → Mo h hz) (i7 : ∀ (h : Hp) (x1 : Int32) (x2 : Int32) (x3 : Int32) (x4 : Int32) (H : Heap) (locs : List Loc) (cells slots : Nat) (ls : Array Slot), k7 h x1 x2 x3 x4 = some (hz, ()) → h.kd t0 = 13 → Wo D cs A s h0 h H locs cells slots → lv_has ls 6 [(0, .ref t0), (1, .int x1), (2, .int x2), (3, .int x3), (4, .int x4)] → W p l e { frames := 3, cells := mc, slots := ms, locals := 90 } s m args below meth c H locs cells slots (MQ below (Zv D cs A hz) args s mc ms A) (F0 m 7 ls [])) (h : Hp) (x1 : Int32) (x2 : Int32) (x3 : Int32) (x4 : Int32) (y0 : Int32) (hJ : B_X10_judgeOne_95 N k7 t0 h x1 x2 x3 x4 y0 = some (hz, ())) (hk0 : h.kd t0 = 13) {H : Heap} {locs : List Loc} {cells slots : Nat} (w : Wo D cs A s h0 h H locs cells slots) {ls : Array Slot} (hl : lv_has ls 6 [(0, .ref t0), (1, .int x1), (2, .int x2), (3, .int x3), (4, .int x4)]) : W p l e { frames := 3, cells := mc, slots := ms, locals := 90 } s m args below meth c H locs cells slots (MQ below (Zv D cs A hz) args s mc ms A) (F0 m 95 ls [.int y0]) := by
  obtain ⟨hx, hb, hml, hown, hts, -⟩ := id C
  unfold B_X10_judgeOne_95 at hJ
  refine lv_istore (i := 5) (lv' := [(5, .int y0), (0, .ref t0), (1, .int x1), (2, .int x2), (3, .int x3), (4, .int x4)]) hx hb dX10_judgeOne_95 hl (by decide) rfl (fun ls hl => ?_)
  refine lv_iload_n hx hb dX10_judgeOne_97 rfl (lv_at hl 4 rfl) ?_
  refine lv_if_ne (tgt := 117) hx hb dX10_judgeOne_98 (by decide) (fun c1 => ?_) (fun c1 => ?_)
  · have hJ := it_neg c1 hJ
    exact sb_X10_judgeOne_117 C hz2 N k7 t0 m7 i7 _ _ _ _ hJ hk0 w (lv_sub (l' := [(0, .ref t0), (1, .int x1), (2, .int x2), (4, .int x4)]) hl [1, 2, 3, 5] rfl)
  · have hJ := it_pos c1 hJ
    refine lv_iload hx hb dX10_judgeOne_101 (lv_at hl 0 rfl) ?_
    refine lv_if_eq (tgt := 121) hx hb dX10_judgeOne_103 (by decide) (fun c2 => ?_) (fun c2 => ?_)
    · have hJ := it_pos c2 hJ
      exact sb_X10_judgeOne_121 C hz2 N k7 t0 m7 i7 _ _ _ _ hJ hk0 w (lv_sub (l' := [(0, .ref t0), (1, .int x1), (2, .int x2), (4, .int x4)]) hl [1, 2, 3, 5] rfl)
    · have hJ := it_neg c2 hJ
      refine lv_iload hx hb dX10_judgeOne_106 (lv_at hl 0 rfl) ?_
      refine lv_aload_n hx hb dX10_judgeOne_108 rfl (lv_at hl 1 rfl) ?_
      refine fg_1303 C w hk0 tw_6_166 dX10_judgeOne_109 ?_
      refine lv_iload_n hx hb dX10_judgeOne_112 rfl (lv_at hl 2 rfl) ?_
      obtain ⟨a3, ea3, hka3, hJ⟩ := dr_some hJ
      rw [ea3]
      obtain ⟨hi4, hJ⟩ := ck_some hJ
      refine jr_ialdM C w hka3 hi4 dX10_judgeOne_113 ?_
      refine lv_icmp_gt (tgt := 121) hx hb dX10_judgeOne_114 (by decide) (fun c5 => ?_) (fun c5 => ?_)
      · have hJ := it_pos c5 hJ
        exact sb_X10_judgeOne_121 C hz2 N k7 t0 m7 i7 _ _ _ _ hJ hk0 w (lv_sub (l' := [(0, .ref t0), (1, .int x1), (2, .int x2), (4, .int x4)]) hl [1, 2, 3, 5] rfl)
      · have hJ := it_neg c5 hJ
        exact sb_X10_judgeOne_117 C hz2 N k7 t0 m7 i7 _ _ _ _ hJ hk0 w (lv_sub (l' := [(0, .ref t0), (1, .int x1), (2, .int x2), (4, .int x4)]) hl [1, 2, 3, 5] rfl)
def B_X10_judgeOne_91 (N : Nat) (k7 : Hp → Int32 → Int32 → Int32 → Int32 → Option (Hp × Unit)) (t0 : Nat) (h : Hp) (x1 : Int32) (x2 : Int32) (x3 : Int32) (x4 : Int32) (y0 : Int32) : Option (Hp × Unit) := B_X10_judgeOne_95 N k7 t0 h x1 x2 x3 x4 y0
theorem mb_X10_judgeOne_91 (N : Nat) (k7 : Hp → Int32 → Int32 → Int32 → Int32 → Option (Hp × Unit)) (t0 : Nat) (h : Hp) (x1 : Int32) (x2 : Int32) (x3 : Int32) (x4 : Int32) (y0 : Int32) (m7 : ∀ (h : Hp) (x1 : Int32) (x2 : Int32) (x3 : Int32) (x4 : Int32), k7 h x1 x2 x3 x4 = some (hz, ()) → Mo h hz) (hJ : B_X10_judgeOne_91 N k7 t0 h x1 x2 x3 x4 y0 = some (hz, ())) : Mo h hz := by
  unfold B_X10_judgeOne_91 at hJ
  exact mb_X10_judgeOne_95 N k7 t0 _ _ _ _ _ _ m7 hJ
set_option maxRecDepth 100000 in
set_option maxHeartbeats 4000000 in
theorem sb_X10_judgeOne_91 (C : Cx p s m args meth c cX10_judgeOne 6 none RX10 D cs A h0.se) (hz2 : hz.nx ≤ h0.nx + mc ∧ hz.su ≤ h0.su + ms) (N : Nat) (k7 : Hp → Int32 → Int32 → Int32 → Int32 → Option (Hp × Unit)) (t0 : Nat) (m7 : ∀ (h : Hp) (x1 : Int32) (x2 : Int32) (x3 : Int32) (x4 : Int32), k7 h x1 x2 x3 x4 = some (hz, ()) → Mo h hz) (i7 : ∀ (h : Hp) (x1 : Int32) (x2 : Int32) (x3 : Int32) (x4 : Int32) (H : Heap) (locs : List Loc) (cells slots : Nat) (ls : Array Slot), k7 h x1 x2 x3 x4 = some (hz, ()) → h.kd t0 = 13 → Wo D cs A s h0 h H locs cells slots → lv_has ls 6 [(0, .ref t0), (1, .int x1), (2, .int x2), (3, .int x3), (4, .int x4)] → W p l e { frames := 3, cells := mc, slots := ms, locals := 90 } s m args below meth c H locs cells slots (MQ below (Zv D cs A hz) args s mc ms A) (F0 m 7 ls [])) (h : Hp) (x1 : Int32) (x2 : Int32) (x3 : Int32) (x4 : Int32) (y0 : Int32) (hJ : B_X10_judgeOne_91 N k7 t0 h x1 x2 x3 x4 y0 = some (hz, ())) (hk0 : h.kd t0 = 13) {H : Heap} {locs : List Loc} {cells slots : Nat} (w : Wo D cs A s h0 h H locs cells slots) {ls : Array Slot} (hl : lv_has ls 6 [(0, .ref t0), (1, .int x1), (2, .int x2), (3, .int x3), (4, .int x4)]) : W p l e { frames := 3, cells := mc, slots := ms, locals := 90 } s m args below meth c H locs cells slots (MQ below (Zv D cs A hz) args s mc ms A) (F0 m 91 ls [.int y0]) := by
  obtain ⟨hx, hb, hml, hown, hts, -⟩ := id C
  unfold B_X10_judgeOne_91 at hJ
  refine lv_goto (tgt := 95) hx hb dX10_judgeOne_91 (by decide) ?_
  exact sb_X10_judgeOne_95 C hz2 N k7 t0 m7 i7 _ _ _ _ _ _ hJ hk0 w hl
def B_X10_judgeOne_73 (N : Nat) (k7 : Hp → Int32 → Int32 → Int32 → Int32 → Option (Hp × Unit)) (t0 : Nat) (h : Hp) (x1 : Int32) (x3 : Int32) (x4 : Int32) (y0 : Int32) : Option (Hp × Unit) := dr h 30 (h.gr 1301 t0) (fun a6 => ck (¬ (x4 < 0 ∨ h.al a6 ≤ x4.toNatClampNeg)) (if (h.bi a6 x4.toNatClampNeg) = (2 : Int32) then ((J_X10_outOf N t0 h x4).bind (fun z => B_X10_judgeOne_91 N k7 t0 z.1 x1 y0 x3 x4 z.2)) else (B_X10_judgeOne_95 N k7 t0 h x1 y0 x3 x4 (0 : Int32))))
theorem mb_X10_judgeOne_73 (N : Nat) (k7 : Hp → Int32 → Int32 → Int32 → Int32 → Option (Hp × Unit)) (t0 : Nat) (h : Hp) (x1 : Int32) (x3 : Int32) (x4 : Int32) (y0 : Int32) (m7 : ∀ (h : Hp) (x1 : Int32) (x2 : Int32) (x3 : Int32) (x4 : Int32), k7 h x1 x2 x3 x4 = some (hz, ()) → Mo h hz) (hJ : B_X10_judgeOne_73 N k7 t0 h x1 x3 x4 y0 = some (hz, ())) : Mo h hz := by
  unfold B_X10_judgeOne_73 at hJ
  obtain ⟨a6, ea6, -, hJ⟩ := dr_some hJ
  obtain ⟨-, hJ⟩ := ck_some hJ
  by_cases c8 : (h.bi a6 x4.toNatClampNeg) = (2 : Int32)
  · have hJ := it_pos c8 hJ
    obtain ⟨⟨h9, r10⟩, e11, hJ⟩ := ob_some hJ
    exact (mo_X10_outOf N t0 h x4 e11).tr (mb_X10_judgeOne_91 N k7 t0 _ _ _ _ _ _ m7 hJ)
  · have hJ := it_neg c8 hJ
    exact mb_X10_judgeOne_95 N k7 t0 _ _ _ _ _ _ m7 hJ
set_option maxRecDepth 100000 in
set_option maxHeartbeats 4000000 in
theorem sb_X10_judgeOne_73 (C : Cx p s m args meth c cX10_judgeOne 6 none RX10 D cs A h0.se) (hz2 : hz.nx ≤ h0.nx + mc ∧ hz.su ≤ h0.su + ms) (N : Nat) (k7 : Hp → Int32 → Int32 → Int32 → Int32 → Option (Hp × Unit)) (t0 : Nat) (m7 : ∀ (h : Hp) (x1 : Int32) (x2 : Int32) (x3 : Int32) (x4 : Int32), k7 h x1 x2 x3 x4 = some (hz, ()) → Mo h hz) (i7 : ∀ (h : Hp) (x1 : Int32) (x2 : Int32) (x3 : Int32) (x4 : Int32) (H : Heap) (locs : List Loc) (cells slots : Nat) (ls : Array Slot), k7 h x1 x2 x3 x4 = some (hz, ()) → h.kd t0 = 13 → Wo D cs A s h0 h H locs cells slots → lv_has ls 6 [(0, .ref t0), (1, .int x1), (2, .int x2), (3, .int x3), (4, .int x4)] → W p l e { frames := 3, cells := mc, slots := ms, locals := 90 } s m args below meth c H locs cells slots (MQ below (Zv D cs A hz) args s mc ms A) (F0 m 7 ls [])) (h : Hp) (x1 : Int32) (x3 : Int32) (x4 : Int32) (y0 : Int32) (hJ : B_X10_judgeOne_73 N k7 t0 h x1 x3 x4 y0 = some (hz, ())) (hk0 : h.kd t0 = 13) {H : Heap} {locs : List Loc} {cells slots : Nat} (w : Wo D cs A s h0 h H locs cells slots) {ls : Array Slot} (hl : lv_has ls 6 [(0, .ref t0), (1, .int x1), (3, .int x3), (4, .int x4)]) : W p l e { frames := 3, cells := mc, slots := ms, locals := 90 } s m args below meth c H locs cells slots (MQ below (Zv D cs A hz) args s mc ms A) (F0 m 73 ls [.int y0]) := by
  obtain ⟨hx, hb, hml, hown, hts, -⟩ := id C
  unfold B_X10_judgeOne_73 at hJ
  refine lv_istore_n (i := 2) (lv' := [(2, .int y0), (0, .ref t0), (1, .int x1), (3, .int x3), (4, .int x4)]) hx hb dX10_judgeOne_73 rfl hl (by decide) rfl (fun ls hl => ?_)
  refine lv_aload_n hx hb dX10_judgeOne_74 rfl (lv_at hl 1 rfl) ?_
  refine fg_1301 C w hk0 tw_6_164 dX10_judgeOne_75 ?_
  refine lv_iload hx hb dX10_judgeOne_78 (lv_at hl 4 rfl) ?_
  obtain ⟨a6, ea6, hka6, hJ⟩ := dr_some hJ
  rw [ea6]
  obtain ⟨hi7, hJ⟩ := ck_some hJ
  refine jr_ialdM C w hka6 hi7 dX10_judgeOne_80 ?_
  refine lv_iconst (v := (2 : Int32)) hx hb dX10_judgeOne_81 (by decide) ?_
  refine lv_icmp_ne (tgt := 94) hx hb dX10_judgeOne_82 (by decide) (fun c8 => ?_) (fun c8 => ?_)
  · have hJ := it_neg c8 hJ
    refine lv_iconst (v := (0 : Int32)) hx hb dX10_judgeOne_94 (by decide) ?_
    exact sb_X10_judgeOne_95 C hz2 N k7 t0 m7 i7 _ _ _ _ _ _ hJ hk0 w (lv_sub (l' := [(0, .ref t0), (1, .int x1), (2, .int y0), (3, .int x3), (4, .int x4)]) hl [1, 2, 0, 3, 4] rfl)
  · have hJ := it_pos c8 hJ
    refine lv_aload_n hx hb dX10_judgeOne_85 rfl (lv_at hl 1 rfl) ?_
    refine lv_iload hx hb dX10_judgeOne_86 (lv_at hl 4 rfl) ?_
    obtain ⟨⟨h9, r10⟩, e11, hJ⟩ := ob_some hJ
    refine jc_Vi (As := [.int x4]) C w (cc_X10_outOf N t0 h x4 hk0 e11) (mo_X10_outOf N t0 h x4 e11) (mb_X10_judgeOne_91 N k7 t0 _ _ _ _ _ _ m7 hJ) hz2 hk0 (by decide) rfl (fs := fs13 h t0) rfl rfl ⟨tw_7_149, tw_7_146, tw_7_148, ts_34, tw_1_7⟩ cd_X10_outOf ⟨by decide, by decide⟩ hl.1 (by first | exact Nat.le_of_ble_eq_true rfl | simp [rf_cat, cat_i, cat_l, cat_r]) rfl dX10_judgeOne_88 (fun H locs w1 => ?_)
    have hk12 := kd_keep w (mo_X10_outOf N t0 h x4 e11) hk0 (by decide)
    have w := w1
    exact sb_X10_judgeOne_91 C hz2 N k7 t0 m7 i7 _ _ _ _ _ _ hJ hk12 w (lv_sub (l' := [(0, .ref t0), (1, .int x1), (2, .int y0), (3, .int x3), (4, .int x4)]) hl [1, 2, 0, 3, 4] rfl)
def B_X10_judgeOne_68 (N : Nat) (k7 : Hp → Int32 → Int32 → Int32 → Int32 → Option (Hp × Unit)) (t0 : Nat) (h : Hp) (x1 : Int32) (x3 : Int32) (x4 : Int32) : Option (Hp × Unit) := B_X10_judgeOne_73 N k7 t0 h x1 x3 x4 (1 : Int32)
theorem mb_X10_judgeOne_68 (N : Nat) (k7 : Hp → Int32 → Int32 → Int32 → Int32 → Option (Hp × Unit)) (t0 : Nat) (h : Hp) (x1 : Int32) (x3 : Int32) (x4 : Int32) (m7 : ∀ (h : Hp) (x1 : Int32) (x2 : Int32) (x3 : Int32) (x4 : Int32), k7 h x1 x2 x3 x4 = some (hz, ()) → Mo h hz) (hJ : B_X10_judgeOne_68 N k7 t0 h x1 x3 x4 = some (hz, ())) : Mo h hz := by
  unfold B_X10_judgeOne_68 at hJ
  exact mb_X10_judgeOne_73 N k7 t0 _ _ _ _ _ m7 hJ
set_option maxRecDepth 100000 in
set_option maxHeartbeats 4000000 in
theorem sb_X10_judgeOne_68 (C : Cx p s m args meth c cX10_judgeOne 6 none RX10 D cs A h0.se) (hz2 : hz.nx ≤ h0.nx + mc ∧ hz.su ≤ h0.su + ms) (N : Nat) (k7 : Hp → Int32 → Int32 → Int32 → Int32 → Option (Hp × Unit)) (t0 : Nat) (m7 : ∀ (h : Hp) (x1 : Int32) (x2 : Int32) (x3 : Int32) (x4 : Int32), k7 h x1 x2 x3 x4 = some (hz, ()) → Mo h hz) (i7 : ∀ (h : Hp) (x1 : Int32) (x2 : Int32) (x3 : Int32) (x4 : Int32) (H : Heap) (locs : List Loc) (cells slots : Nat) (ls : Array Slot), k7 h x1 x2 x3 x4 = some (hz, ()) → h.kd t0 = 13 → Wo D cs A s h0 h H locs cells slots → lv_has ls 6 [(0, .ref t0), (1, .int x1), (2, .int x2), (3, .int x3), (4, .int x4)] → W p l e { frames := 3, cells := mc, slots := ms, locals := 90 } s m args below meth c H locs cells slots (MQ below (Zv D cs A hz) args s mc ms A) (F0 m 7 ls [])) (h : Hp) (x1 : Int32) (x3 : Int32) (x4 : Int32) (hJ : B_X10_judgeOne_68 N k7 t0 h x1 x3 x4 = some (hz, ())) (hk0 : h.kd t0 = 13) {H : Heap} {locs : List Loc} {cells slots : Nat} (w : Wo D cs A s h0 h H locs cells slots) {ls : Array Slot} (hl : lv_has ls 6 [(0, .ref t0), (1, .int x1), (3, .int x3), (4, .int x4)]) : W p l e { frames := 3, cells := mc, slots := ms, locals := 90 } s m args below meth c H locs cells slots (MQ below (Zv D cs A hz) args s mc ms A) (F0 m 68 ls []) := by
  obtain ⟨hx, hb, hml, hown, hts, -⟩ := id C
  unfold B_X10_judgeOne_68 at hJ
  refine lv_iconst (v := (1 : Int32)) hx hb dX10_judgeOne_68 (by decide) ?_
  refine lv_goto (tgt := 73) hx hb dX10_judgeOne_69 (by decide) ?_
  exact sb_X10_judgeOne_73 C hz2 N k7 t0 m7 i7 _ _ _ _ _ hJ hk0 w hl
def B_X10_judgeOne_53 (N : Nat) (k7 : Hp → Int32 → Int32 → Int32 → Int32 → Option (Hp × Unit)) (t0 : Nat) (h : Hp) (x1 : Int32) (x2 : Int32) (x3 : Int32) (x4 : Int32) : Option (Hp × Unit) := if x2 = 0 then (dr h 30 (h.gr 1301 t0) (fun a14 => ck (¬ (x4 < 0 ∨ h.al a14 ≤ x4.toNatClampNeg)) (if (h.bi a14 x4.toNatClampNeg) = (1 : Int32) then (B_X10_judgeOne_68 N k7 t0 h x1 x3 x4) else (B_X10_judgeOne_73 N k7 t0 h x1 x3 x4 (0 : Int32))))) else (B_X10_judgeOne_68 N k7 t0 h x1 x3 x4)
theorem mb_X10_judgeOne_53 (N : Nat) (k7 : Hp → Int32 → Int32 → Int32 → Int32 → Option (Hp × Unit)) (t0 : Nat) (h : Hp) (x1 : Int32) (x2 : Int32) (x3 : Int32) (x4 : Int32) (m7 : ∀ (h : Hp) (x1 : Int32) (x2 : Int32) (x3 : Int32) (x4 : Int32), k7 h x1 x2 x3 x4 = some (hz, ()) → Mo h hz) (hJ : B_X10_judgeOne_53 N k7 t0 h x1 x2 x3 x4 = some (hz, ())) : Mo h hz := by
  unfold B_X10_judgeOne_53 at hJ
  by_cases c13 : x2 = 0
  · have hJ := it_pos c13 hJ
    obtain ⟨a14, ea14, -, hJ⟩ := dr_some hJ
    obtain ⟨-, hJ⟩ := ck_some hJ
    by_cases c16 : (h.bi a14 x4.toNatClampNeg) = (1 : Int32)
    · have hJ := it_pos c16 hJ
      exact mb_X10_judgeOne_68 N k7 t0 _ _ _ _ m7 hJ
    · have hJ := it_neg c16 hJ
      exact mb_X10_judgeOne_73 N k7 t0 _ _ _ _ _ m7 hJ
  · have hJ := it_neg c13 hJ
    exact mb_X10_judgeOne_68 N k7 t0 _ _ _ _ m7 hJ
set_option maxRecDepth 100000 in
set_option maxHeartbeats 4000000 in
theorem sb_X10_judgeOne_53 (C : Cx p s m args meth c cX10_judgeOne 6 none RX10 D cs A h0.se) (hz2 : hz.nx ≤ h0.nx + mc ∧ hz.su ≤ h0.su + ms) (N : Nat) (k7 : Hp → Int32 → Int32 → Int32 → Int32 → Option (Hp × Unit)) (t0 : Nat) (m7 : ∀ (h : Hp) (x1 : Int32) (x2 : Int32) (x3 : Int32) (x4 : Int32), k7 h x1 x2 x3 x4 = some (hz, ()) → Mo h hz) (i7 : ∀ (h : Hp) (x1 : Int32) (x2 : Int32) (x3 : Int32) (x4 : Int32) (H : Heap) (locs : List Loc) (cells slots : Nat) (ls : Array Slot), k7 h x1 x2 x3 x4 = some (hz, ()) → h.kd t0 = 13 → Wo D cs A s h0 h H locs cells slots → lv_has ls 6 [(0, .ref t0), (1, .int x1), (2, .int x2), (3, .int x3), (4, .int x4)] → W p l e { frames := 3, cells := mc, slots := ms, locals := 90 } s m args below meth c H locs cells slots (MQ below (Zv D cs A hz) args s mc ms A) (F0 m 7 ls [])) (h : Hp) (x1 : Int32) (x2 : Int32) (x3 : Int32) (x4 : Int32) (hJ : B_X10_judgeOne_53 N k7 t0 h x1 x2 x3 x4 = some (hz, ())) (hk0 : h.kd t0 = 13) {H : Heap} {locs : List Loc} {cells slots : Nat} (w : Wo D cs A s h0 h H locs cells slots) {ls : Array Slot} (hl : lv_has ls 6 [(0, .ref t0), (1, .int x1), (2, .int x2), (3, .int x3), (4, .int x4)]) : W p l e { frames := 3, cells := mc, slots := ms, locals := 90 } s m args below meth c H locs cells slots (MQ below (Zv D cs A hz) args s mc ms A) (F0 m 53 ls []) := by
  obtain ⟨hx, hb, hml, hown, hts, -⟩ := id C
  unfold B_X10_judgeOne_53 at hJ
  refine lv_iload_n hx hb dX10_judgeOne_53 rfl (lv_at hl 2 rfl) ?_
  refine lv_if_ne (tgt := 68) hx hb dX10_judgeOne_54 (by decide) (fun c13 => ?_) (fun c13 => ?_)
  · have hJ := it_neg c13 hJ
    exact sb_X10_judgeOne_68 C hz2 N k7 t0 m7 i7 _ _ _ _ hJ hk0 w (lv_sub (l' := [(0, .ref t0), (1, .int x1), (3, .int x3), (4, .int x4)]) hl [0, 1, 3, 4] rfl)
  · have hJ := it_pos c13 hJ
    refine lv_aload_n hx hb dX10_judgeOne_57 rfl (lv_at hl 0 rfl) ?_
    refine fg_1301 C w hk0 tw_6_164 dX10_judgeOne_58 ?_
    refine lv_iload hx hb dX10_judgeOne_61 (lv_at hl 4 rfl) ?_
    obtain ⟨a14, ea14, hka14, hJ⟩ := dr_some hJ
    rw [ea14]
    obtain ⟨hi15, hJ⟩ := ck_some hJ
    refine jr_ialdM C w hka14 hi15 dX10_judgeOne_63 ?_
    refine lv_iconst (v := (1 : Int32)) hx hb dX10_judgeOne_64 (by decide) ?_
    refine lv_icmp_ne (tgt := 72) hx hb dX10_judgeOne_65 (by decide) (fun c16 => ?_) (fun c16 => ?_)
    · have hJ := it_neg c16 hJ
      refine lv_iconst (v := (0 : Int32)) hx hb dX10_judgeOne_72 (by decide) ?_
      exact sb_X10_judgeOne_73 C hz2 N k7 t0 m7 i7 _ _ _ _ _ hJ hk0 w (lv_sub (l' := [(0, .ref t0), (1, .int x1), (3, .int x3), (4, .int x4)]) hl [0, 1, 3, 4] rfl)
    · have hJ := it_pos c16 hJ
      exact sb_X10_judgeOne_68 C hz2 N k7 t0 m7 i7 _ _ _ _ hJ hk0 w (lv_sub (l' := [(0, .ref t0), (1, .int x1), (3, .int x3), (4, .int x4)]) hl [0, 1, 3, 4] rfl)
def B_X10_judgeOne_151 (N : Nat) (t0 : Nat) (h : Hp) (y0 : Option Nat) (y1 : Int32) (y2 : Int32) : Option (Hp × Unit) := dr h 30 y0 (fun a17 => ck (¬ (y1 < 0 ∨ h.al a17 ≤ y1.toNatClampNeg)) (some (h.sbi a17 y1.toNatClampNeg y2, ())))
theorem mb_X10_judgeOne_151 (N : Nat) (t0 : Nat) (h : Hp) (y0 : Option Nat) (y1 : Int32) (y2 : Int32) (hJ : B_X10_judgeOne_151 N t0 h y0 y1 y2 = some (hz, ())) : Mo h hz := by
  unfold B_X10_judgeOne_151 at hJ
  obtain ⟨a17, ea17, -, hJ⟩ := dr_some hJ
  obtain ⟨-, hJ⟩ := ck_some hJ
  obtain ⟨rfl, -⟩ := rs2 hJ
  exact ⟨fun _ _ => rfl, Nat.le_refl _, Nat.le_refl _, rfl, fun _ _ => rfl⟩
set_option maxRecDepth 100000 in
set_option maxHeartbeats 4000000 in
theorem sb_X10_judgeOne_151 (C : Cx p s m args meth c cX10_judgeOne 6 none RX10 D cs A h0.se) (hz2 : hz.nx ≤ h0.nx + mc ∧ hz.su ≤ h0.su + ms) (N : Nat) (t0 : Nat) (h : Hp) (y0 : Option Nat) (y1 : Int32) (y2 : Int32) (hJ : B_X10_judgeOne_151 N t0 h y0 y1 y2 = some (hz, ())) (hk0 : h.kd t0 = 13) {H : Heap} {locs : List Loc} {cells slots : Nat} (w : Wo D cs A s h0 h H locs cells slots) {ls : Array Slot} (hl : lv_has ls 6 [(0, .ref t0)]) : W p l e { frames := 3, cells := mc, slots := ms, locals := 90 } s m args below meth c H locs cells slots (MQ below (Zv D cs A hz) args s mc ms A) (F0 m 151 ls [.int y2, .int y1, va_rf y0]) := by
  obtain ⟨hx, hb, hml, hown, hts, -⟩ := id C
  unfold B_X10_judgeOne_151 at hJ
  obtain ⟨a17, ea17, hka17, hJ⟩ := dr_some hJ
  rw [ea17]
  obtain ⟨hi18, hJ⟩ := ck_some hJ
  refine jr_iastM C w hka17 hi18 dX10_judgeOne_151 (fun H locs w => ?_)
  obtain ⟨rfl, -⟩ := rs2 hJ
  exact jr_vret C w hz2 dX10_judgeOne_152
def B_X10_judgeOne_7 (N : Nat) (k7 : Hp → Int32 → Int32 → Int32 → Int32 → Option (Hp × Unit)) (t0 : Nat) (h : Hp) (x1 : Int32) (x2 : Int32) (x3 : Int32) (x4 : Int32) : Option (Hp × Unit) := if x1 ≤ x4 then (if x3 = 0 then (if x2 = 0 then (B_X10_judgeOne_151 N t0 h (h.gr 1307 t0) x1 (1 : Int32)) else (B_X10_judgeOne_151 N t0 h (h.gr 1307 t0) x1 (0 : Int32))) else (B_X10_judgeOne_151 N t0 h (h.gr 1307 t0) x1 (2 : Int32))) else (dr h 32 (h.gr 1302 t0) (fun a22 => ck (¬ (x4 < 0 ∨ h.al a22 ≤ x4.toNatClampNeg)) (if (h.bi a22 x4.toNatClampNeg) = 0 then (dr h 30 (h.gr 1301 t0) (fun a25 => ck (¬ (x4 < 0 ∨ h.al a25 ≤ x4.toNatClampNeg)) (if (h.bi a25 x4.toNatClampNeg) = (1 : Int32) then (B_X10_judgeOne_53 N k7 t0 h x1 x2 x3 x4) else (dr h 30 (h.gr 1306 t0) (fun a28 => ck (¬ (x4 < 0 ∨ h.al a28 ≤ x4.toNatClampNeg)) (dr h 30 (h.gr 1305 t0) (fun a30 => ck (¬ (x1 < 0 ∨ h.al a30 ≤ x1.toNatClampNeg)) (if (h.bi a30 x1.toNatClampNeg) ≤ (h.bi a28 x4.toNatClampNeg) then (B_X10_judgeOne_53 N k7 t0 h x1 x2 x3 x4) else (B_X10_judgeOne_123 N k7 t0 h x1 x2 x3 x4))))))))) else (B_X10_judgeOne_123 N k7 t0 h x1 x2 x3 x4))))
theorem mb_X10_judgeOne_7 (N : Nat) (k7 : Hp → Int32 → Int32 → Int32 → Int32 → Option (Hp × Unit)) (t0 : Nat) (h : Hp) (x1 : Int32) (x2 : Int32) (x3 : Int32) (x4 : Int32) (m7 : ∀ (h : Hp) (x1 : Int32) (x2 : Int32) (x3 : Int32) (x4 : Int32), k7 h x1 x2 x3 x4 = some (hz, ()) → Mo h hz) (hJ : B_X10_judgeOne_7 N k7 t0 h x1 x2 x3 x4 = some (hz, ())) : Mo h hz := by
  unfold B_X10_judgeOne_7 at hJ
  by_cases c19 : x1 ≤ x4
  · have hJ := it_pos c19 hJ
    by_cases c20 : x3 = 0
    · have hJ := it_pos c20 hJ
      by_cases c21 : x2 = 0
      · have hJ := it_pos c21 hJ
        exact mb_X10_judgeOne_151 N t0 _ _ _ _ hJ
      · have hJ := it_neg c21 hJ
        exact mb_X10_judgeOne_151 N t0 _ _ _ _ hJ
    · have hJ := it_neg c20 hJ
      exact mb_X10_judgeOne_151 N t0 _ _ _ _ hJ
  · have hJ := it_neg c19 hJ
    obtain ⟨a22, ea22, -, hJ⟩ := dr_some hJ
    obtain ⟨-, hJ⟩ := ck_some hJ
    by_cases c24 : (h.bi a22 x4.toNatClampNeg) = 0
    · have hJ := it_pos c24 hJ
      obtain ⟨a25, ea25, -, hJ⟩ := dr_some hJ
      obtain ⟨-, hJ⟩ := ck_some hJ
      by_cases c27 : (h.bi a25 x4.toNatClampNeg) = (1 : Int32)
      · have hJ := it_pos c27 hJ
        exact mb_X10_judgeOne_53 N k7 t0 _ _ _ _ _ m7 hJ
      · have hJ := it_neg c27 hJ
        obtain ⟨a28, ea28, -, hJ⟩ := dr_some hJ
        obtain ⟨-, hJ⟩ := ck_some hJ
        obtain ⟨a30, ea30, -, hJ⟩ := dr_some hJ
        obtain ⟨-, hJ⟩ := ck_some hJ
        by_cases c32 : (h.bi a30 x1.toNatClampNeg) ≤ (h.bi a28 x4.toNatClampNeg)
        · have hJ := it_pos c32 hJ
          exact mb_X10_judgeOne_53 N k7 t0 _ _ _ _ _ m7 hJ
        · have hJ := it_neg c32 hJ
          exact mb_X10_judgeOne_123 N k7 t0 _ _ _ _ _ m7 hJ
    · have hJ := it_neg c24 hJ
      exact mb_X10_judgeOne_123 N k7 t0 _ _ _ _ _ m7 hJ
set_option maxRecDepth 100000 in
set_option maxHeartbeats 4000000 in
theorem sb_X10_judgeOne_7 (C : Cx p s m args meth c cX10_judgeOne 6 none RX10 D cs A h0.se) (hz2 : hz.nx ≤ h0.nx + mc ∧ hz.su ≤ h0.su + ms) (N : Nat) (k7 : Hp → Int32 → Int32 → Int32 → Int32 → Option (Hp × Unit)) (t0 : Nat) (m7 : ∀ (h : Hp) (x1 : Int32) (x2 : Int32) (x3 : Int32) (x4 : Int32), k7 h x1 x2 x3 x4 = some (hz, ()) → Mo h hz) (i7 : ∀ (h : Hp) (x1 : Int32) (x2 : Int32) (x3 : Int32) (x4 : Int32) (H : Heap) (locs : List Loc) (cells slots : Nat) (ls : Array Slot), k7 h x1 x2 x3 x4 = some (hz, ()) → h.kd t0 = 13 → Wo D cs A s h0 h H locs cells slots → lv_has ls 6 [(0, .ref t0), (1, .int x1), (2, .int x2), (3, .int x3), (4, .int x4)] → W p l e { frames := 3, cells := mc, slots := ms, locals := 90 } s m args below meth c H locs cells slots (MQ below (Zv D cs A hz) args s mc ms A) (F0 m 7 ls [])) (h : Hp) (x1 : Int32) (x2 : Int32) (x3 : Int32) (x4 : Int32) (hJ : B_X10_judgeOne_7 N k7 t0 h x1 x2 x3 x4 = some (hz, ())) (hk0 : h.kd t0 = 13) {H : Heap} {locs : List Loc} {cells slots : Nat} (w : Wo D cs A s h0 h H locs cells slots) {ls : Array Slot} (hl : lv_has ls 6 [(0, .ref t0), (1, .int x1), (2, .int x2), (3, .int x3), (4, .int x4)]) : W p l e { frames := 3, cells := mc, slots := ms, locals := 90 } s m args below meth c H locs cells slots (MQ below (Zv D cs A hz) args s mc ms A) (F0 m 7 ls []) := by
  obtain ⟨hx, hb, hml, hown, hts, -⟩ := id C
  unfold B_X10_judgeOne_7 at hJ
  refine lv_iload hx hb dX10_judgeOne_7 (lv_at hl 4 rfl) ?_
  refine lv_iload_n hx hb dX10_judgeOne_9 rfl (lv_at hl 1 rfl) ?_
  refine lv_icmp_ge (tgt := 129) hx hb dX10_judgeOne_10 (by decide) (fun c19 => ?_) (fun c19 => ?_)
  · have hJ := it_pos c19 hJ
    refine lv_aload_n hx hb dX10_judgeOne_129 rfl (lv_at hl 0 rfl) ?_
    refine fg_1307 C w hk0 tw_6_170 dX10_judgeOne_130 ?_
    refine lv_iload_n hx hb dX10_judgeOne_133 rfl (lv_at hl 1 rfl) ?_
    refine lv_iload_n hx hb dX10_judgeOne_134 rfl (lv_at hl 3 rfl) ?_
    refine lv_if_eq (tgt := 142) hx hb dX10_judgeOne_135 (by decide) (fun c20 => ?_) (fun c20 => ?_)
    · have hJ := it_pos c20 hJ
      refine lv_iload_n hx hb dX10_judgeOne_142 rfl (lv_at hl 2 rfl) ?_
      refine lv_if_eq (tgt := 150) hx hb dX10_judgeOne_143 (by decide) (fun c21 => ?_) (fun c21 => ?_)
      · have hJ := it_pos c21 hJ
        refine lv_iconst (v := (1 : Int32)) hx hb dX10_judgeOne_150 (by decide) ?_
        exact sb_X10_judgeOne_151 C hz2 N t0 _ _ _ _ hJ hk0 w (lv_sub (l' := [(0, .ref t0)]) hl [0] rfl)
      · have hJ := it_neg c21 hJ
        refine lv_iconst (v := (0 : Int32)) hx hb dX10_judgeOne_146 (by decide) ?_
        refine lv_goto (tgt := 151) hx hb dX10_judgeOne_147 (by decide) ?_
        exact sb_X10_judgeOne_151 C hz2 N t0 _ _ _ _ hJ hk0 w (lv_sub (l' := [(0, .ref t0)]) hl [0] rfl)
    · have hJ := it_neg c20 hJ
      refine lv_iconst (v := (2 : Int32)) hx hb dX10_judgeOne_138 (by decide) ?_
      refine lv_goto (tgt := 151) hx hb dX10_judgeOne_139 (by decide) ?_
      exact sb_X10_judgeOne_151 C hz2 N t0 _ _ _ _ hJ hk0 w (lv_sub (l' := [(0, .ref t0)]) hl [0] rfl)
  · have hJ := it_neg c19 hJ
    refine lv_aload_n hx hb dX10_judgeOne_13 rfl (lv_at hl 0 rfl) ?_
    refine fg_1302 C w hk0 tw_6_165 dX10_judgeOne_14 ?_
    refine lv_iload hx hb dX10_judgeOne_17 (lv_at hl 4 rfl) ?_
    obtain ⟨a22, ea22, hka22, hJ⟩ := dr_some hJ
    rw [ea22]
    obtain ⟨hi23, hJ⟩ := ck_some hJ
    refine jr_zaldM C w hka22 hi23 dX10_judgeOne_19 ?_
    refine lv_if_ne (tgt := 123) hx hb dX10_judgeOne_20 (by decide) (fun c24 => ?_) (fun c24 => ?_)
    · have hJ := it_neg c24 hJ
      exact sb_X10_judgeOne_123 C hz2 N k7 t0 m7 i7 _ _ _ _ _ hJ hk0 w hl
    · have hJ := it_pos c24 hJ
      refine lv_aload_n hx hb dX10_judgeOne_23 rfl (lv_at hl 0 rfl) ?_
      refine fg_1301 C w hk0 tw_6_164 dX10_judgeOne_24 ?_
      refine lv_iload hx hb dX10_judgeOne_27 (lv_at hl 4 rfl) ?_
      obtain ⟨a25, ea25, hka25, hJ⟩ := dr_some hJ
      rw [ea25]
      obtain ⟨hi26, hJ⟩ := ck_some hJ
      refine jr_ialdM C w hka25 hi26 dX10_judgeOne_29 ?_
      refine lv_iconst (v := (1 : Int32)) hx hb dX10_judgeOne_30 (by decide) ?_
      refine lv_icmp_eq (tgt := 53) hx hb dX10_judgeOne_31 (by decide) (fun c27 => ?_) (fun c27 => ?_)
      · have hJ := it_pos c27 hJ
        exact sb_X10_judgeOne_53 C hz2 N k7 t0 m7 i7 _ _ _ _ _ hJ hk0 w hl
      · have hJ := it_neg c27 hJ
        refine lv_aload_n hx hb dX10_judgeOne_34 rfl (lv_at hl 0 rfl) ?_
        refine fg_1306 C w hk0 tw_6_169 dX10_judgeOne_35 ?_
        refine lv_iload hx hb dX10_judgeOne_38 (lv_at hl 4 rfl) ?_
        obtain ⟨a28, ea28, hka28, hJ⟩ := dr_some hJ
        rw [ea28]
        obtain ⟨hi29, hJ⟩ := ck_some hJ
        refine jr_ialdM C w hka28 hi29 dX10_judgeOne_40 ?_
        refine lv_aload_n hx hb dX10_judgeOne_41 rfl (lv_at hl 0 rfl) ?_
        refine fg_1305 C w hk0 tw_6_168 dX10_judgeOne_42 ?_
        refine lv_iload_n hx hb dX10_judgeOne_45 rfl (lv_at hl 1 rfl) ?_
        obtain ⟨a30, ea30, hka30, hJ⟩ := dr_some hJ
        rw [ea30]
        obtain ⟨hi31, hJ⟩ := ck_some hJ
        refine jr_ialdM C w hka30 hi31 dX10_judgeOne_46 ?_
        refine lv_icmp_ge (tgt := 53) hx hb dX10_judgeOne_47 (by decide) (fun c32 => ?_) (fun c32 => ?_)
        · have hJ := it_pos c32 hJ
          exact sb_X10_judgeOne_53 C hz2 N k7 t0 m7 i7 _ _ _ _ _ hJ hk0 w hl
        · have hJ := it_neg c32 hJ
          refine lv_goto (tgt := 123) hx hb dX10_judgeOne_50 (by decide) ?_
          exact sb_X10_judgeOne_123 C hz2 N k7 t0 m7 i7 _ _ _ _ _ hJ hk0 w hl
def L_X10_judgeOne_7 (N : Nat) (t0 : Nat) : Nat → Hp → Int32 → Int32 → Int32 → Int32 → Option (Hp × Unit)
  | 0 => fun _ _ _ _ _ => none
  | n + 1 => fun h x1 x2 x3 x4 => B_X10_judgeOne_7 N (L_X10_judgeOne_7 N t0 n) t0 h x1 x2 x3 x4
theorem ml_X10_judgeOne_7 (N : Nat) (t0 : Nat) : ∀ (n : Nat) (h : Hp) (x1 : Int32) (x2 : Int32) (x3 : Int32) (x4 : Int32), L_X10_judgeOne_7 N t0 n h x1 x2 x3 x4 = some (hz, ()) → Mo h hz := by
  intro n
  induction n with
  | zero => intro h x1 x2 x3 x4 hJ; cases hJ
  | succ n ih => intro h x1 x2 x3 x4 hJ; exact mb_X10_judgeOne_7 N (L_X10_judgeOne_7 N t0 n) t0 h x1 x2 x3 x4 ih hJ
theorem sl_X10_judgeOne_7 (C : Cx p s m args meth c cX10_judgeOne 6 none RX10 D cs A h0.se) (hz2 : hz.nx ≤ h0.nx + mc ∧ hz.su ≤ h0.su + ms) (N : Nat) (t0 : Nat) : ∀ n : Nat, ∀ (h : Hp) (x1 : Int32) (x2 : Int32) (x3 : Int32) (x4 : Int32) (H : Heap) (locs : List Loc) (cells slots : Nat) (ls : Array Slot), L_X10_judgeOne_7 N t0 n h x1 x2 x3 x4 = some (hz, ()) → h.kd t0 = 13 → Wo D cs A s h0 h H locs cells slots → lv_has ls 6 [(0, .ref t0), (1, .int x1), (2, .int x2), (3, .int x3), (4, .int x4)] → W p l e { frames := 3, cells := mc, slots := ms, locals := 90 } s m args below meth c H locs cells slots (MQ below (Zv D cs A hz) args s mc ms A) (F0 m 7 ls []) := by
  intro n
  induction n with
  | zero => intro h x1 x2 x3 x4 H locs cells slots ls hJ; cases hJ
  | succ n ih =>
    intro h x1 x2 x3 x4 H locs cells slots ls hJ hk0 w hl
    exact sb_X10_judgeOne_7 C hz2 N (L_X10_judgeOne_7 N t0 n) t0 (ml_X10_judgeOne_7 N t0 n) ih h x1 x2 x3 x4 hJ hk0 w hl
def B_X10_judgeOne_0 (N : Nat) (t0 : Nat) (h : Hp) (x1 : Int32) : Option (Hp × Unit) := L_X10_judgeOne_7 N t0 N h x1 (0 : Int32) (0 : Int32) (1 : Int32)
theorem mb_X10_judgeOne_0 (N : Nat) (t0 : Nat) (h : Hp) (x1 : Int32) (hJ : B_X10_judgeOne_0 N t0 h x1 = some (hz, ())) : Mo h hz := by
  unfold B_X10_judgeOne_0 at hJ
  exact ml_X10_judgeOne_7 N t0 N _ _ _ _ _ hJ
set_option maxRecDepth 100000 in
set_option maxHeartbeats 4000000 in
theorem sb_X10_judgeOne_0 (C : Cx p s m args meth c cX10_judgeOne 6 none RX10 D cs A h0.se) (hz2 : hz.nx ≤ h0.nx + mc ∧ hz.su ≤ h0.su + ms) (N : Nat) (t0 : Nat) (h : Hp) (x1 : Int32) (hJ : B_X10_judgeOne_0 N t0 h x1 = some (hz, ())) (hk0 : h.kd t0 = 13) {H : Heap} {locs : List Loc} {cells slots : Nat} (w : Wo D cs A s h0 h H locs cells slots) {ls : Array Slot} (hl : lv_has ls 6 [(0, .ref t0), (1, .int x1)]) : W p l e { frames := 3, cells := mc, slots := ms, locals := 90 } s m args below meth c H locs cells slots (MQ below (Zv D cs A hz) args s mc ms A) (F0 m 0 ls []) := by
  obtain ⟨hx, hb, hml, hown, hts, -⟩ := id C
  unfold B_X10_judgeOne_0 at hJ
  refine lv_iconst (v := (0 : Int32)) hx hb dX10_judgeOne_0 (by decide) ?_
  refine lv_istore_n (i := 2) (lv' := [(2, .int (0 : Int32)), (0, .ref t0), (1, .int x1)]) hx hb dX10_judgeOne_1 rfl hl (by decide) rfl (fun ls hl => ?_)
  refine lv_iconst (v := (0 : Int32)) hx hb dX10_judgeOne_2 (by decide) ?_
  refine lv_istore_n (i := 3) (lv' := [(3, .int (0 : Int32)), (2, .int (0 : Int32)), (0, .ref t0), (1, .int x1)]) hx hb dX10_judgeOne_3 rfl hl (by decide) rfl (fun ls hl => ?_)
  refine lv_iconst (v := (1 : Int32)) hx hb dX10_judgeOne_4 (by decide) ?_
  refine lv_istore (i := 4) (lv' := [(4, .int (1 : Int32)), (3, .int (0 : Int32)), (2, .int (0 : Int32)), (0, .ref t0), (1, .int x1)]) hx hb dX10_judgeOne_5 hl (by decide) rfl (fun ls hl => ?_)
  exact sl_X10_judgeOne_7 C hz2 N t0 N _ _ _ _ _ _ _ _ _ _ hJ hk0 w (lv_sub (l' := [(0, .ref t0), (1, .int x1), (2, .int (0 : Int32)), (3, .int (0 : Int32)), (4, .int (1 : Int32))]) hl [3, 4, 2, 1, 0] rfl)
def J_X10_judgeOne (N : Nat) (t0 : Nat) (h : Hp) (x1 : Int32) : Option (Hp × Unit) := B_X10_judgeOne_0 N t0 h x1
theorem mo_X10_judgeOne (N : Nat) (t0 : Nat) (h : Hp) (x1 : Int32) (hJ : J_X10_judgeOne N t0 h x1 = some (hz, ())) : Mo h hz := mb_X10_judgeOne_0 N t0 h x1 hJ
theorem cd_X10_judgeOne : Cd yX10_judgeOne 1 := ⟨by decide +kernel, by decide +kernel, by decide +kernel⟩
theorem cc_X10_judgeOne (N : Nat) (t0 : Nat) (h : Hp) (x1 : Int32) (hk0 : h.kd t0 = 13) (hJ : J_X10_judgeOne N t0 h x1 = some (hz, ())) : Cv l yX10_judgeOne cX10_judgeOne 6 none 3 90 D cs h hz [.ref t0, .int x1] := by
  intro mc ms g1 g2
  refine je_any (by decide) (by simp [lg_sl, rf_cat, cat_i, cat_l, cat_r]) ?_
  intro p e s m args below meth c C hin2 w ls hl
  have hl : lv_has ls 6 [(0, .ref t0), (1, .int x1)] := hl
  exact sb_X10_judgeOne_0 C ⟨g1, g2⟩ N t0 h x1 hJ hk0 w hl
end G_X10_judgeOne
