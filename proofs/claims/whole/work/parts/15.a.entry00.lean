section G_X4_init
variable {p : Program} {l : Launch} {e : Env} {s : State} {m : MethodId} {args : Array Value} {below : List Frame} {meth : Method} {c : Code} {D : va_G} {cs : C4} {A : Nat → Prop} {h0 hz : Hp} {mc ms : Nat}
def B_X4_init_25 (N : Nat) (t0 : Nat) (h : Hp) (x6 : Option Nat) : Option (Hp × Unit) := some (h.sfr 704 t0 x6, ())
theorem mb_X4_init_25 (N : Nat) (t0 : Nat) (h : Hp) (x6 : Option Nat) (hJ : B_X4_init_25 N t0 h x6 = some (hz, ())) : Mo h hz := by
  unfold B_X4_init_25 at hJ
  obtain ⟨rfl, -⟩ := rs2 hJ
  exact ⟨fun _ _ => rfl, Nat.le_refl _, Nat.le_refl _, rfl, fun _ _ => rfl⟩
set_option maxRecDepth 100000 in
set_option maxHeartbeats 4000000 in
theorem sb_X4_init_25 (C : Cx p s m args meth c cX4_init 7 none RX4 D cs A h0.se) (hin2 : meth.name = "<init>") (hz2 : hz.nx ≤ h0.nx + mc ∧ hz.su ≤ h0.su + ms) (N : Nat) (t0 : Nat) (h : Hp) (x6 : Option Nat) (hJ : B_X4_init_25 N t0 h x6 = some (hz, ())) (hk0 : h.kd t0 = 7) {H : Heap} {locs : List Loc} {cells slots : Nat} (w : Wo D cs A s h0 h H locs cells slots) {ls : Array Slot} (hl : lv_has ls 7 [(0, .ref t0), (6, va_rf x6)]) : W p l e { frames := 1, cells := mc, slots := ms, locals := 40 } s m args below meth c H locs cells slots (MQ below (Zv D cs A hz) args s mc ms A) (F0 m 25 ls []) := by
  obtain ⟨hx, hb, hml, hown, hts, -⟩ := id C
  unfold B_X4_init_25 at hJ
  refine lv_aload_n hx hb dX4_init_25 rfl (lv_at hl 0 rfl) ?_
  refine jv_aload hx hb dX4_init_26 (lv_at hl 1 rfl) ?_
  refine fp_704 (x := x6) C hin2 w hk0 tw_5_29 dX4_init_28 (fun H locs w => ?_)
  obtain ⟨rfl, -⟩ := rs2 hJ
  exact jr_vret C w hz2 dX4_init_31
def B_X4_init_0 (N : Nat) (t0 : Nat) (h : Hp) (x1 : Int32) (x2 : Int32) (x3 : Int32) (x4 : Int64) (x6 : Option Nat) : Option (Hp × Unit) := ck (x3 = 0 ∨ x3 = 1) (B_X4_init_25 N t0 ((((h.sfi 700 t0 x1).sfi 701 t0 x2).sfi 702 t0 x3).sfl 703 t0 x4) x6)
theorem mb_X4_init_0 (N : Nat) (t0 : Nat) (h : Hp) (x1 : Int32) (x2 : Int32) (x3 : Int32) (x4 : Int64) (x6 : Option Nat) (hJ : B_X4_init_0 N t0 h x1 x2 x3 x4 x6 = some (hz, ())) : Mo h hz := by
  unfold B_X4_init_0 at hJ
  obtain ⟨-, hJ⟩ := ck_some hJ
  exact (Mo.tr (show Mo h ((((h.sfi 700 t0 x1).sfi 701 t0 x2).sfi 702 t0 x3).sfl 703 t0 x4) from ⟨fun _ _ => rfl, Nat.le_refl _, Nat.le_refl _, rfl, fun _ _ => rfl⟩) (mb_X4_init_25 N t0 _ _ hJ))
set_option maxRecDepth 100000 in
set_option maxHeartbeats 4000000 in
theorem sb_X4_init_0 (C : Cx p s m args meth c cX4_init 7 none RX4 D cs A h0.se) (hin2 : meth.name = "<init>") (hz2 : hz.nx ≤ h0.nx + mc ∧ hz.su ≤ h0.su + ms) (N : Nat) (t0 : Nat) (h : Hp) (x1 : Int32) (x2 : Int32) (x3 : Int32) (x4 : Int64) (x6 : Option Nat) (hJ : B_X4_init_0 N t0 h x1 x2 x3 x4 x6 = some (hz, ())) (hk0 : h.kd t0 = 7) {H : Heap} {locs : List Loc} {cells slots : Nat} (w : Wo D cs A s h0 h H locs cells slots) {ls : Array Slot} (hl : lv_has ls 7 [(0, .ref t0), (1, .int x1), (2, .int x2), (3, .int x3), (4, .long x4), (6, va_rf x6)]) : W p l e { frames := 1, cells := mc, slots := ms, locals := 40 } s m args below meth c H locs cells slots (MQ below (Zv D cs A hz) args s mc ms A) (F0 m 0 ls []) := by
  obtain ⟨hx, hb, hml, hown, hts, -⟩ := id C
  unfold B_X4_init_0 at hJ
  refine lv_aload_n hx hb dX4_init_0 rfl (lv_at hl 0 rfl) ?_
  refine jc_O C tw_5_13 tw_1_41 tw_obj hl.1 (by first | exact Nat.le_of_ble_eq_true rfl | simp [rf_cat, cat_i, cat_l, cat_r]) (by decide) dX4_init_1 ?_
  refine lv_aload_n hx hb dX4_init_4 rfl (lv_at hl 0 rfl) ?_
  refine lv_iload_n hx hb dX4_init_5 rfl (lv_at hl 1 rfl) ?_
  refine fp_700 (x := x1) C hin2 w hk0 tw_5_14 dX4_init_6 (fun H locs w => ?_)
  refine lv_aload_n hx hb dX4_init_9 rfl (lv_at hl 0 rfl) ?_
  refine lv_iload_n hx hb dX4_init_10 rfl (lv_at hl 2 rfl) ?_
  refine fp_701 (x := x2) C hin2 w hk0 tw_5_18 dX4_init_11 (fun H locs w => ?_)
  refine lv_aload_n hx hb dX4_init_14 rfl (lv_at hl 0 rfl) ?_
  refine lv_iload_n hx hb dX4_init_15 rfl (lv_at hl 3 rfl) ?_
  obtain ⟨hzo1, hJ⟩ := ck_some hJ
  refine fp_702 (x := x3) C hin2 w hk0 hzo1 tw_5_20 dX4_init_16 (fun H locs w => ?_)
  refine lv_aload_n hx hb dX4_init_19 rfl (lv_at hl 0 rfl) ?_
  refine lv_lload hx hb dX4_init_20 (lv_at hl 4 rfl) ?_
  refine fp_703 (x := x4) C hin2 w hk0 tw_5_25 dX4_init_22 (fun H locs w => ?_)
  exact sb_X4_init_25 C hin2 hz2 N t0 _ _ hJ hk0 w (lv_sub (l' := [(0, .ref t0), (6, va_rf x6)]) hl [0, 5] rfl)
def J_X4_init (N : Nat) (t0 : Nat) (h : Hp) (x1 : Int32) (x2 : Int32) (x3 : Int32) (x4 : Int64) (x6 : Option Nat) : Option (Hp × Unit) := B_X4_init_0 N t0 h x1 x2 x3 x4 x6
theorem mo_X4_init (N : Nat) (t0 : Nat) (h : Hp) (x1 : Int32) (x2 : Int32) (x3 : Int32) (x4 : Int64) (x6 : Option Nat) (hJ : J_X4_init N t0 h x1 x2 x3 x4 x6 = some (hz, ())) : Mo h hz := mb_X4_init_0 N t0 h x1 x2 x3 x4 x6 hJ
theorem cd_X4_init : Cd yX4_init 5 := ⟨by decide +kernel, by decide +kernel, by decide +kernel⟩
theorem cc_X4_init (N : Nat) (t0 : Nat) (h : Hp) (x1 : Int32) (x2 : Int32) (x3 : Int32) (x4 : Int64) (x6 : Option Nat) (hk0 : h.kd t0 = 7) (hJ : J_X4_init N t0 h x1 x2 x3 x4 x6 = some (hz, ())) : Cv l yX4_init cX4_init 7 none 1 40 D cs h hz [.ref t0, .int x1, .int x2, .int x3, .long x4, va_rf x6] := by
  intro mc ms g1 g2
  refine je_any (by decide) (by simp [lg_sl, rf_cat, cat_i, cat_l, cat_r]) ?_
  intro p e s m args below meth c C hin2 w ls hl
  have hl : lv_has ls 7 [(0, .ref t0), (1, .int x1), (2, .int x2), (3, .int x3), (4, .long x4), (6, va_rf x6)] := by simpa [lv_args, rf_cat, cat_i, cat_l, cat_r] using hl
  exact sb_X4_init_0 C hin2 ⟨g1, g2⟩ N t0 h x1 x2 x3 x4 x6 hJ hk0 w hl
end G_X4_init
