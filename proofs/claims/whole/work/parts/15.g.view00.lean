section G_X8_init
variable {p : Program} {l : Launch} {e : Env} {s : State} {m : MethodId} {args : Array Value} {below : List Frame} {meth : Method} {c : Code} {D : va_G} {cs : C4} {A : Nat → Prop} {h0 hz : Hp} {mc ms : Nat}
def B_X8_init_38 (N : Nat) (t0 : Nat) (h : Hp) (x2 : Int32) (x3 : Int32) : Option (Hp × Unit) := some ((h.sfi 1101 t0 x2).sfi 1102 t0 x3, ())
theorem mb_X8_init_38 (N : Nat) (t0 : Nat) (h : Hp) (x2 : Int32) (x3 : Int32) (hJ : B_X8_init_38 N t0 h x2 x3 = some (hz, ())) : Mo h hz := by
  unfold B_X8_init_38 at hJ
  obtain ⟨rfl, -⟩ := rs2 hJ
  exact ⟨fun _ _ => rfl, Nat.le_refl _, Nat.le_refl _, rfl, fun _ _ => rfl⟩
set_option maxRecDepth 100000 in
set_option maxHeartbeats 4000000 in
theorem sb_X8_init_38 (C : Cx p s m args meth c cX8_init 4 none RX8 D cs A h0.se) (hin2 : meth.name = "<init>") (hz2 : hz.nx ≤ h0.nx + mc ∧ hz.su ≤ h0.su + ms) (N : Nat) (t0 : Nat) (h : Hp) (x2 : Int32) (x3 : Int32) (hJ : B_X8_init_38 N t0 h x2 x3 = some (hz, ())) (hk0 : h.kd t0 = 11) {H : Heap} {locs : List Loc} {cells slots : Nat} (w : Wo D cs A s h0 h H locs cells slots) {ls : Array Slot} (hl : lv_has ls 4 [(0, .ref t0), (2, .int x2), (3, .int x3)]) : W p l e { frames := 5, cells := mc, slots := ms, locals := 120 } s m args below meth c H locs cells slots (MQ below (Zv D cs A hz) args s mc ms A) (F0 m 38 ls []) := by
  obtain ⟨hx, hb, hml, hown, hts, -⟩ := id C
  unfold B_X8_init_38 at hJ
  refine lv_aload_n hx hb dX8_init_38 rfl (lv_at hl 0 rfl) ?_
  refine lv_iload_n hx hb dX8_init_39 rfl (lv_at hl 1 rfl) ?_
  refine fp_1101 (x := x2) C hin2 w hk0 tw_1_196 dX8_init_40 (fun H locs w => ?_)
  refine lv_aload_n hx hb dX8_init_43 rfl (lv_at hl 0 rfl) ?_
  refine lv_iload_n hx hb dX8_init_44 rfl (lv_at hl 2 rfl) ?_
  refine fp_1102 (x := x3) C hin2 w hk0 tw_1_198 dX8_init_45 (fun H locs w => ?_)
  obtain ⟨rfl, -⟩ := rs2 hJ
  exact jr_vret C w hz2 dX8_init_48
def B_X8_init_20 (N : Nat) (t0 : Nat) (h : Hp) (x1 : Option Nat) (x2 : Int32) (x3 : Int32) (y0 : Option Nat) (y1 : Option Nat) : Option (Hp × Unit) := dr h 11 y0 (fun a1 => B_X8_init_38 N t0 ((((h.sfr 1104 a1 y1).sfi 1105 t0 (0 : Int32)).sfi 1106 t0 (0 : Int32)).sfr 1100 t0 x1) x2 x3)
theorem mb_X8_init_20 (N : Nat) (t0 : Nat) (h : Hp) (x1 : Option Nat) (x2 : Int32) (x3 : Int32) (y0 : Option Nat) (y1 : Option Nat) (hJ : B_X8_init_20 N t0 h x1 x2 x3 y0 y1 = some (hz, ())) : Mo h hz := by
  unfold B_X8_init_20 at hJ
  obtain ⟨a1, ea1, -, hJ⟩ := dr_some hJ
  exact (Mo.tr (show Mo h ((((h.sfr 1104 a1 y1).sfi 1105 t0 (0 : Int32)).sfi 1106 t0 (0 : Int32)).sfr 1100 t0 x1) from ⟨fun _ _ => rfl, Nat.le_refl _, Nat.le_refl _, rfl, fun _ _ => rfl⟩) (mb_X8_init_38 N t0 _ _ _ hJ))
set_option maxRecDepth 100000 in
set_option maxHeartbeats 4000000 in
theorem sb_X8_init_20 (C : Cx p s m args meth c cX8_init 4 none RX8 D cs A h0.se) (hin2 : meth.name = "<init>") (hz2 : hz.nx ≤ h0.nx + mc ∧ hz.su ≤ h0.su + ms) (N : Nat) (t0 : Nat) (h : Hp) (x1 : Option Nat) (x2 : Int32) (x3 : Int32) (y0 : Option Nat) (y1 : Option Nat) (hJ : B_X8_init_20 N t0 h x1 x2 x3 y0 y1 = some (hz, ())) (hk0 : h.kd t0 = 11) {H : Heap} {locs : List Loc} {cells slots : Nat} (w : Wo D cs A s h0 h H locs cells slots) {ls : Array Slot} (hl : lv_has ls 4 [(0, .ref t0), (1, va_rf x1), (2, .int x2), (3, .int x3)]) : W p l e { frames := 5, cells := mc, slots := ms, locals := 120 } s m args below meth c H locs cells slots (MQ below (Zv D cs A hz) args s mc ms A) (F0 m 20 ls [va_rf y1, va_rf y0]) := by
  obtain ⟨hx, hb, hml, hown, hts, -⟩ := id C
  unfold B_X8_init_20 at hJ
  obtain ⟨a1, ea1, hka1, hJ⟩ := dr_some hJ
  rw [ea1]
  refine fp_1104 (x := y1) C hin2 w hka1 tw_1_202 dX8_init_20 (fun H locs w => ?_)
  refine lv_aload_n hx hb dX8_init_23 rfl (lv_at hl 0 rfl) ?_
  refine lv_iconst (v := (0 : Int32)) hx hb dX8_init_24 (by decide) ?_
  refine fp_1105 (x := (0 : Int32)) C w hk0 tw_1_203 dX8_init_25 (fun H locs w => ?_)
  refine lv_aload_n hx hb dX8_init_28 rfl (lv_at hl 0 rfl) ?_
  refine lv_iconst (v := (0 : Int32)) hx hb dX8_init_29 (by decide) ?_
  refine fp_1106 (x := (0 : Int32)) C w hk0 tw_1_205 dX8_init_30 (fun H locs w => ?_)
  refine lv_aload_n hx hb dX8_init_33 rfl (lv_at hl 0 rfl) ?_
  refine jv_aload_n hx hb dX8_init_34 rfl (lv_at hl 1 rfl) ?_
  refine fp_1100 (x := x1) C hin2 w hk0 tw_1_195 dX8_init_35 (fun H locs w => ?_)
  exact sb_X8_init_38 C hin2 hz2 N t0 _ _ _ hJ hk0 w (lv_sub (l' := [(0, .ref t0), (2, .int x2), (3, .int x3)]) hl [0, 2, 3] rfl)
def B_X8_init_12 (N : Nat) (t0 : Nat) (h : Hp) (x1 : Option Nat) (x2 : Int32) (x3 : Int32) (y0 : Option Nat) (y1 : Option Nat) : Option (Hp × Unit) := dr h 11 y0 (fun a2 => ck (¬ (10 : Int32) < 0 ∧ (10 : Int32).toNatClampNeg ≤ 67108864) (B_X8_init_20 N t0 ((h.sfr 1103 a2 y1).new 20 ((10 : Int32).toNatClampNeg) ((10 : Int32).toNatClampNeg)) x1 x2 x3 (some t0) (some (h.sfr 1103 a2 y1).nx)))
theorem mb_X8_init_12 (N : Nat) (t0 : Nat) (h : Hp) (x1 : Option Nat) (x2 : Int32) (x3 : Int32) (y0 : Option Nat) (y1 : Option Nat) (hJ : B_X8_init_12 N t0 h x1 x2 x3 y0 y1 = some (hz, ())) : Mo h hz := by
  unfold B_X8_init_12 at hJ
  obtain ⟨a2, ea2, -, hJ⟩ := dr_some hJ
  obtain ⟨-, hJ⟩ := ck_some hJ
  exact (Mo.tr (show Mo h (h.sfr 1103 a2 y1) from ⟨fun _ _ => rfl, Nat.le_refl _, Nat.le_refl _, rfl, fun _ _ => rfl⟩) ((Mo.new (h.sfr 1103 a2 y1) _ _ _).tr (mb_X8_init_20 N t0 _ _ _ _ _ _ hJ)))
set_option maxRecDepth 100000 in
set_option maxHeartbeats 4000000 in
theorem sb_X8_init_12 (C : Cx p s m args meth c cX8_init 4 none RX8 D cs A h0.se) (hin2 : meth.name = "<init>") (hz2 : hz.nx ≤ h0.nx + mc ∧ hz.su ≤ h0.su + ms) (N : Nat) (t0 : Nat) (h : Hp) (x1 : Option Nat) (x2 : Int32) (x3 : Int32) (y0 : Option Nat) (y1 : Option Nat) (hJ : B_X8_init_12 N t0 h x1 x2 x3 y0 y1 = some (hz, ())) (hk0 : h.kd t0 = 11) {H : Heap} {locs : List Loc} {cells slots : Nat} (w : Wo D cs A s h0 h H locs cells slots) {ls : Array Slot} (hl : lv_has ls 4 [(0, .ref t0), (1, va_rf x1), (2, .int x2), (3, .int x3)]) : W p l e { frames := 5, cells := mc, slots := ms, locals := 120 } s m args below meth c H locs cells slots (MQ below (Zv D cs A hz) args s mc ms A) (F0 m 12 ls [va_rf y1, va_rf y0]) := by
  obtain ⟨hx, hb, hml, hown, hts, -⟩ := id C
  unfold B_X8_init_12 at hJ
  obtain ⟨a2, ea2, hka2, hJ⟩ := dr_some hJ
  rw [ea2]
  refine fp_1103 (x := y1) C hin2 w hka2 tw_1_200 dX8_init_12 (fun H locs w => ?_)
  refine lv_aload_n hx hb dX8_init_15 rfl (lv_at hl 0 rfl) ?_
  refine lv_bipush (v := (10 : Int32)) hx hb dX8_init_16 (by decide) ?_
  obtain ⟨hn3, hJ⟩ := ck_some hJ
  have w0 := w
  refine fa_20 C w hn3 (mb_X8_init_20 N t0 _ _ _ _ _ _ hJ) hz2 dX8_init_18 (fun H w => ?_)
  have hk4 := kd_new (k := 20) (n := (10 : Int32).toNatClampNeg) (sl := (10 : Int32).toNatClampNeg) w0 hk0 (by decide)
  exact sb_X8_init_20 C hin2 hz2 N t0 _ _ _ _ _ _ hJ hk4 w hl
def B_X8_init_8 (N : Nat) (t0 : Nat) (h : Hp) (x1 : Option Nat) (x2 : Int32) (x3 : Int32) (y0 : Option Nat) (y1 : Option Nat) : Option (Hp × Unit) := dr h 8 y1 (fun a5 => (J_X5_init N a5 h).bind (fun z => B_X8_init_12 N t0 z.1 x1 x2 x3 y0 (some a5)))
theorem mb_X8_init_8 (N : Nat) (t0 : Nat) (h : Hp) (x1 : Option Nat) (x2 : Int32) (x3 : Int32) (y0 : Option Nat) (y1 : Option Nat) (hJ : B_X8_init_8 N t0 h x1 x2 x3 y0 y1 = some (hz, ())) : Mo h hz := by
  unfold B_X8_init_8 at hJ
  obtain ⟨a5, ea5, -, hJ⟩ := dr_some hJ
  obtain ⟨⟨h6, r7⟩, e8, hJ⟩ := ob_some hJ
  exact (mo_X5_init N a5 h e8).tr (mb_X8_init_12 N t0 _ _ _ _ _ _ hJ)
set_option maxRecDepth 100000 in
set_option maxHeartbeats 4000000 in
theorem sb_X8_init_8 (C : Cx p s m args meth c cX8_init 4 none RX8 D cs A h0.se) (hin2 : meth.name = "<init>") (hz2 : hz.nx ≤ h0.nx + mc ∧ hz.su ≤ h0.su + ms) (N : Nat) (t0 : Nat) (h : Hp) (x1 : Option Nat) (x2 : Int32) (x3 : Int32) (y0 : Option Nat) (y1 : Option Nat) (hJ : B_X8_init_8 N t0 h x1 x2 x3 y0 y1 = some (hz, ())) (hk0 : h.kd t0 = 11) {H : Heap} {locs : List Loc} {cells slots : Nat} (w : Wo D cs A s h0 h H locs cells slots) {ls : Array Slot} (hl : lv_has ls 4 [(0, .ref t0), (1, va_rf x1), (2, .int x2), (3, .int x3)]) : W p l e { frames := 5, cells := mc, slots := ms, locals := 120 } s m args below meth c H locs cells slots (MQ below (Zv D cs A hz) args s mc ms A) (F0 m 8 ls [va_rf y1, va_rf y0]) := by
  obtain ⟨hx, hb, hml, hown, hts, -⟩ := id C
  unfold B_X8_init_8 at hJ
  refine lv_dup hx hb dX8_init_8 (rf_cat _) ?_
  obtain ⟨a5, ea5, hka5, hJ⟩ := dr_some hJ
  rw [ea5]
  obtain ⟨⟨h6, r7⟩, e8, hJ⟩ := ob_some hJ
  refine jc_IN (As := []) C w (cc_X5_init N a5 h hka5 e8) (mo_X5_init N a5 h e8) (mb_X8_init_12 N t0 _ _ _ _ _ _ hJ) hz2 tw_1_47 (nw_2 C) tw_1_46 tw_1_2 rfl cd_X5_init ⟨by decide, by decide⟩ hl.1 (by first | exact Nat.le_of_ble_eq_true rfl | simp [rf_cat, cat_i, cat_l, cat_r]) rfl dX8_init_9 (fun H locs w1 => ?_)
  have hk9 := kd_keep w (mo_X5_init N a5 h e8) hk0 (by decide)
  have w := w1
  exact sb_X8_init_12 C hin2 hz2 N t0 _ _ _ _ _ _ hJ hk9 w hl
def B_X8_init_0 (N : Nat) (t0 : Nat) (h : Hp) (x1 : Option Nat) (x2 : Int32) (x3 : Int32) : Option (Hp × Unit) := B_X8_init_8 N t0 (h.new 8 0 1) x1 x2 x3 (some t0) (some h.nx)
theorem mb_X8_init_0 (N : Nat) (t0 : Nat) (h : Hp) (x1 : Option Nat) (x2 : Int32) (x3 : Int32) (hJ : B_X8_init_0 N t0 h x1 x2 x3 = some (hz, ())) : Mo h hz := by
  unfold B_X8_init_0 at hJ
  exact (Mo.new h _ _ _).tr (mb_X8_init_8 N t0 _ _ _ _ _ _ hJ)
set_option maxRecDepth 100000 in
set_option maxHeartbeats 4000000 in
theorem sb_X8_init_0 (C : Cx p s m args meth c cX8_init 4 none RX8 D cs A h0.se) (hin2 : meth.name = "<init>") (hz2 : hz.nx ≤ h0.nx + mc ∧ hz.su ≤ h0.su + ms) (N : Nat) (t0 : Nat) (h : Hp) (x1 : Option Nat) (x2 : Int32) (x3 : Int32) (hJ : B_X8_init_0 N t0 h x1 x2 x3 = some (hz, ())) (hk0 : h.kd t0 = 11) {H : Heap} {locs : List Loc} {cells slots : Nat} (w : Wo D cs A s h0 h H locs cells slots) {ls : Array Slot} (hl : lv_has ls 4 [(0, .ref t0), (1, va_rf x1), (2, .int x2), (3, .int x3)]) : W p l e { frames := 5, cells := mc, slots := ms, locals := 120 } s m args below meth c H locs cells slots (MQ below (Zv D cs A hz) args s mc ms A) (F0 m 0 ls []) := by
  obtain ⟨hx, hb, hml, hown, hts, -⟩ := id C
  unfold B_X8_init_0 at hJ
  refine lv_aload_n hx hb dX8_init_0 rfl (lv_at hl 0 rfl) ?_
  refine jc_O C tw_1_192 tw_1_41 tw_obj hl.1 (by first | exact Nat.le_of_ble_eq_true rfl | simp [rf_cat, cat_i, cat_l, cat_r]) (by decide) dX8_init_1 ?_
  refine lv_aload_n hx hb dX8_init_4 rfl (lv_at hl 0 rfl) ?_
  have w0 := w
  refine fn_8 C w (mb_X8_init_8 N t0 _ _ _ _ _ _ hJ) hz2 tw_1_193 dX8_init_5 (fun H w => ?_)
  have hk10 := kd_new (k := 8) (n := 0) (sl := 1) w0 hk0 (by decide)
  exact sb_X8_init_8 C hin2 hz2 N t0 _ _ _ _ _ _ hJ hk10 w hl
def J_X8_init (N : Nat) (t0 : Nat) (h : Hp) (x1 : Option Nat) (x2 : Int32) (x3 : Int32) : Option (Hp × Unit) := B_X8_init_0 N t0 h x1 x2 x3
theorem mo_X8_init (N : Nat) (t0 : Nat) (h : Hp) (x1 : Option Nat) (x2 : Int32) (x3 : Int32) (hJ : J_X8_init N t0 h x1 x2 x3 = some (hz, ())) : Mo h hz := mb_X8_init_0 N t0 h x1 x2 x3 hJ
theorem cd_X8_init : Cd yX8_init 3 := ⟨by decide +kernel, by decide +kernel, by decide +kernel⟩
theorem cc_X8_init (N : Nat) (t0 : Nat) (h : Hp) (x1 : Option Nat) (x2 : Int32) (x3 : Int32) (hk0 : h.kd t0 = 11) (hJ : J_X8_init N t0 h x1 x2 x3 = some (hz, ())) : Cv l yX8_init cX8_init 4 none 5 120 D cs h hz [.ref t0, va_rf x1, .int x2, .int x3] := by
  intro mc ms g1 g2
  refine je_any (by decide) (by simp [lg_sl, rf_cat, cat_i, cat_l, cat_r]) ?_
  intro p e s m args below meth c C hin2 w ls hl
  have hl : lv_has ls 4 [(0, .ref t0), (1, va_rf x1), (2, .int x2), (3, .int x3)] := by simpa [lv_args, rf_cat, cat_i, cat_l, cat_r] using hl
  exact sb_X8_init_0 C hin2 ⟨g1, g2⟩ N t0 h x1 x2 x3 hJ hk0 w hl
end G_X8_init
section G_X8_seen
variable {p : Program} {l : Launch} {e : Env} {s : State} {m : MethodId} {args : Array Value} {below : List Frame} {meth : Method} {c : Code} {D : va_G} {cs : C4} {A : Nat → Prop} {h0 hz : Hp} {mc ms : Nat} {rz : Option Nat}
def B_X8_seen_43 (N : Nat) (t0 : Nat) (h : Hp) (y0 : Option Nat) : Option (Hp × Option Nat) := some (h, y0)
theorem mb_X8_seen_43 (N : Nat) (t0 : Nat) (h : Hp) (y0 : Option Nat) (hJ : B_X8_seen_43 N t0 h y0 = some (hz, rz)) : Mo h hz := by
  unfold B_X8_seen_43 at hJ
  obtain ⟨rfl, -⟩ := rs2 hJ
  exact ⟨fun _ _ => rfl, Nat.le_refl _, Nat.le_refl _, rfl, fun _ _ => rfl⟩
set_option maxRecDepth 100000 in
set_option maxHeartbeats 4000000 in
theorem sb_X8_seen_43 (C : Cx p s m args meth c cX8_seen 3 (some (.object "RingKeeper$Entry")) RX8 D cs A h0.se) (hz2 : hz.nx ≤ h0.nx + mc ∧ hz.su ≤ h0.su + ms) (N : Nat) (t0 : Nat) (h : Hp) (y0 : Option Nat) (hJ : B_X8_seen_43 N t0 h y0 = some (hz, rz)) (hk0 : h.kd t0 = 11) {H : Heap} {locs : List Loc} {cells slots : Nat} (w : Wo D cs A s h0 h H locs cells slots) {ls : Array Slot} (hl : lv_has ls 3 [(0, .ref t0)]) : W p l e { frames := 5, cells := mc, slots := ms, locals := 150 } s m args below meth c H locs cells slots (MQ below (Zq D cs A hz rz) args s mc ms A) (F0 m 43 ls [va_rf y0]) := by
  obtain ⟨hx, hb, hml, hown, hts, -⟩ := id C
  unfold B_X8_seen_43 at hJ
  obtain ⟨rfl, rfl⟩ := rs2 hJ
  exact jr_aret (r := y0) C w (Or.inl ⟨_, rfl⟩) hz2 dX8_seen_43
def B_X8_seen_26 (N : Nat) (t0 : Nat) (h : Hp) (y0 : Option Nat) : Option (Hp × Option Nat) := nl y0 (B_X8_seen_43 N t0 h none) (fun a1 => ck (h.kd a1 = 6) ((J_X3_upTo N a1 h (h.fi 1101 t0)).bind (fun z => B_X8_seen_43 N t0 z.1 z.2)))
theorem mb_X8_seen_26 (N : Nat) (t0 : Nat) (h : Hp) (y0 : Option Nat) (hJ : B_X8_seen_26 N t0 h y0 = some (hz, rz)) : Mo h hz := by
  unfold B_X8_seen_26 at hJ
  cases ea1 : y0 with
  | none =>
    have hJ := nl_none ea1 hJ
    exact mb_X8_seen_43 N t0 _ _ hJ
  | some a1 =>
    have hJ := nl_some ea1 hJ
    obtain ⟨-, hJ⟩ := ck_some hJ
    obtain ⟨⟨h3, r4⟩, e5, hJ⟩ := ob_some hJ
    exact (mo_X3_upTo N a1 h (h.fi 1101 t0) e5).tr (mb_X8_seen_43 N t0 _ _ hJ)
set_option maxRecDepth 100000 in
set_option maxHeartbeats 4000000 in
theorem sb_X8_seen_26 (C : Cx p s m args meth c cX8_seen 3 (some (.object "RingKeeper$Entry")) RX8 D cs A h0.se) (hz2 : hz.nx ≤ h0.nx + mc ∧ hz.su ≤ h0.su + ms) (N : Nat) (t0 : Nat) (h : Hp) (y0 : Option Nat) (hJ : B_X8_seen_26 N t0 h y0 = some (hz, rz)) (hk0 : h.kd t0 = 11) {H : Heap} {locs : List Loc} {cells slots : Nat} (w : Wo D cs A s h0 h H locs cells slots) {ls : Array Slot} (hl : lv_has ls 3 [(0, .ref t0)]) : W p l e { frames := 5, cells := mc, slots := ms, locals := 150 } s m args below meth c H locs cells slots (MQ below (Zq D cs A hz rz) args s mc ms A) (F0 m 26 ls [va_rf y0]) := by
  obtain ⟨hx, hb, hml, hown, hts, -⟩ := id C
  unfold B_X8_seen_26 at hJ
  refine jv_astore_n (i := 2) (lv' := [(2, va_rf y0), (0, .ref t0)]) hx hb dX8_seen_26 rfl hl (by decide) rfl (fun ls hl => ?_)
  refine jv_aload_n hx hb dX8_seen_27 rfl (lv_at hl 0 rfl) ?_
  refine jv_ifnonnull (tgt := 35) hx hb dX8_seen_28 (by decide) (fun a1 ea1 => ?_) (fun ea1 => ?_)
  · have hJ := nl_some ea1 hJ
    rw [ea1] at hl
    refine lv_aload_n hx hb dX8_seen_35 rfl (lv_at hl 0 rfl) ?_
    refine lv_aload_n hx hb dX8_seen_36 rfl (lv_at hl 1 rfl) ?_
    refine fg_1101 C w hk0 tw_1_196 dX8_seen_37 ?_
    obtain ⟨hk2, hJ⟩ := ck_some hJ
    obtain ⟨⟨h3, r4⟩, e5, hJ⟩ := ob_some hJ
    refine jc_Vq (As := [.int (h.fi 1101 t0)]) C w (cc_X3_upTo N a1 h (h.fi 1101 t0) hk2 e5) (mo_X3_upTo N a1 h (h.fi 1101 t0) e5) (mb_X8_seen_43 N t0 _ _ hJ) hz2 hk2 (by decide) rfl (fs := fs6 h a1) rfl rfl ⟨tw_3_56, tw_3_100, tw_3_54, tw_3_55, tw_1_22⟩ cd_X3_upTo ⟨by decide, by decide⟩ hl.1 (by first | exact Nat.le_of_ble_eq_true rfl | simp [rf_cat, cat_i, cat_l, cat_r]) rfl dX8_seen_40 (fun H locs w1 => ?_)
    have hk6 := kd_keep w (mo_X3_upTo N a1 h (h.fi 1101 t0) e5) hk0 (by decide)
    have w := w1
    exact sb_X8_seen_43 C hz2 N t0 _ _ hJ hk6 w (lv_sub (l' := [(0, .ref t0)]) hl [1] rfl)
  · have hJ := nl_none ea1 hJ
    refine lv_null hx hb dX8_seen_31 ?_
    change W _ _ _ _ _ _ _ _ _ _ _ _ _ _ _ (F0 m 32 ls [va_rf none])
    refine lv_goto (tgt := 43) hx hb dX8_seen_32 (by decide) ?_
    exact sb_X8_seen_43 C hz2 N t0 _ _ hJ hk0 w (lv_sub (l' := [(0, .ref t0)]) hl [1] rfl)
def B_X8_seen_8 (N : Nat) (t0 : Nat) (h : Hp) (x1 : Int32) (y0 : Option Nat) : Option (Hp × Option Nat) := nl y0 (dr h 8 (h.fr 1100 t0) (fun a8 => (J_X5_find N a8 h x1).bind (fun z => B_X8_seen_26 N t0 z.1 z.2))) (fun a7 => ck (h.kd a7 = 6) (some (h, h.fr 601 a7)))
theorem mb_X8_seen_8 (N : Nat) (t0 : Nat) (h : Hp) (x1 : Int32) (y0 : Option Nat) (hJ : B_X8_seen_8 N t0 h x1 y0 = some (hz, rz)) : Mo h hz := by
  unfold B_X8_seen_8 at hJ
  cases ea7 : y0 with
  | none =>
    have hJ := nl_none ea7 hJ
    obtain ⟨a8, ea8, -, hJ⟩ := dr_some hJ
    obtain ⟨⟨h9, r10⟩, e11, hJ⟩ := ob_some hJ
    exact (mo_X5_find N a8 h x1 e11).tr (mb_X8_seen_26 N t0 _ _ hJ)
  | some a7 =>
    have hJ := nl_some ea7 hJ
    obtain ⟨-, hJ⟩ := ck_some hJ
    obtain ⟨rfl, -⟩ := rs2 hJ
    exact ⟨fun _ _ => rfl, Nat.le_refl _, Nat.le_refl _, rfl, fun _ _ => rfl⟩
set_option maxRecDepth 100000 in
set_option maxHeartbeats 4000000 in
theorem sb_X8_seen_8 (C : Cx p s m args meth c cX8_seen 3 (some (.object "RingKeeper$Entry")) RX8 D cs A h0.se) (hz2 : hz.nx ≤ h0.nx + mc ∧ hz.su ≤ h0.su + ms) (N : Nat) (t0 : Nat) (h : Hp) (x1 : Int32) (y0 : Option Nat) (hJ : B_X8_seen_8 N t0 h x1 y0 = some (hz, rz)) (hk0 : h.kd t0 = 11) {H : Heap} {locs : List Loc} {cells slots : Nat} (w : Wo D cs A s h0 h H locs cells slots) {ls : Array Slot} (hl : lv_has ls 3 [(0, .ref t0), (1, .int x1)]) : W p l e { frames := 5, cells := mc, slots := ms, locals := 150 } s m args below meth c H locs cells slots (MQ below (Zq D cs A hz rz) args s mc ms A) (F0 m 8 ls [va_rf y0]) := by
  obtain ⟨hx, hb, hml, hown, hts, -⟩ := id C
  unfold B_X8_seen_8 at hJ
  refine jv_astore_n (i := 2) (lv' := [(2, va_rf y0), (0, .ref t0), (1, .int x1)]) hx hb dX8_seen_8 rfl hl (by decide) rfl (fun ls hl => ?_)
  refine jv_aload_n hx hb dX8_seen_9 rfl (lv_at hl 0 rfl) ?_
  refine jv_ifnull (tgt := 18) hx hb dX8_seen_10 (by decide) (fun ea7 => ?_) (fun a7 ea7 => ?_)
  · have hJ := nl_none ea7 hJ
    refine lv_aload_n hx hb dX8_seen_18 rfl (lv_at hl 1 rfl) ?_
    refine fg_1100 C w hk0 tw_1_195 dX8_seen_19 ?_
    refine lv_iload_n hx hb dX8_seen_22 rfl (lv_at hl 2 rfl) ?_
    obtain ⟨a8, ea8, hka8, hJ⟩ := dr_some hJ
    rw [ea8]
    obtain ⟨⟨h9, r10⟩, e11, hJ⟩ := ob_some hJ
    refine jc_Vq (As := [.int x1]) C w (cc_X5_find N a8 h x1 hka8 e11) (mo_X5_find N a8 h x1 e11) (mb_X8_seen_26 N t0 _ _ hJ) hz2 hka8 (by decide) rfl (fs := fs8 h a8) rfl rfl ⟨tw_2_202, tw_3_99, tw_2_200, tw_2_201, tw_1_2⟩ cd_X5_find ⟨by decide, by decide⟩ hl.1 (by first | exact Nat.le_of_ble_eq_true rfl | simp [rf_cat, cat_i, cat_l, cat_r]) rfl dX8_seen_23 (fun H locs w1 => ?_)
    have hk12 := kd_keep w (mo_X5_find N a8 h x1 e11) hk0 (by decide)
    have w := w1
    exact sb_X8_seen_26 C hz2 N t0 _ _ hJ hk12 w (lv_sub (l' := [(0, .ref t0)]) hl [1] rfl)
  · have hJ := nl_some ea7 hJ
    rw [ea7] at hl
    refine lv_aload_n hx hb dX8_seen_13 rfl (lv_at hl 0 rfl) ?_
    obtain ⟨hk13, hJ⟩ := ck_some hJ
    refine fg_601 C w hk13 tw_3_154 dX8_seen_14 ?_
    obtain ⟨rfl, rfl⟩ := rs2 hJ
    exact jr_aret (r := h.fr 601 a7) C w (Or.inl ⟨_, rfl⟩) hz2 dX8_seen_17
def B_X8_seen_0 (N : Nat) (t0 : Nat) (h : Hp) (x1 : Int32) : Option (Hp × Option Nat) := dr h 8 (h.fr 1103 t0) (fun a14 => (J_X5_find N a14 h x1).bind (fun z => B_X8_seen_8 N t0 z.1 x1 z.2))
theorem mb_X8_seen_0 (N : Nat) (t0 : Nat) (h : Hp) (x1 : Int32) (hJ : B_X8_seen_0 N t0 h x1 = some (hz, rz)) : Mo h hz := by
  unfold B_X8_seen_0 at hJ
  obtain ⟨a14, ea14, -, hJ⟩ := dr_some hJ
  obtain ⟨⟨h15, r16⟩, e17, hJ⟩ := ob_some hJ
  exact (mo_X5_find N a14 h x1 e17).tr (mb_X8_seen_8 N t0 _ _ _ hJ)
set_option maxRecDepth 100000 in
set_option maxHeartbeats 4000000 in
theorem sb_X8_seen_0 (C : Cx p s m args meth c cX8_seen 3 (some (.object "RingKeeper$Entry")) RX8 D cs A h0.se) (hz2 : hz.nx ≤ h0.nx + mc ∧ hz.su ≤ h0.su + ms) (N : Nat) (t0 : Nat) (h : Hp) (x1 : Int32) (hJ : B_X8_seen_0 N t0 h x1 = some (hz, rz)) (hk0 : h.kd t0 = 11) {H : Heap} {locs : List Loc} {cells slots : Nat} (w : Wo D cs A s h0 h H locs cells slots) {ls : Array Slot} (hl : lv_has ls 3 [(0, .ref t0), (1, .int x1)]) : W p l e { frames := 5, cells := mc, slots := ms, locals := 150 } s m args below meth c H locs cells slots (MQ below (Zq D cs A hz rz) args s mc ms A) (F0 m 0 ls []) := by
  obtain ⟨hx, hb, hml, hown, hts, -⟩ := id C
  unfold B_X8_seen_0 at hJ
  refine lv_aload_n hx hb dX8_seen_0 rfl (lv_at hl 0 rfl) ?_
  refine fg_1103 C w hk0 tw_1_200 dX8_seen_1 ?_
  refine lv_iload_n hx hb dX8_seen_4 rfl (lv_at hl 1 rfl) ?_
  obtain ⟨a14, ea14, hka14, hJ⟩ := dr_some hJ
  rw [ea14]
  obtain ⟨⟨h15, r16⟩, e17, hJ⟩ := ob_some hJ
  refine jc_Vq (As := [.int x1]) C w (cc_X5_find N a14 h x1 hka14 e17) (mo_X5_find N a14 h x1 e17) (mb_X8_seen_8 N t0 _ _ _ hJ) hz2 hka14 (by decide) rfl (fs := fs8 h a14) rfl rfl ⟨tw_2_202, tw_3_99, tw_2_200, tw_2_201, tw_1_2⟩ cd_X5_find ⟨by decide, by decide⟩ hl.1 (by first | exact Nat.le_of_ble_eq_true rfl | simp [rf_cat, cat_i, cat_l, cat_r]) rfl dX8_seen_5 (fun H locs w1 => ?_)
  have hk18 := kd_keep w (mo_X5_find N a14 h x1 e17) hk0 (by decide)
  have w := w1
  exact sb_X8_seen_8 C hz2 N t0 _ _ _ hJ hk18 w hl
def J_X8_seen (N : Nat) (t0 : Nat) (h : Hp) (x1 : Int32) : Option (Hp × Option Nat) := B_X8_seen_0 N t0 h x1
theorem mo_X8_seen (N : Nat) (t0 : Nat) (h : Hp) (x1 : Int32) (hJ : J_X8_seen N t0 h x1 = some (hz, rz)) : Mo h hz := mb_X8_seen_0 N t0 h x1 hJ
theorem cd_X8_seen : Cd yX8_seen 1 := ⟨by decide +kernel, by decide +kernel, by decide +kernel⟩
theorem cc_X8_seen (N : Nat) (t0 : Nat) (h : Hp) (x1 : Int32) (hk0 : h.kd t0 = 11) (hJ : J_X8_seen N t0 h x1 = some (hz, rz)) : Cq l yX8_seen cX8_seen 3 (some (.object "RingKeeper$Entry")) 5 150 D cs h hz [.ref t0, .int x1] rz := by
  intro mc ms g1 g2
  refine je_any (by decide) (by simp [lg_sl, rf_cat, cat_i, cat_l, cat_r]) ?_
  intro p e s m args below meth c C hin2 w ls hl
  have hl : lv_has ls 3 [(0, .ref t0), (1, .int x1)] := hl
  exact sb_X8_seen_0 C ⟨g1, g2⟩ N t0 h x1 hJ hk0 w hl
end G_X8_seen
section G_X8_answerRead
variable {p : Program} {l : Launch} {e : Env} {s : State} {m : MethodId} {args : Array Value} {below : List Frame} {meth : Method} {c : Code} {D : va_G} {cs : C4} {A : Nat → Prop} {h0 hz : Hp} {mc ms : Nat}
def B_X8_answerRead_43 (N : Nat) (t0 : Nat) (h : Hp) : Option (Hp × Unit) := some (h, ())
theorem mb_X8_answerRead_43 (N : Nat) (t0 : Nat) (h : Hp) (hJ : B_X8_answerRead_43 N t0 h = some (hz, ())) : Mo h hz := by
  unfold B_X8_answerRead_43 at hJ
  obtain ⟨rfl, -⟩ := rs2 hJ
  exact ⟨fun _ _ => rfl, Nat.le_refl _, Nat.le_refl _, rfl, fun _ _ => rfl⟩
set_option maxRecDepth 100000 in
set_option maxHeartbeats 4000000 in
theorem sb_X8_answerRead_43 (C : Cx p s m args meth c cX8_answerRead 4 none RX8 D cs A h0.se) (hz2 : hz.nx ≤ h0.nx + mc ∧ hz.su ≤ h0.su + ms) (N : Nat) (t0 : Nat) (h : Hp) (hJ : B_X8_answerRead_43 N t0 h = some (hz, ())) (hk0 : h.kd t0 = 11) {H : Heap} {locs : List Loc} {cells slots : Nat} (w : Wo D cs A s h0 h H locs cells slots) {ls : Array Slot} (hl : lv_has ls 4 [(0, .ref t0)]) : W p l e { frames := 6, cells := mc, slots := ms, locals := 180 } s m args below meth c H locs cells slots (MQ below (Zv D cs A hz) args s mc ms A) (F0 m 43 ls []) := by
  obtain ⟨hx, hb, hml, hown, hts, -⟩ := id C
  unfold B_X8_answerRead_43 at hJ
  obtain ⟨rfl, -⟩ := rs2 hJ
  exact jr_vret C w hz2 dX8_answerRead_43
def B_X8_answerRead_34 (N : Nat) (t0 : Nat) (h : Hp) (x1 : Int32) (x2 : Option Nat) (y0 : Option Nat) : Option (Hp × Unit) := nl y0 (dr h 3 x2 (fun a2 => (J_X0_lookAt N a2 h x1 x1).bind (fun z => B_X8_answerRead_43 N t0 z.1))) (fun a1 => B_X8_answerRead_43 N t0 h)
theorem mb_X8_answerRead_34 (N : Nat) (t0 : Nat) (h : Hp) (x1 : Int32) (x2 : Option Nat) (y0 : Option Nat) (hJ : B_X8_answerRead_34 N t0 h x1 x2 y0 = some (hz, ())) : Mo h hz := by
  unfold B_X8_answerRead_34 at hJ
  cases ea1 : y0 with
  | none =>
    have hJ := nl_none ea1 hJ
    obtain ⟨a2, ea2, -, hJ⟩ := dr_some hJ
    obtain ⟨⟨h3, r4⟩, e5, hJ⟩ := ob_some hJ
    exact (mo_X0_lookAt N a2 h x1 x1 e5).tr (mb_X8_answerRead_43 N t0 _ hJ)
  | some a1 =>
    have hJ := nl_some ea1 hJ
    exact mb_X8_answerRead_43 N t0 _ hJ
set_option maxRecDepth 100000 in
set_option maxHeartbeats 4000000 in
theorem sb_X8_answerRead_34 (C : Cx p s m args meth c cX8_answerRead 4 none RX8 D cs A h0.se) (hz2 : hz.nx ≤ h0.nx + mc ∧ hz.su ≤ h0.su + ms) (N : Nat) (t0 : Nat) (h : Hp) (x1 : Int32) (x2 : Option Nat) (y0 : Option Nat) (hJ : B_X8_answerRead_34 N t0 h x1 x2 y0 = some (hz, ())) (hk0 : h.kd t0 = 11) {H : Heap} {locs : List Loc} {cells slots : Nat} (w : Wo D cs A s h0 h H locs cells slots) {ls : Array Slot} (hl : lv_has ls 4 [(0, .ref t0), (1, .int x1), (2, va_rf x2)]) : W p l e { frames := 6, cells := mc, slots := ms, locals := 180 } s m args below meth c H locs cells slots (MQ below (Zv D cs A hz) args s mc ms A) (F0 m 34 ls [va_rf y0]) := by
  obtain ⟨hx, hb, hml, hown, hts, -⟩ := id C
  unfold B_X8_answerRead_34 at hJ
  refine jv_ifnonnull (tgt := 43) hx hb dX8_answerRead_34 (by decide) (fun a1 ea1 => ?_) (fun ea1 => ?_)
  · have hJ := nl_some ea1 hJ
    exact sb_X8_answerRead_43 C hz2 N t0 _ hJ hk0 w (lv_sub (l' := [(0, .ref t0)]) hl [0] rfl)
  · have hJ := nl_none ea1 hJ
    refine jv_aload_n hx hb dX8_answerRead_37 rfl (lv_at hl 2 rfl) ?_
    refine lv_iload_n hx hb dX8_answerRead_38 rfl (lv_at hl 1 rfl) ?_
    refine lv_iload_n hx hb dX8_answerRead_39 rfl (lv_at hl 1 rfl) ?_
    obtain ⟨a2, ea2, hka2, hJ⟩ := dr_some hJ
    rw [ea2] at hl
    rw [ea2]
    obtain ⟨⟨h3, r4⟩, e5, hJ⟩ := ob_some hJ
    refine jc_Vv (As := [.int x1, .int x1]) C w (cc_X0_lookAt N a2 h x1 x1 hka2 e5) (mo_X0_lookAt N a2 h x1 x1 e5) (mb_X8_answerRead_43 N t0 _ hJ) hz2 hka2 (by decide) rfl (fs := fs3 h a2) rfl rfl ⟨tw_3_108, tw_3_105, tw_3_106, tw_3_107, tw_1_6⟩ cd_X0_lookAt ⟨by decide, by decide⟩ hl.1 (by first | exact Nat.le_of_ble_eq_true rfl | simp [rf_cat, cat_i, cat_l, cat_r]) rfl dX8_answerRead_40 (fun H locs w1 => ?_)
    have hk6 := kd_keep w (mo_X0_lookAt N a2 h x1 x1 e5) hk0 (by decide)
    have w := w1
    exact sb_X8_answerRead_43 C hz2 N t0 _ hJ hk6 w (lv_sub (l' := [(0, .ref t0)]) hl [0] rfl)
def B_X8_answerRead_26 (N : Nat) (t0 : Nat) (h : Hp) (x1 : Int32) (x2 : Option Nat) : Option (Hp × Unit) := dr h 8 (h.fr 1103 t0) (fun a7 => (J_X5_find N a7 h x1).bind (fun z => B_X8_answerRead_34 N t0 z.1 x1 x2 z.2))
theorem mb_X8_answerRead_26 (N : Nat) (t0 : Nat) (h : Hp) (x1 : Int32) (x2 : Option Nat) (hJ : B_X8_answerRead_26 N t0 h x1 x2 = some (hz, ())) : Mo h hz := by
  unfold B_X8_answerRead_26 at hJ
  obtain ⟨a7, ea7, -, hJ⟩ := dr_some hJ
  obtain ⟨⟨h8, r9⟩, e10, hJ⟩ := ob_some hJ
  exact (mo_X5_find N a7 h x1 e10).tr (mb_X8_answerRead_34 N t0 _ _ _ _ hJ)
set_option maxRecDepth 100000 in
set_option maxHeartbeats 4000000 in
theorem sb_X8_answerRead_26 (C : Cx p s m args meth c cX8_answerRead 4 none RX8 D cs A h0.se) (hz2 : hz.nx ≤ h0.nx + mc ∧ hz.su ≤ h0.su + ms) (N : Nat) (t0 : Nat) (h : Hp) (x1 : Int32) (x2 : Option Nat) (hJ : B_X8_answerRead_26 N t0 h x1 x2 = some (hz, ())) (hk0 : h.kd t0 = 11) {H : Heap} {locs : List Loc} {cells slots : Nat} (w : Wo D cs A s h0 h H locs cells slots) {ls : Array Slot} (hl : lv_has ls 4 [(0, .ref t0), (1, .int x1), (2, va_rf x2)]) : W p l e { frames := 6, cells := mc, slots := ms, locals := 180 } s m args below meth c H locs cells slots (MQ below (Zv D cs A hz) args s mc ms A) (F0 m 26 ls []) := by
  obtain ⟨hx, hb, hml, hown, hts, -⟩ := id C
  unfold B_X8_answerRead_26 at hJ
  refine lv_aload_n hx hb dX8_answerRead_26 rfl (lv_at hl 0 rfl) ?_
  refine fg_1103 C w hk0 tw_1_200 dX8_answerRead_27 ?_
  refine lv_iload_n hx hb dX8_answerRead_30 rfl (lv_at hl 1 rfl) ?_
  obtain ⟨a7, ea7, hka7, hJ⟩ := dr_some hJ
  rw [ea7]
  obtain ⟨⟨h8, r9⟩, e10, hJ⟩ := ob_some hJ
  refine jc_Vq (As := [.int x1]) C w (cc_X5_find N a7 h x1 hka7 e10) (mo_X5_find N a7 h x1 e10) (mb_X8_answerRead_34 N t0 _ _ _ _ hJ) hz2 hka7 (by decide) rfl (fs := fs8 h a7) rfl rfl ⟨tw_2_202, tw_3_99, tw_2_200, tw_2_201, tw_1_2⟩ cd_X5_find ⟨by decide, by decide⟩ hl.1 (by first | exact Nat.le_of_ble_eq_true rfl | simp [rf_cat, cat_i, cat_l, cat_r]) rfl dX8_answerRead_31 (fun H locs w1 => ?_)
  have hk11 := kd_keep w (mo_X5_find N a7 h x1 e10) hk0 (by decide)
  have w := w1
  exact sb_X8_answerRead_34 C hz2 N t0 _ _ _ _ hJ hk11 w hl
def B_X8_answerRead_5 (N : Nat) (t0 : Nat) (h : Hp) (x1 : Int32) (x2 : Option Nat) (y0 : Option Nat) : Option (Hp × Unit) := nl y0 (B_X8_answerRead_26 N t0 h x1 x2) (fun a12 => ck (h.kd a12 = 7) (if (h.fi 702 a12) = 0 then (B_X8_answerRead_26 N t0 h x1 x2) else (dr h 3 x2 (fun a15 => (J_X0_find N a15 h x1 (h.fl 703 a12)).bind (fun z => B_X8_answerRead_26 N t0 z.1 x1 (some a15))))))
theorem mb_X8_answerRead_5 (N : Nat) (t0 : Nat) (h : Hp) (x1 : Int32) (x2 : Option Nat) (y0 : Option Nat) (hJ : B_X8_answerRead_5 N t0 h x1 x2 y0 = some (hz, ())) : Mo h hz := by
  unfold B_X8_answerRead_5 at hJ
  cases ea12 : y0 with
  | none =>
    have hJ := nl_none ea12 hJ
    exact mb_X8_answerRead_26 N t0 _ _ _ hJ
  | some a12 =>
    have hJ := nl_some ea12 hJ
    obtain ⟨-, hJ⟩ := ck_some hJ
    by_cases c14 : (h.fi 702 a12) = 0
    · have hJ := it_pos c14 hJ
      exact mb_X8_answerRead_26 N t0 _ _ _ hJ
    · have hJ := it_neg c14 hJ
      obtain ⟨a15, ea15, -, hJ⟩ := dr_some hJ
      obtain ⟨⟨h16, r17⟩, e18, hJ⟩ := ob_some hJ
      exact (mo_X0_find N a15 h x1 (h.fl 703 a12) e18).tr (mb_X8_answerRead_26 N t0 _ _ _ hJ)
set_option maxRecDepth 100000 in
set_option maxHeartbeats 4000000 in
theorem sb_X8_answerRead_5 (C : Cx p s m args meth c cX8_answerRead 4 none RX8 D cs A h0.se) (hz2 : hz.nx ≤ h0.nx + mc ∧ hz.su ≤ h0.su + ms) (N : Nat) (t0 : Nat) (h : Hp) (x1 : Int32) (x2 : Option Nat) (y0 : Option Nat) (hJ : B_X8_answerRead_5 N t0 h x1 x2 y0 = some (hz, ())) (hk0 : h.kd t0 = 11) {H : Heap} {locs : List Loc} {cells slots : Nat} (w : Wo D cs A s h0 h H locs cells slots) {ls : Array Slot} (hl : lv_has ls 4 [(0, .ref t0), (1, .int x1), (2, va_rf x2)]) : W p l e { frames := 6, cells := mc, slots := ms, locals := 180 } s m args below meth c H locs cells slots (MQ below (Zv D cs A hz) args s mc ms A) (F0 m 5 ls [va_rf y0]) := by
  obtain ⟨hx, hb, hml, hown, hts, -⟩ := id C
  unfold B_X8_answerRead_5 at hJ
  refine jv_astore_n (i := 3) (lv' := [(3, va_rf y0), (0, .ref t0), (1, .int x1), (2, va_rf x2)]) hx hb dX8_answerRead_5 rfl hl (by decide) (by simp [List.filter, rf_cat, cat_i, cat_l, cat_r]) (fun ls hl => ?_)
  refine jv_aload_n hx hb dX8_answerRead_6 rfl (lv_at hl 0 rfl) ?_
  refine jv_ifnull (tgt := 26) hx hb dX8_answerRead_7 (by decide) (fun ea12 => ?_) (fun a12 ea12 => ?_)
  · have hJ := nl_none ea12 hJ
    exact sb_X8_answerRead_26 C hz2 N t0 _ _ _ hJ hk0 w (lv_sub (l' := [(0, .ref t0), (1, .int x1), (2, va_rf x2)]) hl [1, 2, 3] rfl)
  · have hJ := nl_some ea12 hJ
    rw [ea12] at hl
    refine lv_aload_n hx hb dX8_answerRead_10 rfl (lv_at hl 0 rfl) ?_
    obtain ⟨hk13, hJ⟩ := ck_some hJ
    refine fg_702 C w hk13 tw_5_22 dX8_answerRead_11 ?_
    refine lv_if_eq (tgt := 26) hx hb dX8_answerRead_14 (by decide) (fun c14 => ?_) (fun c14 => ?_)
    · have hJ := it_pos c14 hJ
      exact sb_X8_answerRead_26 C hz2 N t0 _ _ _ hJ hk0 w (lv_sub (l' := [(0, .ref t0), (1, .int x1), (2, va_rf x2)]) hl [1, 2, 3] rfl)
    · have hJ := it_neg c14 hJ
      refine jv_aload_n hx hb dX8_answerRead_17 rfl (lv_at hl 3 rfl) ?_
      refine lv_iload_n hx hb dX8_answerRead_18 rfl (lv_at hl 2 rfl) ?_
      refine lv_aload_n hx hb dX8_answerRead_19 rfl (lv_at hl 0 rfl) ?_
      refine fg_703 C w hk13 tw_5_26 dX8_answerRead_20 ?_
      obtain ⟨a15, ea15, hka15, hJ⟩ := dr_some hJ
      rw [ea15] at hl
      rw [ea15]
      obtain ⟨⟨h16, r17⟩, e18, hJ⟩ := ob_some hJ
      refine jc_Vv (As := [.int x1, .long (h.fl 703 a12)]) C w (cc_X0_find N a15 h x1 (h.fl 703 a12) hka15 e18) (mo_X0_find N a15 h x1 (h.fl 703 a12) e18) (mb_X8_answerRead_26 N t0 _ _ _ hJ) hz2 hka15 (by decide) rfl (fs := fs3 h a15) rfl rfl ⟨tw_3_104, tw_3_101, tw_3_102, tw_3_103, tw_1_6⟩ cd_X0_find ⟨by decide, by decide⟩ hl.1 (by first | exact Nat.le_of_ble_eq_true rfl | simp [rf_cat, cat_i, cat_l, cat_r]) rfl dX8_answerRead_23 (fun H locs w1 => ?_)
      have hk19 := kd_keep w (mo_X0_find N a15 h x1 (h.fl 703 a12) e18) hk0 (by decide)
      have w := w1
      exact sb_X8_answerRead_26 C hz2 N t0 _ _ _ hJ hk19 w (lv_sub (l' := [(0, .ref t0), (1, .int x1), (2, .ref a15)]) hl [1, 2, 3] rfl)
def B_X8_answerRead_0 (N : Nat) (t0 : Nat) (h : Hp) (x1 : Int32) (x2 : Option Nat) : Option (Hp × Unit) := (J_X8_seen N t0 h x1).bind (fun z => B_X8_answerRead_5 N t0 z.1 x1 x2 z.2)
theorem mb_X8_answerRead_0 (N : Nat) (t0 : Nat) (h : Hp) (x1 : Int32) (x2 : Option Nat) (hJ : B_X8_answerRead_0 N t0 h x1 x2 = some (hz, ())) : Mo h hz := by
  unfold B_X8_answerRead_0 at hJ
  obtain ⟨⟨h20, r21⟩, e22, hJ⟩ := ob_some hJ
  exact (mo_X8_seen N t0 h x1 e22).tr (mb_X8_answerRead_5 N t0 _ _ _ _ hJ)
set_option maxRecDepth 100000 in
set_option maxHeartbeats 4000000 in
theorem sb_X8_answerRead_0 (C : Cx p s m args meth c cX8_answerRead 4 none RX8 D cs A h0.se) (hz2 : hz.nx ≤ h0.nx + mc ∧ hz.su ≤ h0.su + ms) (N : Nat) (t0 : Nat) (h : Hp) (x1 : Int32) (x2 : Option Nat) (hJ : B_X8_answerRead_0 N t0 h x1 x2 = some (hz, ())) (hk0 : h.kd t0 = 11) {H : Heap} {locs : List Loc} {cells slots : Nat} (w : Wo D cs A s h0 h H locs cells slots) {ls : Array Slot} (hl : lv_has ls 4 [(0, .ref t0), (1, .int x1), (2, va_rf x2)]) : W p l e { frames := 6, cells := mc, slots := ms, locals := 180 } s m args below meth c H locs cells slots (MQ below (Zv D cs A hz) args s mc ms A) (F0 m 0 ls []) := by
  obtain ⟨hx, hb, hml, hown, hts, -⟩ := id C
  unfold B_X8_answerRead_0 at hJ
  refine lv_aload_n hx hb dX8_answerRead_0 rfl (lv_at hl 0 rfl) ?_
  refine lv_iload_n hx hb dX8_answerRead_1 rfl (lv_at hl 1 rfl) ?_
  obtain ⟨⟨h20, r21⟩, e22, hJ⟩ := ob_some hJ
  refine jc_Vq (As := [.int x1]) C w (cc_X8_seen N t0 h x1 hk0 e22) (mo_X8_seen N t0 h x1 e22) (mb_X8_answerRead_5 N t0 _ _ _ _ hJ) hz2 hk0 (by decide) rfl (fs := fs11 h t0) rfl rfl ⟨tw_3_98, tw_3_95, tw_3_96, tw_3_97, tw_1_8⟩ cd_X8_seen ⟨by decide, by decide⟩ hl.1 (by first | exact Nat.le_of_ble_eq_true rfl | simp [rf_cat, cat_i, cat_l, cat_r]) rfl dX8_answerRead_2 (fun H locs w1 => ?_)
  have hk23 := kd_keep w (mo_X8_seen N t0 h x1 e22) hk0 (by decide)
  have w := w1
  exact sb_X8_answerRead_5 C hz2 N t0 _ _ _ _ hJ hk23 w hl
def J_X8_answerRead (N : Nat) (t0 : Nat) (h : Hp) (x1 : Int32) (x2 : Option Nat) : Option (Hp × Unit) := B_X8_answerRead_0 N t0 h x1 x2
theorem mo_X8_answerRead (N : Nat) (t0 : Nat) (h : Hp) (x1 : Int32) (x2 : Option Nat) (hJ : J_X8_answerRead N t0 h x1 x2 = some (hz, ())) : Mo h hz := mb_X8_answerRead_0 N t0 h x1 x2 hJ
theorem cd_X8_answerRead : Cd yX8_answerRead 2 := ⟨by decide +kernel, by decide +kernel, by decide +kernel⟩
theorem cc_X8_answerRead (N : Nat) (t0 : Nat) (h : Hp) (x1 : Int32) (x2 : Option Nat) (hk0 : h.kd t0 = 11) (hJ : J_X8_answerRead N t0 h x1 x2 = some (hz, ())) : Cv l yX8_answerRead cX8_answerRead 4 none 6 180 D cs h hz [.ref t0, .int x1, va_rf x2] := by
  intro mc ms g1 g2
  refine je_any (by decide) (by simp [lg_sl, rf_cat, cat_i, cat_l, cat_r]) ?_
  intro p e s m args below meth c C hin2 w ls hl
  have hl : lv_has ls 4 [(0, .ref t0), (1, .int x1), (2, va_rf x2)] := by simpa [lv_args, rf_cat, cat_i, cat_l, cat_r] using hl
  exact sb_X8_answerRead_0 C ⟨g1, g2⟩ N t0 h x1 x2 hJ hk0 w hl
end G_X8_answerRead
section G_X8_nearest
variable {p : Program} {l : Launch} {e : Env} {s : State} {m : MethodId} {args : Array Value} {below : List Frame} {meth : Method} {c : Code} {D : va_G} {cs : C4} {A : Nat → Prop} {h0 hz : Hp} {mc ms : Nat} {rz : Int64}
def B_X8_nearest_170 (N : Nat) (t0 : Nat) (h : Hp) : Option (Hp × Int64) := some (h, (-9223372036854775808 : Int64))
theorem mb_X8_nearest_170 (N : Nat) (t0 : Nat) (h : Hp) (hJ : B_X8_nearest_170 N t0 h = some (hz, rz)) : Mo h hz := by
  unfold B_X8_nearest_170 at hJ
  obtain ⟨rfl, -⟩ := rs2 hJ
  exact ⟨fun _ _ => rfl, Nat.le_refl _, Nat.le_refl _, rfl, fun _ _ => rfl⟩
set_option maxRecDepth 100000 in
set_option maxHeartbeats 4000000 in
theorem sb_X8_nearest_170 (C : Cx p s m args meth c cX8_nearest 15 (some .long) RX8 D cs A h0.se) (hz2 : hz.nx ≤ h0.nx + mc ∧ hz.su ≤ h0.su + ms) (N : Nat) (t0 : Nat) (h : Hp) (hJ : B_X8_nearest_170 N t0 h = some (hz, rz)) (hk0 : h.kd t0 = 11) {H : Heap} {locs : List Loc} {cells slots : Nat} (w : Wo D cs A s h0 h H locs cells slots) {ls : Array Slot} (hl : lv_has ls 15 [(0, .ref t0)]) : W p l e { frames := 5, cells := mc, slots := ms, locals := 150 } s m args below meth c H locs cells slots (MQ below (Zl D cs A hz rz) args s mc ms A) (F0 m 170 ls []) := by
  obtain ⟨hx, hb, hml, hown, hts, -⟩ := id C
  unfold B_X8_nearest_170 at hJ
  refine lv_ldc2 (v := (-9223372036854775808 : Int64)) hx hb hown (hts _ tw_3_124) dX8_nearest_170 ?_
  obtain ⟨rfl, rfl⟩ := rs2 hJ
  exact jr_lret C w hz2 dX8_nearest_173
def B_X8_nearest_242 (N : Nat) (k23 : Hp → Int64 → Int32 → Int64 → Int32 → Int32 → Option (Hp × Int64)) (t0 : Nat) (h : Hp) (x3 : Int64) (x5 : Int32) (x8 : Int32) (x9 : Int32) (y0 : Int64) : Option (Hp × Int64) := k23 h x3 x5 y0 x8 (x9 + (1 : Int32))
theorem mb_X8_nearest_242 (N : Nat) (k23 : Hp → Int64 → Int32 → Int64 → Int32 → Int32 → Option (Hp × Int64)) (t0 : Nat) (h : Hp) (x3 : Int64) (x5 : Int32) (x8 : Int32) (x9 : Int32) (y0 : Int64) (m23 : ∀ (h : Hp) (x3 : Int64) (x5 : Int32) (x6 : Int64) (x8 : Int32) (x9 : Int32), k23 h x3 x5 x6 x8 x9 = some (hz, rz) → Mo h hz) (hJ : B_X8_nearest_242 N k23 t0 h x3 x5 x8 x9 y0 = some (hz, rz)) : Mo h hz := by
  unfold B_X8_nearest_242 at hJ
  exact m23 _ _ _ _ _ _ hJ
set_option maxRecDepth 100000 in
set_option maxHeartbeats 4000000 in
theorem sb_X8_nearest_242 (C : Cx p s m args meth c cX8_nearest 15 (some .long) RX8 D cs A h0.se) (hz2 : hz.nx ≤ h0.nx + mc ∧ hz.su ≤ h0.su + ms) (N : Nat) (k23 : Hp → Int64 → Int32 → Int64 → Int32 → Int32 → Option (Hp × Int64)) (t0 : Nat) (m23 : ∀ (h : Hp) (x3 : Int64) (x5 : Int32) (x6 : Int64) (x8 : Int32) (x9 : Int32), k23 h x3 x5 x6 x8 x9 = some (hz, rz) → Mo h hz) (i23 : ∀ (h : Hp) (x3 : Int64) (x5 : Int32) (x6 : Int64) (x8 : Int32) (x9 : Int32) (H : Heap) (locs : List Loc) (cells slots : Nat) (ls : Array Slot), k23 h x3 x5 x6 x8 x9 = some (hz, rz) → h.kd t0 = 11 → Wo D cs A s h0 h H locs cells slots → lv_has ls 15 [(0, .ref t0), (3, .long x3), (5, .int x5), (6, .long x6), (8, .int x8), (9, .int x9)] → W p l e { frames := 5, cells := mc, slots := ms, locals := 150 } s m args below meth c H locs cells slots (MQ below (Zl D cs A hz rz) args s mc ms A) (F0 m 23 ls [])) (h : Hp) (x3 : Int64) (x5 : Int32) (x8 : Int32) (x9 : Int32) (y0 : Int64) (hJ : B_X8_nearest_242 N k23 t0 h x3 x5 x8 x9 y0 = some (hz, rz)) (hk0 : h.kd t0 = 11) {H : Heap} {locs : List Loc} {cells slots : Nat} (w : Wo D cs A s h0 h H locs cells slots) {ls : Array Slot} (hl : lv_has ls 15 [(0, .ref t0), (3, .long x3), (5, .int x5), (8, .int x8), (9, .int x9)]) : W p l e { frames := 5, cells := mc, slots := ms, locals := 150 } s m args below meth c H locs cells slots (MQ below (Zl D cs A hz rz) args s mc ms A) (F0 m 242 ls [.long y0]) := by
  obtain ⟨hx, hb, hml, hown, hts, -⟩ := id C
  unfold B_X8_nearest_242 at hJ
  refine lv_lstore (i := 6) (lv' := [(6, .long y0), (0, .ref t0), (3, .long x3), (5, .int x5), (8, .int x8), (9, .int x9)]) hx hb dX8_nearest_242 hl (by decide) rfl (fun ls hl => ?_)
  refine lv_iinc (v := x9 + (1 : Int32)) (lv' := [(9, .int (x9 + (1 : Int32))), (6, .long y0), (0, .ref t0), (3, .long x3), (5, .int x5), (8, .int x8)]) hx hb dX8_nearest_244 hl (k := 5) rfl rfl (by decide) rfl (fun ls hl => ?_)
  refine lv_goto (tgt := 23) hx hb dX8_nearest_247 (by decide) ?_
  exact i23 _ _ _ _ _ _ _ _ _ _ _ hJ hk0 w (lv_sub (l' := [(0, .ref t0), (3, .long x3), (5, .int x5), (6, .long y0), (8, .int x8), (9, .int (x9 + (1 : Int32)))]) hl [2, 3, 4, 1, 5, 0] rfl)
def B_X8_nearest_218 (N : Nat) (k23 : Hp → Int64 → Int32 → Int64 → Int32 → Int32 → Option (Hp × Int64)) (t0 : Nat) (h : Hp) (x3 : Int64) (x5 : Int32) (x8 : Int32) (x9 : Int32) (x13 : Option Nat) : Option (Hp × Int64) := if x5 = 0 then (dr h 6 x13 (fun a2 => B_X8_nearest_242 N k23 t0 h x3 x5 x8 x9 (((h.fi 600 a2).toInt64) - (1 : Int64)))) else (dr h 6 x13 (fun a3 => B_X8_nearest_242 N k23 t0 h x3 x5 x8 x9 (((h.fi 600 a3).toInt64) + (1 : Int64))))
theorem mb_X8_nearest_218 (N : Nat) (k23 : Hp → Int64 → Int32 → Int64 → Int32 → Int32 → Option (Hp × Int64)) (t0 : Nat) (h : Hp) (x3 : Int64) (x5 : Int32) (x8 : Int32) (x9 : Int32) (x13 : Option Nat) (m23 : ∀ (h : Hp) (x3 : Int64) (x5 : Int32) (x6 : Int64) (x8 : Int32) (x9 : Int32), k23 h x3 x5 x6 x8 x9 = some (hz, rz) → Mo h hz) (hJ : B_X8_nearest_218 N k23 t0 h x3 x5 x8 x9 x13 = some (hz, rz)) : Mo h hz := by
  unfold B_X8_nearest_218 at hJ
  by_cases c1 : x5 = 0
  · have hJ := it_pos c1 hJ
    obtain ⟨a2, ea2, -, hJ⟩ := dr_some hJ
    exact mb_X8_nearest_242 N k23 t0 _ _ _ _ _ _ m23 hJ
  · have hJ := it_neg c1 hJ
    obtain ⟨a3, ea3, -, hJ⟩ := dr_some hJ
    exact mb_X8_nearest_242 N k23 t0 _ _ _ _ _ _ m23 hJ
set_option maxRecDepth 100000 in
set_option maxHeartbeats 4000000 in
theorem sb_X8_nearest_218 (C : Cx p s m args meth c cX8_nearest 15 (some .long) RX8 D cs A h0.se) (hz2 : hz.nx ≤ h0.nx + mc ∧ hz.su ≤ h0.su + ms) (N : Nat) (k23 : Hp → Int64 → Int32 → Int64 → Int32 → Int32 → Option (Hp × Int64)) (t0 : Nat) (m23 : ∀ (h : Hp) (x3 : Int64) (x5 : Int32) (x6 : Int64) (x8 : Int32) (x9 : Int32), k23 h x3 x5 x6 x8 x9 = some (hz, rz) → Mo h hz) (i23 : ∀ (h : Hp) (x3 : Int64) (x5 : Int32) (x6 : Int64) (x8 : Int32) (x9 : Int32) (H : Heap) (locs : List Loc) (cells slots : Nat) (ls : Array Slot), k23 h x3 x5 x6 x8 x9 = some (hz, rz) → h.kd t0 = 11 → Wo D cs A s h0 h H locs cells slots → lv_has ls 15 [(0, .ref t0), (3, .long x3), (5, .int x5), (6, .long x6), (8, .int x8), (9, .int x9)] → W p l e { frames := 5, cells := mc, slots := ms, locals := 150 } s m args below meth c H locs cells slots (MQ below (Zl D cs A hz rz) args s mc ms A) (F0 m 23 ls [])) (h : Hp) (x3 : Int64) (x5 : Int32) (x8 : Int32) (x9 : Int32) (x13 : Option Nat) (hJ : B_X8_nearest_218 N k23 t0 h x3 x5 x8 x9 x13 = some (hz, rz)) (hk0 : h.kd t0 = 11) {H : Heap} {locs : List Loc} {cells slots : Nat} (w : Wo D cs A s h0 h H locs cells slots) {ls : Array Slot} (hl : lv_has ls 15 [(0, .ref t0), (3, .long x3), (5, .int x5), (8, .int x8), (9, .int x9), (13, va_rf x13)]) : W p l e { frames := 5, cells := mc, slots := ms, locals := 150 } s m args below meth c H locs cells slots (MQ below (Zl D cs A hz rz) args s mc ms A) (F0 m 218 ls []) := by
  obtain ⟨hx, hb, hml, hown, hts, -⟩ := id C
  unfold B_X8_nearest_218 at hJ
  refine lv_iload hx hb dX8_nearest_218 (lv_at hl 2 rfl) ?_
  refine lv_if_eq (tgt := 234) hx hb dX8_nearest_220 (by decide) (fun c1 => ?_) (fun c1 => ?_)
  · have hJ := it_pos c1 hJ
    refine jv_aload hx hb dX8_nearest_234 (lv_at hl 5 rfl) ?_
    obtain ⟨a2, ea2, hka2, hJ⟩ := dr_some hJ
    rw [ea2] at hl
    rw [ea2]
    refine fg_600 C w hka2 tw_3_150 dX8_nearest_236 ?_
    refine lv_i2l hx hb dX8_nearest_239 rfl ?_
    refine lv_lconst (v := (1 : Int64)) hx hb dX8_nearest_240 (by decide) ?_
    refine lv_lsub hx hb dX8_nearest_241 ?_
    exact sb_X8_nearest_242 C hz2 N k23 t0 m23 i23 _ _ _ _ _ _ hJ hk0 w (lv_sub (l' := [(0, .ref t0), (3, .long x3), (5, .int x5), (8, .int x8), (9, .int x9)]) hl [0, 1, 2, 3, 4] rfl)
  · have hJ := it_neg c1 hJ
    refine jv_aload hx hb dX8_nearest_223 (lv_at hl 5 rfl) ?_
    obtain ⟨a3, ea3, hka3, hJ⟩ := dr_some hJ
    rw [ea3] at hl
    rw [ea3]
    refine fg_600 C w hka3 tw_3_150 dX8_nearest_225 ?_
    refine lv_i2l hx hb dX8_nearest_228 rfl ?_
    refine lv_lconst (v := (1 : Int64)) hx hb dX8_nearest_229 (by decide) ?_
    refine lv_ladd hx hb dX8_nearest_230 ?_
    refine lv_goto (tgt := 242) hx hb dX8_nearest_231 (by decide) ?_
    exact sb_X8_nearest_242 C hz2 N k23 t0 m23 i23 _ _ _ _ _ _ hJ hk0 w (lv_sub (l' := [(0, .ref t0), (3, .long x3), (5, .int x5), (8, .int x8), (9, .int x9)]) hl [0, 1, 2, 3, 4] rfl)
def B_X8_nearest_196 (N : Nat) (k23 : Hp → Int64 → Int32 → Int64 → Int32 → Int32 → Option (Hp × Int64)) (t0 : Nat) (h : Hp) (x3 : Int64) (x5 : Int32) (x8 : Int32) (x9 : Int32) (x13 : Option Nat) (y0 : Option Nat) : Option (Hp × Int64) := nl y0 (B_X8_nearest_218 N k23 t0 h x3 x5 x8 x9 x13) (fun a4 => ck (h.kd a4 = 7) (if (h.fi 702 a4) = 0 then (B_X8_nearest_218 N k23 t0 h x3 x5 x8 x9 x13) else (dr h 6 x13 (fun a7 => some (h, (h.fi 600 a7).toInt64)))))
theorem mb_X8_nearest_196 (N : Nat) (k23 : Hp → Int64 → Int32 → Int64 → Int32 → Int32 → Option (Hp × Int64)) (t0 : Nat) (h : Hp) (x3 : Int64) (x5 : Int32) (x8 : Int32) (x9 : Int32) (x13 : Option Nat) (y0 : Option Nat) (m23 : ∀ (h : Hp) (x3 : Int64) (x5 : Int32) (x6 : Int64) (x8 : Int32) (x9 : Int32), k23 h x3 x5 x6 x8 x9 = some (hz, rz) → Mo h hz) (hJ : B_X8_nearest_196 N k23 t0 h x3 x5 x8 x9 x13 y0 = some (hz, rz)) : Mo h hz := by
  unfold B_X8_nearest_196 at hJ
  cases ea4 : y0 with
  | none =>
    have hJ := nl_none ea4 hJ
    exact mb_X8_nearest_218 N k23 t0 _ _ _ _ _ _ m23 hJ
  | some a4 =>
    have hJ := nl_some ea4 hJ
    obtain ⟨-, hJ⟩ := ck_some hJ
    by_cases c6 : (h.fi 702 a4) = 0
    · have hJ := it_pos c6 hJ
      exact mb_X8_nearest_218 N k23 t0 _ _ _ _ _ _ m23 hJ
    · have hJ := it_neg c6 hJ
      obtain ⟨a7, ea7, -, hJ⟩ := dr_some hJ
      obtain ⟨rfl, -⟩ := rs2 hJ
      exact ⟨fun _ _ => rfl, Nat.le_refl _, Nat.le_refl _, rfl, fun _ _ => rfl⟩
set_option maxRecDepth 100000 in
set_option maxHeartbeats 4000000 in
theorem sb_X8_nearest_196 (C : Cx p s m args meth c cX8_nearest 15 (some .long) RX8 D cs A h0.se) (hz2 : hz.nx ≤ h0.nx + mc ∧ hz.su ≤ h0.su + ms) (N : Nat) (k23 : Hp → Int64 → Int32 → Int64 → Int32 → Int32 → Option (Hp × Int64)) (t0 : Nat) (m23 : ∀ (h : Hp) (x3 : Int64) (x5 : Int32) (x6 : Int64) (x8 : Int32) (x9 : Int32), k23 h x3 x5 x6 x8 x9 = some (hz, rz) → Mo h hz) (i23 : ∀ (h : Hp) (x3 : Int64) (x5 : Int32) (x6 : Int64) (x8 : Int32) (x9 : Int32) (H : Heap) (locs : List Loc) (cells slots : Nat) (ls : Array Slot), k23 h x3 x5 x6 x8 x9 = some (hz, rz) → h.kd t0 = 11 → Wo D cs A s h0 h H locs cells slots → lv_has ls 15 [(0, .ref t0), (3, .long x3), (5, .int x5), (6, .long x6), (8, .int x8), (9, .int x9)] → W p l e { frames := 5, cells := mc, slots := ms, locals := 150 } s m args below meth c H locs cells slots (MQ below (Zl D cs A hz rz) args s mc ms A) (F0 m 23 ls [])) (h : Hp) (x3 : Int64) (x5 : Int32) (x8 : Int32) (x9 : Int32) (x13 : Option Nat) (y0 : Option Nat) (hJ : B_X8_nearest_196 N k23 t0 h x3 x5 x8 x9 x13 y0 = some (hz, rz)) (hk0 : h.kd t0 = 11) {H : Heap} {locs : List Loc} {cells slots : Nat} (w : Wo D cs A s h0 h H locs cells slots) {ls : Array Slot} (hl : lv_has ls 15 [(0, .ref t0), (3, .long x3), (5, .int x5), (8, .int x8), (9, .int x9), (13, va_rf x13)]) : W p l e { frames := 5, cells := mc, slots := ms, locals := 150 } s m args below meth c H locs cells slots (MQ below (Zl D cs A hz rz) args s mc ms A) (F0 m 196 ls [va_rf y0]) := by
  obtain ⟨hx, hb, hml, hown, hts, -⟩ := id C
  unfold B_X8_nearest_196 at hJ
  refine jv_astore (i := 14) (lv' := [(14, va_rf y0), (0, .ref t0), (3, .long x3), (5, .int x5), (8, .int x8), (9, .int x9), (13, va_rf x13)]) hx hb dX8_nearest_196 hl (by decide) (by simp [List.filter, rf_cat, cat_i, cat_l, cat_r]) (fun ls hl => ?_)
  refine jv_aload hx hb dX8_nearest_198 (lv_at hl 0 rfl) ?_
  refine jv_ifnull (tgt := 218) hx hb dX8_nearest_200 (by decide) (fun ea4 => ?_) (fun a4 ea4 => ?_)
  · have hJ := nl_none ea4 hJ
    exact sb_X8_nearest_218 C hz2 N k23 t0 m23 i23 _ _ _ _ _ _ hJ hk0 w (lv_sub (l' := [(0, .ref t0), (3, .long x3), (5, .int x5), (8, .int x8), (9, .int x9), (13, va_rf x13)]) hl [1, 2, 3, 4, 5, 6] rfl)
  · have hJ := nl_some ea4 hJ
    rw [ea4] at hl
    refine lv_aload hx hb dX8_nearest_203 (lv_at hl 0 rfl) ?_
    obtain ⟨hk5, hJ⟩ := ck_some hJ
    refine fg_702 C w hk5 tw_5_22 dX8_nearest_205 ?_
    refine lv_if_eq (tgt := 218) hx hb dX8_nearest_208 (by decide) (fun c6 => ?_) (fun c6 => ?_)
    · have hJ := it_pos c6 hJ
      exact sb_X8_nearest_218 C hz2 N k23 t0 m23 i23 _ _ _ _ _ _ hJ hk0 w (lv_sub (l' := [(0, .ref t0), (3, .long x3), (5, .int x5), (8, .int x8), (9, .int x9), (13, va_rf x13)]) hl [1, 2, 3, 4, 5, 6] rfl)
    · have hJ := it_neg c6 hJ
      refine jv_aload hx hb dX8_nearest_211 (lv_at hl 6 rfl) ?_
      obtain ⟨a7, ea7, hka7, hJ⟩ := dr_some hJ
      rw [ea7] at hl
      rw [ea7]
      refine fg_600 C w hka7 tw_3_150 dX8_nearest_213 ?_
      refine lv_i2l hx hb dX8_nearest_216 rfl ?_
      obtain ⟨rfl, rfl⟩ := rs2 hJ
      exact jr_lret C w hz2 dX8_nearest_217
def B_X8_nearest_174 (N : Nat) (k23 : Hp → Int64 → Int32 → Int64 → Int32 → Int32 → Option (Hp × Int64)) (t0 : Nat) (h : Hp) (x3 : Int64) (x5 : Int32) (x8 : Int32) (x9 : Int32) (x12 : Int32) (x13 : Option Nat) : Option (Hp × Int64) := if x12 = 0 then (dr h 6 x13 (fun a9 => (J_X3_upTo N a9 h (h.fi 1101 t0)).bind (fun z => B_X8_nearest_196 N k23 t0 z.1 x3 x5 x8 x9 (some a9) z.2))) else (dr h 6 x13 (fun a14 => B_X8_nearest_196 N k23 t0 h x3 x5 x8 x9 (some a14) (h.fr 601 a14)))
theorem mb_X8_nearest_174 (N : Nat) (k23 : Hp → Int64 → Int32 → Int64 → Int32 → Int32 → Option (Hp × Int64)) (t0 : Nat) (h : Hp) (x3 : Int64) (x5 : Int32) (x8 : Int32) (x9 : Int32) (x12 : Int32) (x13 : Option Nat) (m23 : ∀ (h : Hp) (x3 : Int64) (x5 : Int32) (x6 : Int64) (x8 : Int32) (x9 : Int32), k23 h x3 x5 x6 x8 x9 = some (hz, rz) → Mo h hz) (hJ : B_X8_nearest_174 N k23 t0 h x3 x5 x8 x9 x12 x13 = some (hz, rz)) : Mo h hz := by
  unfold B_X8_nearest_174 at hJ
  by_cases c8 : x12 = 0
  · have hJ := it_pos c8 hJ
    obtain ⟨a9, ea9, -, hJ⟩ := dr_some hJ
    obtain ⟨⟨h10, r11⟩, e12, hJ⟩ := ob_some hJ
    exact (mo_X3_upTo N a9 h (h.fi 1101 t0) e12).tr (mb_X8_nearest_196 N k23 t0 _ _ _ _ _ _ _ m23 hJ)
  · have hJ := it_neg c8 hJ
    obtain ⟨a14, ea14, -, hJ⟩ := dr_some hJ
    exact mb_X8_nearest_196 N k23 t0 _ _ _ _ _ _ _ m23 hJ
set_option maxRecDepth 100000 in
set_option maxHeartbeats 4000000 in
theorem sb_X8_nearest_174 (C : Cx p s m args meth c cX8_nearest 15 (some .long) RX8 D cs A h0.se) (hz2 : hz.nx ≤ h0.nx + mc ∧ hz.su ≤ h0.su + ms) (N : Nat) (k23 : Hp → Int64 → Int32 → Int64 → Int32 → Int32 → Option (Hp × Int64)) (t0 : Nat) (m23 : ∀ (h : Hp) (x3 : Int64) (x5 : Int32) (x6 : Int64) (x8 : Int32) (x9 : Int32), k23 h x3 x5 x6 x8 x9 = some (hz, rz) → Mo h hz) (i23 : ∀ (h : Hp) (x3 : Int64) (x5 : Int32) (x6 : Int64) (x8 : Int32) (x9 : Int32) (H : Heap) (locs : List Loc) (cells slots : Nat) (ls : Array Slot), k23 h x3 x5 x6 x8 x9 = some (hz, rz) → h.kd t0 = 11 → Wo D cs A s h0 h H locs cells slots → lv_has ls 15 [(0, .ref t0), (3, .long x3), (5, .int x5), (6, .long x6), (8, .int x8), (9, .int x9)] → W p l e { frames := 5, cells := mc, slots := ms, locals := 150 } s m args below meth c H locs cells slots (MQ below (Zl D cs A hz rz) args s mc ms A) (F0 m 23 ls [])) (h : Hp) (x3 : Int64) (x5 : Int32) (x8 : Int32) (x9 : Int32) (x12 : Int32) (x13 : Option Nat) (hJ : B_X8_nearest_174 N k23 t0 h x3 x5 x8 x9 x12 x13 = some (hz, rz)) (hk0 : h.kd t0 = 11) {H : Heap} {locs : List Loc} {cells slots : Nat} (w : Wo D cs A s h0 h H locs cells slots) {ls : Array Slot} (hl : lv_has ls 15 [(0, .ref t0), (3, .long x3), (5, .int x5), (8, .int x8), (9, .int x9), (12, .int x12), (13, va_rf x13)]) : W p l e { frames := 5, cells := mc, slots := ms, locals := 150 } s m args below meth c H locs cells slots (MQ below (Zl D cs A hz rz) args s mc ms A) (F0 m 174 ls []) := by
  obtain ⟨hx, hb, hml, hown, hts, -⟩ := id C
  unfold B_X8_nearest_174 at hJ
  refine lv_iload hx hb dX8_nearest_174 (lv_at hl 5 rfl) ?_
  refine lv_if_eq (tgt := 187) hx hb dX8_nearest_176 (by decide) (fun c8 => ?_) (fun c8 => ?_)
  · have hJ := it_pos c8 hJ
    refine jv_aload hx hb dX8_nearest_187 (lv_at hl 6 rfl) ?_
    refine lv_aload_n hx hb dX8_nearest_189 rfl (lv_at hl 0 rfl) ?_
    refine fg_1101 C w hk0 tw_1_196 dX8_nearest_190 ?_
    obtain ⟨a9, ea9, hka9, hJ⟩ := dr_some hJ
    rw [ea9] at hl
    rw [ea9]
    obtain ⟨⟨h10, r11⟩, e12, hJ⟩ := ob_some hJ
    refine jc_Vq (As := [.int (h.fi 1101 t0)]) C w (cc_X3_upTo N a9 h (h.fi 1101 t0) hka9 e12) (mo_X3_upTo N a9 h (h.fi 1101 t0) e12) (mb_X8_nearest_196 N k23 t0 _ _ _ _ _ _ _ m23 hJ) hz2 hka9 (by decide) rfl (fs := fs6 h a9) rfl rfl ⟨tw_3_56, tw_3_100, tw_3_54, tw_3_55, tw_1_22⟩ cd_X3_upTo ⟨by decide, by decide⟩ hl.1 (by first | exact Nat.le_of_ble_eq_true rfl | simp [rf_cat, cat_i, cat_l, cat_r]) rfl dX8_nearest_193 (fun H locs w1 => ?_)
    have hk13 := kd_keep w (mo_X3_upTo N a9 h (h.fi 1101 t0) e12) hk0 (by decide)
    have w := w1
    exact sb_X8_nearest_196 C hz2 N k23 t0 m23 i23 _ _ _ _ _ _ _ hJ hk13 w (lv_sub (l' := [(0, .ref t0), (3, .long x3), (5, .int x5), (8, .int x8), (9, .int x9), (13, .ref a9)]) hl [0, 1, 2, 3, 4, 6] rfl)
  · have hJ := it_neg c8 hJ
    refine jv_aload hx hb dX8_nearest_179 (lv_at hl 6 rfl) ?_
    obtain ⟨a14, ea14, hka14, hJ⟩ := dr_some hJ
    rw [ea14] at hl
    rw [ea14]
    refine fg_601 C w hka14 tw_3_154 dX8_nearest_181 ?_
    refine lv_goto (tgt := 196) hx hb dX8_nearest_184 (by decide) ?_
    exact sb_X8_nearest_196 C hz2 N k23 t0 m23 i23 _ _ _ _ _ _ _ hJ hk0 w (lv_sub (l' := [(0, .ref t0), (3, .long x3), (5, .int x5), (8, .int x8), (9, .int x9), (13, .ref a14)]) hl [0, 1, 2, 3, 4, 6] rfl)
def B_X8_nearest_133 (N : Nat) (k23 : Hp → Int64 → Int32 → Int64 → Int32 → Int32 → Option (Hp × Int64)) (t0 : Nat) (h : Hp) (x3 : Int64) (x5 : Int32) (x8 : Int32) (x9 : Int32) (x12 : Int32) (y0 : Option Nat) : Option (Hp × Int64) := nl y0 (B_X8_nearest_170 N t0 h) (fun a15 => if x5 = 0 then (ck (h.kd a15 = 6) (if 0 ≤ (lg_cmp ((h.fi 600 a15).toInt64) x3) then (B_X8_nearest_174 N k23 t0 h x3 x5 x8 x9 x12 (some a15)) else (B_X8_nearest_170 N t0 h))) else (ck (h.kd a15 = 6) (if (lg_cmp ((h.fi 600 a15).toInt64) x3) ≤ 0 then (B_X8_nearest_174 N k23 t0 h x3 x5 x8 x9 x12 (some a15)) else (B_X8_nearest_170 N t0 h))))
theorem mb_X8_nearest_133 (N : Nat) (k23 : Hp → Int64 → Int32 → Int64 → Int32 → Int32 → Option (Hp × Int64)) (t0 : Nat) (h : Hp) (x3 : Int64) (x5 : Int32) (x8 : Int32) (x9 : Int32) (x12 : Int32) (y0 : Option Nat) (m23 : ∀ (h : Hp) (x3 : Int64) (x5 : Int32) (x6 : Int64) (x8 : Int32) (x9 : Int32), k23 h x3 x5 x6 x8 x9 = some (hz, rz) → Mo h hz) (hJ : B_X8_nearest_133 N k23 t0 h x3 x5 x8 x9 x12 y0 = some (hz, rz)) : Mo h hz := by
  unfold B_X8_nearest_133 at hJ
  cases ea15 : y0 with
  | none =>
    have hJ := nl_none ea15 hJ
    exact mb_X8_nearest_170 N t0 _ hJ
  | some a15 =>
    have hJ := nl_some ea15 hJ
    by_cases c16 : x5 = 0
    · have hJ := it_pos c16 hJ
      obtain ⟨-, hJ⟩ := ck_some hJ
      by_cases c18 : 0 ≤ (lg_cmp ((h.fi 600 a15).toInt64) x3)
      · have hJ := it_pos c18 hJ
        exact mb_X8_nearest_174 N k23 t0 _ _ _ _ _ _ _ m23 hJ
      · have hJ := it_neg c18 hJ
        exact mb_X8_nearest_170 N t0 _ hJ
    · have hJ := it_neg c16 hJ
      obtain ⟨-, hJ⟩ := ck_some hJ
      by_cases c20 : (lg_cmp ((h.fi 600 a15).toInt64) x3) ≤ 0
      · have hJ := it_pos c20 hJ
        exact mb_X8_nearest_174 N k23 t0 _ _ _ _ _ _ _ m23 hJ
      · have hJ := it_neg c20 hJ
        exact mb_X8_nearest_170 N t0 _ hJ
set_option maxRecDepth 100000 in
set_option maxHeartbeats 4000000 in
theorem sb_X8_nearest_133 (C : Cx p s m args meth c cX8_nearest 15 (some .long) RX8 D cs A h0.se) (hz2 : hz.nx ≤ h0.nx + mc ∧ hz.su ≤ h0.su + ms) (N : Nat) (k23 : Hp → Int64 → Int32 → Int64 → Int32 → Int32 → Option (Hp × Int64)) (t0 : Nat) (m23 : ∀ (h : Hp) (x3 : Int64) (x5 : Int32) (x6 : Int64) (x8 : Int32) (x9 : Int32), k23 h x3 x5 x6 x8 x9 = some (hz, rz) → Mo h hz) (i23 : ∀ (h : Hp) (x3 : Int64) (x5 : Int32) (x6 : Int64) (x8 : Int32) (x9 : Int32) (H : Heap) (locs : List Loc) (cells slots : Nat) (ls : Array Slot), k23 h x3 x5 x6 x8 x9 = some (hz, rz) → h.kd t0 = 11 → Wo D cs A s h0 h H locs cells slots → lv_has ls 15 [(0, .ref t0), (3, .long x3), (5, .int x5), (6, .long x6), (8, .int x8), (9, .int x9)] → W p l e { frames := 5, cells := mc, slots := ms, locals := 150 } s m args below meth c H locs cells slots (MQ below (Zl D cs A hz rz) args s mc ms A) (F0 m 23 ls [])) (h : Hp) (x3 : Int64) (x5 : Int32) (x8 : Int32) (x9 : Int32) (x12 : Int32) (y0 : Option Nat) (hJ : B_X8_nearest_133 N k23 t0 h x3 x5 x8 x9 x12 y0 = some (hz, rz)) (hk0 : h.kd t0 = 11) {H : Heap} {locs : List Loc} {cells slots : Nat} (w : Wo D cs A s h0 h H locs cells slots) {ls : Array Slot} (hl : lv_has ls 15 [(0, .ref t0), (3, .long x3), (5, .int x5), (8, .int x8), (9, .int x9), (12, .int x12)]) : W p l e { frames := 5, cells := mc, slots := ms, locals := 150 } s m args below meth c H locs cells slots (MQ below (Zl D cs A hz rz) args s mc ms A) (F0 m 133 ls [va_rf y0]) := by
  obtain ⟨hx, hb, hml, hown, hts, -⟩ := id C
  unfold B_X8_nearest_133 at hJ
  refine jv_astore (i := 13) (lv' := [(13, va_rf y0), (0, .ref t0), (3, .long x3), (5, .int x5), (8, .int x8), (9, .int x9), (12, .int x12)]) hx hb dX8_nearest_133 hl (by decide) rfl (fun ls hl => ?_)
  refine jv_aload hx hb dX8_nearest_135 (lv_at hl 0 rfl) ?_
  refine jv_ifnull (tgt := 170) hx hb dX8_nearest_137 (by decide) (fun ea15 => ?_) (fun a15 ea15 => ?_)
  · have hJ := nl_none ea15 hJ
    exact sb_X8_nearest_170 C hz2 N t0 _ hJ hk0 w (lv_sub (l' := [(0, .ref t0)]) hl [1] rfl)
  · have hJ := nl_some ea15 hJ
    rw [ea15] at hl
    refine lv_iload hx hb dX8_nearest_140 (lv_at hl 3 rfl) ?_
    refine lv_if_eq (tgt := 159) hx hb dX8_nearest_142 (by decide) (fun c16 => ?_) (fun c16 => ?_)
    · have hJ := it_pos c16 hJ
      refine lv_aload hx hb dX8_nearest_159 (lv_at hl 0 rfl) ?_
      obtain ⟨hk17, hJ⟩ := ck_some hJ
      refine fg_600 C w hk17 tw_3_150 dX8_nearest_161 ?_
      refine lv_i2l hx hb dX8_nearest_164 rfl ?_
      refine lv_lload_n hx hb dX8_nearest_165 rfl (lv_at hl 2 rfl) ?_
      refine W.lcmp hx hb dX8_nearest_166 ?_
      refine lv_if_ge (tgt := 174) hx hb dX8_nearest_167 (by decide) (fun c18 => ?_) (fun c18 => ?_)
      · have hJ := it_pos c18 hJ
        exact sb_X8_nearest_174 C hz2 N k23 t0 m23 i23 _ _ _ _ _ _ _ hJ hk0 w (lv_sub (l' := [(0, .ref t0), (3, .long x3), (5, .int x5), (8, .int x8), (9, .int x9), (12, .int x12), (13, .ref a15)]) hl [1, 2, 3, 4, 5, 6, 0] rfl)
      · have hJ := it_neg c18 hJ
        exact sb_X8_nearest_170 C hz2 N t0 _ hJ hk0 w (lv_sub (l' := [(0, .ref t0)]) hl [1] rfl)
    · have hJ := it_neg c16 hJ
      refine lv_aload hx hb dX8_nearest_145 (lv_at hl 0 rfl) ?_
      obtain ⟨hk19, hJ⟩ := ck_some hJ
      refine fg_600 C w hk19 tw_3_150 dX8_nearest_147 ?_
      refine lv_i2l hx hb dX8_nearest_150 rfl ?_
      refine lv_lload_n hx hb dX8_nearest_151 rfl (lv_at hl 2 rfl) ?_
      refine W.lcmp hx hb dX8_nearest_152 ?_
      refine lv_if_le (tgt := 174) hx hb dX8_nearest_153 (by decide) (fun c20 => ?_) (fun c20 => ?_)
      · have hJ := it_pos c20 hJ
        exact sb_X8_nearest_174 C hz2 N k23 t0 m23 i23 _ _ _ _ _ _ _ hJ hk0 w (lv_sub (l' := [(0, .ref t0), (3, .long x3), (5, .int x5), (8, .int x8), (9, .int x9), (12, .int x12), (13, .ref a15)]) hl [1, 2, 3, 4, 5, 6, 0] rfl)
      · have hJ := it_neg c20 hJ
        refine lv_goto (tgt := 170) hx hb dX8_nearest_156 (by decide) ?_
        exact sb_X8_nearest_170 C hz2 N t0 _ hJ hk0 w (lv_sub (l' := [(0, .ref t0)]) hl [1] rfl)
def B_X8_nearest_119 (N : Nat) (k23 : Hp → Int64 → Int32 → Int64 → Int32 → Int32 → Option (Hp × Int64)) (t0 : Nat) (h : Hp) (x3 : Int64) (x5 : Int32) (x8 : Int32) (x9 : Int32) (x10 : Option Nat) (x11 : Option Nat) (y0 : Int32) : Option (Hp × Int64) := if y0 = 0 then (B_X8_nearest_133 N k23 t0 h x3 x5 x8 x9 y0 x11) else (B_X8_nearest_133 N k23 t0 h x3 x5 x8 x9 y0 x10)
theorem mb_X8_nearest_119 (N : Nat) (k23 : Hp → Int64 → Int32 → Int64 → Int32 → Int32 → Option (Hp × Int64)) (t0 : Nat) (h : Hp) (x3 : Int64) (x5 : Int32) (x8 : Int32) (x9 : Int32) (x10 : Option Nat) (x11 : Option Nat) (y0 : Int32) (m23 : ∀ (h : Hp) (x3 : Int64) (x5 : Int32) (x6 : Int64) (x8 : Int32) (x9 : Int32), k23 h x3 x5 x6 x8 x9 = some (hz, rz) → Mo h hz) (hJ : B_X8_nearest_119 N k23 t0 h x3 x5 x8 x9 x10 x11 y0 = some (hz, rz)) : Mo h hz := by
  unfold B_X8_nearest_119 at hJ
  by_cases c21 : y0 = 0
  · have hJ := it_pos c21 hJ
    exact mb_X8_nearest_133 N k23 t0 _ _ _ _ _ _ _ m23 hJ
  · have hJ := it_neg c21 hJ
    exact mb_X8_nearest_133 N k23 t0 _ _ _ _ _ _ _ m23 hJ
set_option maxRecDepth 100000 in
set_option maxHeartbeats 4000000 in
theorem sb_X8_nearest_119 (C : Cx p s m args meth c cX8_nearest 15 (some .long) RX8 D cs A h0.se) (hz2 : hz.nx ≤ h0.nx + mc ∧ hz.su ≤ h0.su + ms) (N : Nat) (k23 : Hp → Int64 → Int32 → Int64 → Int32 → Int32 → Option (Hp × Int64)) (t0 : Nat) (m23 : ∀ (h : Hp) (x3 : Int64) (x5 : Int32) (x6 : Int64) (x8 : Int32) (x9 : Int32), k23 h x3 x5 x6 x8 x9 = some (hz, rz) → Mo h hz) (i23 : ∀ (h : Hp) (x3 : Int64) (x5 : Int32) (x6 : Int64) (x8 : Int32) (x9 : Int32) (H : Heap) (locs : List Loc) (cells slots : Nat) (ls : Array Slot), k23 h x3 x5 x6 x8 x9 = some (hz, rz) → h.kd t0 = 11 → Wo D cs A s h0 h H locs cells slots → lv_has ls 15 [(0, .ref t0), (3, .long x3), (5, .int x5), (6, .long x6), (8, .int x8), (9, .int x9)] → W p l e { frames := 5, cells := mc, slots := ms, locals := 150 } s m args below meth c H locs cells slots (MQ below (Zl D cs A hz rz) args s mc ms A) (F0 m 23 ls [])) (h : Hp) (x3 : Int64) (x5 : Int32) (x8 : Int32) (x9 : Int32) (x10 : Option Nat) (x11 : Option Nat) (y0 : Int32) (hJ : B_X8_nearest_119 N k23 t0 h x3 x5 x8 x9 x10 x11 y0 = some (hz, rz)) (hk0 : h.kd t0 = 11) {H : Heap} {locs : List Loc} {cells slots : Nat} (w : Wo D cs A s h0 h H locs cells slots) {ls : Array Slot} (hl : lv_has ls 15 [(0, .ref t0), (3, .long x3), (5, .int x5), (8, .int x8), (9, .int x9), (10, va_rf x10), (11, va_rf x11)]) : W p l e { frames := 5, cells := mc, slots := ms, locals := 150 } s m args below meth c H locs cells slots (MQ below (Zl D cs A hz rz) args s mc ms A) (F0 m 119 ls [.int y0]) := by
  obtain ⟨hx, hb, hml, hown, hts, -⟩ := id C
  unfold B_X8_nearest_119 at hJ
  refine lv_istore (i := 12) (lv' := [(12, .int y0), (0, .ref t0), (3, .long x3), (5, .int x5), (8, .int x8), (9, .int x9), (10, va_rf x10), (11, va_rf x11)]) hx hb dX8_nearest_119 hl (by decide) (by simp [List.filter, rf_cat, cat_i, cat_l, cat_r]) (fun ls hl => ?_)
  refine lv_iload hx hb dX8_nearest_121 (lv_at hl 0 rfl) ?_
  refine lv_if_eq (tgt := 131) hx hb dX8_nearest_123 (by decide) (fun c21 => ?_) (fun c21 => ?_)
  · have hJ := it_pos c21 hJ
    refine jv_aload hx hb dX8_nearest_131 (lv_at hl 7 rfl) ?_
    exact sb_X8_nearest_133 C hz2 N k23 t0 m23 i23 _ _ _ _ _ _ _ hJ hk0 w (lv_sub (l' := [(0, .ref t0), (3, .long x3), (5, .int x5), (8, .int x8), (9, .int x9), (12, .int y0)]) hl [1, 2, 3, 4, 5, 0] rfl)
  · have hJ := it_neg c21 hJ
    refine jv_aload hx hb dX8_nearest_126 (lv_at hl 6 rfl) ?_
    refine lv_goto (tgt := 133) hx hb dX8_nearest_128 (by decide) ?_
    exact sb_X8_nearest_133 C hz2 N k23 t0 m23 i23 _ _ _ _ _ _ _ hJ hk0 w (lv_sub (l' := [(0, .ref t0), (3, .long x3), (5, .int x5), (8, .int x8), (9, .int x9), (12, .int y0)]) hl [1, 2, 3, 4, 5, 0] rfl)
def B_X8_nearest_114 (N : Nat) (k23 : Hp → Int64 → Int32 → Int64 → Int32 → Int32 → Option (Hp × Int64)) (t0 : Nat) (h : Hp) (x3 : Int64) (x5 : Int32) (x8 : Int32) (x9 : Int32) (x10 : Option Nat) (x11 : Option Nat) : Option (Hp × Int64) := B_X8_nearest_119 N k23 t0 h x3 x5 x8 x9 x10 x11 (1 : Int32)
theorem mb_X8_nearest_114 (N : Nat) (k23 : Hp → Int64 → Int32 → Int64 → Int32 → Int32 → Option (Hp × Int64)) (t0 : Nat) (h : Hp) (x3 : Int64) (x5 : Int32) (x8 : Int32) (x9 : Int32) (x10 : Option Nat) (x11 : Option Nat) (m23 : ∀ (h : Hp) (x3 : Int64) (x5 : Int32) (x6 : Int64) (x8 : Int32) (x9 : Int32), k23 h x3 x5 x6 x8 x9 = some (hz, rz) → Mo h hz) (hJ : B_X8_nearest_114 N k23 t0 h x3 x5 x8 x9 x10 x11 = some (hz, rz)) : Mo h hz := by
  unfold B_X8_nearest_114 at hJ
  exact mb_X8_nearest_119 N k23 t0 _ _ _ _ _ _ _ _ m23 hJ
set_option maxRecDepth 100000 in
set_option maxHeartbeats 4000000 in
theorem sb_X8_nearest_114 (C : Cx p s m args meth c cX8_nearest 15 (some .long) RX8 D cs A h0.se) (hz2 : hz.nx ≤ h0.nx + mc ∧ hz.su ≤ h0.su + ms) (N : Nat) (k23 : Hp → Int64 → Int32 → Int64 → Int32 → Int32 → Option (Hp × Int64)) (t0 : Nat) (m23 : ∀ (h : Hp) (x3 : Int64) (x5 : Int32) (x6 : Int64) (x8 : Int32) (x9 : Int32), k23 h x3 x5 x6 x8 x9 = some (hz, rz) → Mo h hz) (i23 : ∀ (h : Hp) (x3 : Int64) (x5 : Int32) (x6 : Int64) (x8 : Int32) (x9 : Int32) (H : Heap) (locs : List Loc) (cells slots : Nat) (ls : Array Slot), k23 h x3 x5 x6 x8 x9 = some (hz, rz) → h.kd t0 = 11 → Wo D cs A s h0 h H locs cells slots → lv_has ls 15 [(0, .ref t0), (3, .long x3), (5, .int x5), (6, .long x6), (8, .int x8), (9, .int x9)] → W p l e { frames := 5, cells := mc, slots := ms, locals := 150 } s m args below meth c H locs cells slots (MQ below (Zl D cs A hz rz) args s mc ms A) (F0 m 23 ls [])) (h : Hp) (x3 : Int64) (x5 : Int32) (x8 : Int32) (x9 : Int32) (x10 : Option Nat) (x11 : Option Nat) (hJ : B_X8_nearest_114 N k23 t0 h x3 x5 x8 x9 x10 x11 = some (hz, rz)) (hk0 : h.kd t0 = 11) {H : Heap} {locs : List Loc} {cells slots : Nat} (w : Wo D cs A s h0 h H locs cells slots) {ls : Array Slot} (hl : lv_has ls 15 [(0, .ref t0), (3, .long x3), (5, .int x5), (8, .int x8), (9, .int x9), (10, va_rf x10), (11, va_rf x11)]) : W p l e { frames := 5, cells := mc, slots := ms, locals := 150 } s m args below meth c H locs cells slots (MQ below (Zl D cs A hz rz) args s mc ms A) (F0 m 114 ls []) := by
  obtain ⟨hx, hb, hml, hown, hts, -⟩ := id C
  unfold B_X8_nearest_114 at hJ
  refine lv_iconst (v := (1 : Int32)) hx hb dX8_nearest_114 (by decide) ?_
  refine lv_goto (tgt := 119) hx hb dX8_nearest_115 (by decide) ?_
  exact sb_X8_nearest_119 C hz2 N k23 t0 m23 i23 _ _ _ _ _ _ _ _ hJ hk0 w hl
def B_X8_nearest_118 (N : Nat) (k23 : Hp → Int64 → Int32 → Int64 → Int32 → Int32 → Option (Hp × Int64)) (t0 : Nat) (h : Hp) (x3 : Int64) (x5 : Int32) (x8 : Int32) (x9 : Int32) (x10 : Option Nat) (x11 : Option Nat) : Option (Hp × Int64) := B_X8_nearest_119 N k23 t0 h x3 x5 x8 x9 x10 x11 (0 : Int32)
theorem mb_X8_nearest_118 (N : Nat) (k23 : Hp → Int64 → Int32 → Int64 → Int32 → Int32 → Option (Hp × Int64)) (t0 : Nat) (h : Hp) (x3 : Int64) (x5 : Int32) (x8 : Int32) (x9 : Int32) (x10 : Option Nat) (x11 : Option Nat) (m23 : ∀ (h : Hp) (x3 : Int64) (x5 : Int32) (x6 : Int64) (x8 : Int32) (x9 : Int32), k23 h x3 x5 x6 x8 x9 = some (hz, rz) → Mo h hz) (hJ : B_X8_nearest_118 N k23 t0 h x3 x5 x8 x9 x10 x11 = some (hz, rz)) : Mo h hz := by
  unfold B_X8_nearest_118 at hJ
  exact mb_X8_nearest_119 N k23 t0 _ _ _ _ _ _ _ _ m23 hJ
set_option maxRecDepth 100000 in
set_option maxHeartbeats 4000000 in
theorem sb_X8_nearest_118 (C : Cx p s m args meth c cX8_nearest 15 (some .long) RX8 D cs A h0.se) (hz2 : hz.nx ≤ h0.nx + mc ∧ hz.su ≤ h0.su + ms) (N : Nat) (k23 : Hp → Int64 → Int32 → Int64 → Int32 → Int32 → Option (Hp × Int64)) (t0 : Nat) (m23 : ∀ (h : Hp) (x3 : Int64) (x5 : Int32) (x6 : Int64) (x8 : Int32) (x9 : Int32), k23 h x3 x5 x6 x8 x9 = some (hz, rz) → Mo h hz) (i23 : ∀ (h : Hp) (x3 : Int64) (x5 : Int32) (x6 : Int64) (x8 : Int32) (x9 : Int32) (H : Heap) (locs : List Loc) (cells slots : Nat) (ls : Array Slot), k23 h x3 x5 x6 x8 x9 = some (hz, rz) → h.kd t0 = 11 → Wo D cs A s h0 h H locs cells slots → lv_has ls 15 [(0, .ref t0), (3, .long x3), (5, .int x5), (6, .long x6), (8, .int x8), (9, .int x9)] → W p l e { frames := 5, cells := mc, slots := ms, locals := 150 } s m args below meth c H locs cells slots (MQ below (Zl D cs A hz rz) args s mc ms A) (F0 m 23 ls [])) (h : Hp) (x3 : Int64) (x5 : Int32) (x8 : Int32) (x9 : Int32) (x10 : Option Nat) (x11 : Option Nat) (hJ : B_X8_nearest_118 N k23 t0 h x3 x5 x8 x9 x10 x11 = some (hz, rz)) (hk0 : h.kd t0 = 11) {H : Heap} {locs : List Loc} {cells slots : Nat} (w : Wo D cs A s h0 h H locs cells slots) {ls : Array Slot} (hl : lv_has ls 15 [(0, .ref t0), (3, .long x3), (5, .int x5), (8, .int x8), (9, .int x9), (10, va_rf x10), (11, va_rf x11)]) : W p l e { frames := 5, cells := mc, slots := ms, locals := 150 } s m args below meth c H locs cells slots (MQ below (Zl D cs A hz rz) args s mc ms A) (F0 m 118 ls []) := by
  obtain ⟨hx, hb, hml, hown, hts, -⟩ := id C
  unfold B_X8_nearest_118 at hJ
  refine lv_iconst (v := (0 : Int32)) hx hb dX8_nearest_118 (by decide) ?_
  exact sb_X8_nearest_119 C hz2 N k23 t0 m23 i23 _ _ _ _ _ _ _ _ hJ hk0 w hl
def B_X8_nearest_70 (N : Nat) (k23 : Hp → Int64 → Int32 → Int64 → Int32 → Int32 → Option (Hp × Int64)) (t0 : Nat) (h : Hp) (x3 : Int64) (x5 : Int32) (x8 : Int32) (x9 : Int32) (x10 : Option Nat) (x11 : Option Nat) : Option (Hp × Int64) := nl x11 (B_X8_nearest_114 N k23 t0 h x3 x5 x8 x9 x10 x11) (fun a22 => nl x10 (B_X8_nearest_118 N k23 t0 h x3 x5 x8 x9 x10 (some a22)) (fun a23 => if x5 = 0 then (ck (h.kd a23 = 6) (ck (h.kd a22 = 6) (if (h.fi 600 a23) < (h.fi 600 a22) then (B_X8_nearest_118 N k23 t0 h x3 x5 x8 x9 (some a23) (some a22)) else (B_X8_nearest_114 N k23 t0 h x3 x5 x8 x9 (some a23) (some a22))))) else (ck (h.kd a23 = 6) (ck (h.kd a22 = 6) (if (h.fi 600 a22) < (h.fi 600 a23) then (B_X8_nearest_118 N k23 t0 h x3 x5 x8 x9 (some a23) (some a22)) else (B_X8_nearest_114 N k23 t0 h x3 x5 x8 x9 (some a23) (some a22)))))))
theorem mb_X8_nearest_70 (N : Nat) (k23 : Hp → Int64 → Int32 → Int64 → Int32 → Int32 → Option (Hp × Int64)) (t0 : Nat) (h : Hp) (x3 : Int64) (x5 : Int32) (x8 : Int32) (x9 : Int32) (x10 : Option Nat) (x11 : Option Nat) (m23 : ∀ (h : Hp) (x3 : Int64) (x5 : Int32) (x6 : Int64) (x8 : Int32) (x9 : Int32), k23 h x3 x5 x6 x8 x9 = some (hz, rz) → Mo h hz) (hJ : B_X8_nearest_70 N k23 t0 h x3 x5 x8 x9 x10 x11 = some (hz, rz)) : Mo h hz := by
  unfold B_X8_nearest_70 at hJ
  cases ea22 : x11 with
  | none =>
    have hJ := nl_none ea22 hJ
    exact mb_X8_nearest_114 N k23 t0 _ _ _ _ _ _ _ m23 hJ
  | some a22 =>
    have hJ := nl_some ea22 hJ
    cases ea23 : x10 with
    | none =>
      have hJ := nl_none ea23 hJ
      exact mb_X8_nearest_118 N k23 t0 _ _ _ _ _ _ _ m23 hJ
    | some a23 =>
      have hJ := nl_some ea23 hJ
      by_cases c24 : x5 = 0
      · have hJ := it_pos c24 hJ
        obtain ⟨-, hJ⟩ := ck_some hJ
        obtain ⟨-, hJ⟩ := ck_some hJ
        by_cases c27 : (h.fi 600 a23) < (h.fi 600 a22)
        · have hJ := it_pos c27 hJ
          exact mb_X8_nearest_118 N k23 t0 _ _ _ _ _ _ _ m23 hJ
        · have hJ := it_neg c27 hJ
          exact mb_X8_nearest_114 N k23 t0 _ _ _ _ _ _ _ m23 hJ
      · have hJ := it_neg c24 hJ
        obtain ⟨-, hJ⟩ := ck_some hJ
        obtain ⟨-, hJ⟩ := ck_some hJ
        by_cases c30 : (h.fi 600 a22) < (h.fi 600 a23)
        · have hJ := it_pos c30 hJ
          exact mb_X8_nearest_118 N k23 t0 _ _ _ _ _ _ _ m23 hJ
        · have hJ := it_neg c30 hJ
          exact mb_X8_nearest_114 N k23 t0 _ _ _ _ _ _ _ m23 hJ
set_option maxRecDepth 100000 in
set_option maxHeartbeats 4000000 in
theorem sb_X8_nearest_70 (C : Cx p s m args meth c cX8_nearest 15 (some .long) RX8 D cs A h0.se) (hz2 : hz.nx ≤ h0.nx + mc ∧ hz.su ≤ h0.su + ms) (N : Nat) (k23 : Hp → Int64 → Int32 → Int64 → Int32 → Int32 → Option (Hp × Int64)) (t0 : Nat) (m23 : ∀ (h : Hp) (x3 : Int64) (x5 : Int32) (x6 : Int64) (x8 : Int32) (x9 : Int32), k23 h x3 x5 x6 x8 x9 = some (hz, rz) → Mo h hz) (i23 : ∀ (h : Hp) (x3 : Int64) (x5 : Int32) (x6 : Int64) (x8 : Int32) (x9 : Int32) (H : Heap) (locs : List Loc) (cells slots : Nat) (ls : Array Slot), k23 h x3 x5 x6 x8 x9 = some (hz, rz) → h.kd t0 = 11 → Wo D cs A s h0 h H locs cells slots → lv_has ls 15 [(0, .ref t0), (3, .long x3), (5, .int x5), (6, .long x6), (8, .int x8), (9, .int x9)] → W p l e { frames := 5, cells := mc, slots := ms, locals := 150 } s m args below meth c H locs cells slots (MQ below (Zl D cs A hz rz) args s mc ms A) (F0 m 23 ls [])) (h : Hp) (x3 : Int64) (x5 : Int32) (x8 : Int32) (x9 : Int32) (x10 : Option Nat) (x11 : Option Nat) (hJ : B_X8_nearest_70 N k23 t0 h x3 x5 x8 x9 x10 x11 = some (hz, rz)) (hk0 : h.kd t0 = 11) {H : Heap} {locs : List Loc} {cells slots : Nat} (w : Wo D cs A s h0 h H locs cells slots) {ls : Array Slot} (hl : lv_has ls 15 [(0, .ref t0), (3, .long x3), (5, .int x5), (8, .int x8), (9, .int x9), (10, va_rf x10), (11, va_rf x11)]) : W p l e { frames := 5, cells := mc, slots := ms, locals := 150 } s m args below meth c H locs cells slots (MQ below (Zl D cs A hz rz) args s mc ms A) (F0 m 70 ls []) := by
  obtain ⟨hx, hb, hml, hown, hts, -⟩ := id C
  unfold B_X8_nearest_70 at hJ
  refine jv_aload hx hb dX8_nearest_70 (lv_at hl 6 rfl) ?_
  refine jv_ifnull (tgt := 114) hx hb dX8_nearest_72 (by decide) (fun ea22 => ?_) (fun a22 ea22 => ?_)
  · have hJ := nl_none ea22 hJ
    exact sb_X8_nearest_114 C hz2 N k23 t0 m23 i23 _ _ _ _ _ _ _ hJ hk0 w hl
  · have hJ := nl_some ea22 hJ
    rw [ea22] at hl
    refine jv_aload hx hb dX8_nearest_75 (lv_at hl 5 rfl) ?_
    refine jv_ifnull (tgt := 118) hx hb dX8_nearest_77 (by decide) (fun ea23 => ?_) (fun a23 ea23 => ?_)
    · have hJ := nl_none ea23 hJ
      exact sb_X8_nearest_118 C hz2 N k23 t0 m23 i23 _ _ _ _ _ _ _ hJ hk0 w hl
    · have hJ := nl_some ea23 hJ
      rw [ea23] at hl
      refine lv_iload hx hb dX8_nearest_80 (lv_at hl 2 rfl) ?_
      refine lv_if_eq (tgt := 101) hx hb dX8_nearest_82 (by decide) (fun c24 => ?_) (fun c24 => ?_)
      · have hJ := it_pos c24 hJ
        refine lv_aload hx hb dX8_nearest_101 (lv_at hl 5 rfl) ?_
        obtain ⟨hk25, hJ⟩ := ck_some hJ
        refine fg_600 C w hk25 tw_3_150 dX8_nearest_103 ?_
        refine lv_aload hx hb dX8_nearest_106 (lv_at hl 6 rfl) ?_
        obtain ⟨hk26, hJ⟩ := ck_some hJ
        refine fg_600 C w hk26 tw_3_150 dX8_nearest_108 ?_
        refine lv_icmp_lt (tgt := 118) hx hb dX8_nearest_111 (by decide) (fun c27 => ?_) (fun c27 => ?_)
        · have hJ := it_pos c27 hJ
          exact sb_X8_nearest_118 C hz2 N k23 t0 m23 i23 _ _ _ _ _ _ _ hJ hk0 w hl
        · have hJ := it_neg c27 hJ
          exact sb_X8_nearest_114 C hz2 N k23 t0 m23 i23 _ _ _ _ _ _ _ hJ hk0 w hl
      · have hJ := it_neg c24 hJ
        refine lv_aload hx hb dX8_nearest_85 (lv_at hl 5 rfl) ?_
        obtain ⟨hk28, hJ⟩ := ck_some hJ
        refine fg_600 C w hk28 tw_3_150 dX8_nearest_87 ?_
        refine lv_aload hx hb dX8_nearest_90 (lv_at hl 6 rfl) ?_
        obtain ⟨hk29, hJ⟩ := ck_some hJ
        refine fg_600 C w hk29 tw_3_150 dX8_nearest_92 ?_
        refine lv_icmp_gt (tgt := 118) hx hb dX8_nearest_95 (by decide) (fun c30 => ?_) (fun c30 => ?_)
        · have hJ := it_pos c30 hJ
          exact sb_X8_nearest_118 C hz2 N k23 t0 m23 i23 _ _ _ _ _ _ _ hJ hk0 w hl
        · have hJ := it_neg c30 hJ
          refine lv_goto (tgt := 114) hx hb dX8_nearest_98 (by decide) ?_
          exact sb_X8_nearest_114 C hz2 N k23 t0 m23 i23 _ _ _ _ _ _ _ hJ hk0 w hl
def B_X8_nearest_54 (N : Nat) (k23 : Hp → Int64 → Int32 → Int64 → Int32 → Int32 → Option (Hp × Int64)) (t0 : Nat) (h : Hp) (x3 : Int64) (x5 : Int32) (x8 : Int32) (x9 : Int32) (x10 : Option Nat) (y0 : Option Nat) : Option (Hp × Int64) := nl x10 (nl y0 (some (h, (-9223372036854775808 : Int64))) (fun a32 => B_X8_nearest_70 N k23 t0 h x3 x5 x8 x9 x10 (some a32))) (fun a31 => B_X8_nearest_70 N k23 t0 h x3 x5 x8 x9 (some a31) y0)
theorem mb_X8_nearest_54 (N : Nat) (k23 : Hp → Int64 → Int32 → Int64 → Int32 → Int32 → Option (Hp × Int64)) (t0 : Nat) (h : Hp) (x3 : Int64) (x5 : Int32) (x8 : Int32) (x9 : Int32) (x10 : Option Nat) (y0 : Option Nat) (m23 : ∀ (h : Hp) (x3 : Int64) (x5 : Int32) (x6 : Int64) (x8 : Int32) (x9 : Int32), k23 h x3 x5 x6 x8 x9 = some (hz, rz) → Mo h hz) (hJ : B_X8_nearest_54 N k23 t0 h x3 x5 x8 x9 x10 y0 = some (hz, rz)) : Mo h hz := by
  unfold B_X8_nearest_54 at hJ
  cases ea31 : x10 with
  | none =>
    have hJ := nl_none ea31 hJ
    cases ea32 : y0 with
    | none =>
      have hJ := nl_none ea32 hJ
      obtain ⟨rfl, -⟩ := rs2 hJ
      exact ⟨fun _ _ => rfl, Nat.le_refl _, Nat.le_refl _, rfl, fun _ _ => rfl⟩
    | some a32 =>
      have hJ := nl_some ea32 hJ
      exact mb_X8_nearest_70 N k23 t0 _ _ _ _ _ _ _ m23 hJ
  | some a31 =>
    have hJ := nl_some ea31 hJ
    exact mb_X8_nearest_70 N k23 t0 _ _ _ _ _ _ _ m23 hJ
set_option maxRecDepth 100000 in
set_option maxHeartbeats 4000000 in
theorem sb_X8_nearest_54 (C : Cx p s m args meth c cX8_nearest 15 (some .long) RX8 D cs A h0.se) (hz2 : hz.nx ≤ h0.nx + mc ∧ hz.su ≤ h0.su + ms) (N : Nat) (k23 : Hp → Int64 → Int32 → Int64 → Int32 → Int32 → Option (Hp × Int64)) (t0 : Nat) (m23 : ∀ (h : Hp) (x3 : Int64) (x5 : Int32) (x6 : Int64) (x8 : Int32) (x9 : Int32), k23 h x3 x5 x6 x8 x9 = some (hz, rz) → Mo h hz) (i23 : ∀ (h : Hp) (x3 : Int64) (x5 : Int32) (x6 : Int64) (x8 : Int32) (x9 : Int32) (H : Heap) (locs : List Loc) (cells slots : Nat) (ls : Array Slot), k23 h x3 x5 x6 x8 x9 = some (hz, rz) → h.kd t0 = 11 → Wo D cs A s h0 h H locs cells slots → lv_has ls 15 [(0, .ref t0), (3, .long x3), (5, .int x5), (6, .long x6), (8, .int x8), (9, .int x9)] → W p l e { frames := 5, cells := mc, slots := ms, locals := 150 } s m args below meth c H locs cells slots (MQ below (Zl D cs A hz rz) args s mc ms A) (F0 m 23 ls [])) (h : Hp) (x3 : Int64) (x5 : Int32) (x8 : Int32) (x9 : Int32) (x10 : Option Nat) (y0 : Option Nat) (hJ : B_X8_nearest_54 N k23 t0 h x3 x5 x8 x9 x10 y0 = some (hz, rz)) (hk0 : h.kd t0 = 11) {H : Heap} {locs : List Loc} {cells slots : Nat} (w : Wo D cs A s h0 h H locs cells slots) {ls : Array Slot} (hl : lv_has ls 15 [(0, .ref t0), (3, .long x3), (5, .int x5), (8, .int x8), (9, .int x9), (10, va_rf x10)]) : W p l e { frames := 5, cells := mc, slots := ms, locals := 150 } s m args below meth c H locs cells slots (MQ below (Zl D cs A hz rz) args s mc ms A) (F0 m 54 ls [va_rf y0]) := by
  obtain ⟨hx, hb, hml, hown, hts, -⟩ := id C
  unfold B_X8_nearest_54 at hJ
  refine jv_astore (i := 11) (lv' := [(11, va_rf y0), (0, .ref t0), (3, .long x3), (5, .int x5), (8, .int x8), (9, .int x9), (10, va_rf x10)]) hx hb dX8_nearest_54 hl (by decide) (by simp [List.filter, rf_cat, cat_i, cat_l, cat_r]) (fun ls hl => ?_)
  refine jv_aload hx hb dX8_nearest_56 (lv_at hl 6 rfl) ?_
  refine jv_ifnonnull (tgt := 70) hx hb dX8_nearest_58 (by decide) (fun a31 ea31 => ?_) (fun ea31 => ?_)
  · have hJ := nl_some ea31 hJ
    rw [ea31] at hl
    exact sb_X8_nearest_70 C hz2 N k23 t0 m23 i23 _ _ _ _ _ _ _ hJ hk0 w (lv_sub (l' := [(0, .ref t0), (3, .long x3), (5, .int x5), (8, .int x8), (9, .int x9), (10, .ref a31), (11, va_rf y0)]) hl [1, 2, 3, 4, 5, 6, 0] rfl)
  · have hJ := nl_none ea31 hJ
    refine jv_aload hx hb dX8_nearest_61 (lv_at hl 0 rfl) ?_
    refine jv_ifnonnull (tgt := 70) hx hb dX8_nearest_63 (by decide) (fun a32 ea32 => ?_) (fun ea32 => ?_)
    · have hJ := nl_some ea32 hJ
      rw [ea32] at hl
      exact sb_X8_nearest_70 C hz2 N k23 t0 m23 i23 _ _ _ _ _ _ _ hJ hk0 w (lv_sub (l' := [(0, .ref t0), (3, .long x3), (5, .int x5), (8, .int x8), (9, .int x9), (10, va_rf x10), (11, .ref a32)]) hl [1, 2, 3, 4, 5, 6, 0] rfl)
    · have hJ := nl_none ea32 hJ
      refine lv_ldc2 (v := (-9223372036854775808 : Int64)) hx hb hown (hts _ tw_3_124) dX8_nearest_66 ?_
      obtain ⟨rfl, rfl⟩ := rs2 hJ
      exact jr_lret C w hz2 dX8_nearest_69
def B_X8_nearest_41 (N : Nat) (k23 : Hp → Int64 → Int32 → Int64 → Int32 → Int32 → Option (Hp × Int64)) (t0 : Nat) (h : Hp) (x3 : Int64) (x5 : Int32) (x6 : Int64) (x8 : Int32) (x9 : Int32) (y0 : Option Nat) : Option (Hp × Int64) := dr h 8 (h.fr 1100 t0) (fun a33 => (J_X5_nextChain N a33 h x6 x5).bind (fun z => B_X8_nearest_54 N k23 t0 z.1 x3 x5 x8 x9 y0 z.2))
theorem mb_X8_nearest_41 (N : Nat) (k23 : Hp → Int64 → Int32 → Int64 → Int32 → Int32 → Option (Hp × Int64)) (t0 : Nat) (h : Hp) (x3 : Int64) (x5 : Int32) (x6 : Int64) (x8 : Int32) (x9 : Int32) (y0 : Option Nat) (m23 : ∀ (h : Hp) (x3 : Int64) (x5 : Int32) (x6 : Int64) (x8 : Int32) (x9 : Int32), k23 h x3 x5 x6 x8 x9 = some (hz, rz) → Mo h hz) (hJ : B_X8_nearest_41 N k23 t0 h x3 x5 x6 x8 x9 y0 = some (hz, rz)) : Mo h hz := by
  unfold B_X8_nearest_41 at hJ
  obtain ⟨a33, ea33, -, hJ⟩ := dr_some hJ
  obtain ⟨⟨h34, r35⟩, e36, hJ⟩ := ob_some hJ
  exact (mo_X5_nextChain N a33 h x6 x5 e36).tr (mb_X8_nearest_54 N k23 t0 _ _ _ _ _ _ _ m23 hJ)
set_option maxRecDepth 100000 in
set_option maxHeartbeats 4000000 in
theorem sb_X8_nearest_41 (C : Cx p s m args meth c cX8_nearest 15 (some .long) RX8 D cs A h0.se) (hz2 : hz.nx ≤ h0.nx + mc ∧ hz.su ≤ h0.su + ms) (N : Nat) (k23 : Hp → Int64 → Int32 → Int64 → Int32 → Int32 → Option (Hp × Int64)) (t0 : Nat) (m23 : ∀ (h : Hp) (x3 : Int64) (x5 : Int32) (x6 : Int64) (x8 : Int32) (x9 : Int32), k23 h x3 x5 x6 x8 x9 = some (hz, rz) → Mo h hz) (i23 : ∀ (h : Hp) (x3 : Int64) (x5 : Int32) (x6 : Int64) (x8 : Int32) (x9 : Int32) (H : Heap) (locs : List Loc) (cells slots : Nat) (ls : Array Slot), k23 h x3 x5 x6 x8 x9 = some (hz, rz) → h.kd t0 = 11 → Wo D cs A s h0 h H locs cells slots → lv_has ls 15 [(0, .ref t0), (3, .long x3), (5, .int x5), (6, .long x6), (8, .int x8), (9, .int x9)] → W p l e { frames := 5, cells := mc, slots := ms, locals := 150 } s m args below meth c H locs cells slots (MQ below (Zl D cs A hz rz) args s mc ms A) (F0 m 23 ls [])) (h : Hp) (x3 : Int64) (x5 : Int32) (x6 : Int64) (x8 : Int32) (x9 : Int32) (y0 : Option Nat) (hJ : B_X8_nearest_41 N k23 t0 h x3 x5 x6 x8 x9 y0 = some (hz, rz)) (hk0 : h.kd t0 = 11) {H : Heap} {locs : List Loc} {cells slots : Nat} (w : Wo D cs A s h0 h H locs cells slots) {ls : Array Slot} (hl : lv_has ls 15 [(0, .ref t0), (3, .long x3), (5, .int x5), (6, .long x6), (8, .int x8), (9, .int x9)]) : W p l e { frames := 5, cells := mc, slots := ms, locals := 150 } s m args below meth c H locs cells slots (MQ below (Zl D cs A hz rz) args s mc ms A) (F0 m 41 ls [va_rf y0]) := by
  obtain ⟨hx, hb, hml, hown, hts, -⟩ := id C
  unfold B_X8_nearest_41 at hJ
  refine jv_astore (i := 10) (lv' := [(10, va_rf y0), (0, .ref t0), (3, .long x3), (5, .int x5), (6, .long x6), (8, .int x8), (9, .int x9)]) hx hb dX8_nearest_41 hl (by decide) rfl (fun ls hl => ?_)
  refine lv_aload_n hx hb dX8_nearest_43 rfl (lv_at hl 1 rfl) ?_
  refine fg_1100 C w hk0 tw_1_195 dX8_nearest_44 ?_
  refine lv_lload hx hb dX8_nearest_47 (lv_at hl 4 rfl) ?_
  refine lv_iload hx hb dX8_nearest_49 (lv_at hl 3 rfl) ?_
  obtain ⟨a33, ea33, hka33, hJ⟩ := dr_some hJ
  rw [ea33]
  obtain ⟨⟨h34, r35⟩, e36, hJ⟩ := ob_some hJ
  refine jc_Vq (As := [.long x6, .int x5]) C w (cc_X5_nextChain N a33 h x6 x5 hka33 e36) (mo_X5_nextChain N a33 h x6 x5 e36) (mb_X8_nearest_54 N k23 t0 _ _ _ _ _ _ _ m23 hJ) hz2 hka33 (by decide) rfl (fs := fs8 h a33) rfl rfl ⟨tw_3_123, tw_3_120, tw_3_121, tw_3_122, tw_1_2⟩ cd_X5_nextChain ⟨by decide, by decide⟩ hl.1 (by first | exact Nat.le_of_ble_eq_true rfl | simp [rf_cat, cat_i, cat_l, cat_r]) rfl dX8_nearest_51 (fun H locs w1 => ?_)
  have hk37 := kd_keep w (mo_X5_nextChain N a33 h x6 x5 e36) hk0 (by decide)
  have w := w1
  exact sb_X8_nearest_54 C hz2 N k23 t0 m23 i23 _ _ _ _ _ _ _ hJ hk37 w (lv_sub (l' := [(0, .ref t0), (3, .long x3), (5, .int x5), (8, .int x8), (9, .int x9), (10, va_rf y0)]) hl [1, 2, 3, 5, 6, 0] rfl)
def B_X8_nearest_23 (N : Nat) (k23 : Hp → Int64 → Int32 → Int64 → Int32 → Int32 → Option (Hp × Int64)) (t0 : Nat) (h : Hp) (x3 : Int64) (x5 : Int32) (x6 : Int64) (x8 : Int32) (x9 : Int32) : Option (Hp × Int64) := if x8 ≤ x9 then (some (h, (-9223372036854775808 : Int64))) else (dr h 8 (h.fr 1103 t0) (fun a39 => (J_X5_nextChain N a39 h x6 x5).bind (fun z => B_X8_nearest_41 N k23 t0 z.1 x3 x5 x6 x8 x9 z.2)))
theorem mb_X8_nearest_23 (N : Nat) (k23 : Hp → Int64 → Int32 → Int64 → Int32 → Int32 → Option (Hp × Int64)) (t0 : Nat) (h : Hp) (x3 : Int64) (x5 : Int32) (x6 : Int64) (x8 : Int32) (x9 : Int32) (m23 : ∀ (h : Hp) (x3 : Int64) (x5 : Int32) (x6 : Int64) (x8 : Int32) (x9 : Int32), k23 h x3 x5 x6 x8 x9 = some (hz, rz) → Mo h hz) (hJ : B_X8_nearest_23 N k23 t0 h x3 x5 x6 x8 x9 = some (hz, rz)) : Mo h hz := by
  unfold B_X8_nearest_23 at hJ
  by_cases c38 : x8 ≤ x9
  · have hJ := it_pos c38 hJ
    obtain ⟨rfl, -⟩ := rs2 hJ
    exact ⟨fun _ _ => rfl, Nat.le_refl _, Nat.le_refl _, rfl, fun _ _ => rfl⟩
  · have hJ := it_neg c38 hJ
    obtain ⟨a39, ea39, -, hJ⟩ := dr_some hJ
    obtain ⟨⟨h40, r41⟩, e42, hJ⟩ := ob_some hJ
    exact (mo_X5_nextChain N a39 h x6 x5 e42).tr (mb_X8_nearest_41 N k23 t0 _ _ _ _ _ _ _ m23 hJ)
set_option maxRecDepth 100000 in
set_option maxHeartbeats 4000000 in
theorem sb_X8_nearest_23 (C : Cx p s m args meth c cX8_nearest 15 (some .long) RX8 D cs A h0.se) (hz2 : hz.nx ≤ h0.nx + mc ∧ hz.su ≤ h0.su + ms) (N : Nat) (k23 : Hp → Int64 → Int32 → Int64 → Int32 → Int32 → Option (Hp × Int64)) (t0 : Nat) (m23 : ∀ (h : Hp) (x3 : Int64) (x5 : Int32) (x6 : Int64) (x8 : Int32) (x9 : Int32), k23 h x3 x5 x6 x8 x9 = some (hz, rz) → Mo h hz) (i23 : ∀ (h : Hp) (x3 : Int64) (x5 : Int32) (x6 : Int64) (x8 : Int32) (x9 : Int32) (H : Heap) (locs : List Loc) (cells slots : Nat) (ls : Array Slot), k23 h x3 x5 x6 x8 x9 = some (hz, rz) → h.kd t0 = 11 → Wo D cs A s h0 h H locs cells slots → lv_has ls 15 [(0, .ref t0), (3, .long x3), (5, .int x5), (6, .long x6), (8, .int x8), (9, .int x9)] → W p l e { frames := 5, cells := mc, slots := ms, locals := 150 } s m args below meth c H locs cells slots (MQ below (Zl D cs A hz rz) args s mc ms A) (F0 m 23 ls [])) (h : Hp) (x3 : Int64) (x5 : Int32) (x6 : Int64) (x8 : Int32) (x9 : Int32) (hJ : B_X8_nearest_23 N k23 t0 h x3 x5 x6 x8 x9 = some (hz, rz)) (hk0 : h.kd t0 = 11) {H : Heap} {locs : List Loc} {cells slots : Nat} (w : Wo D cs A s h0 h H locs cells slots) {ls : Array Slot} (hl : lv_has ls 15 [(0, .ref t0), (3, .long x3), (5, .int x5), (6, .long x6), (8, .int x8), (9, .int x9)]) : W p l e { frames := 5, cells := mc, slots := ms, locals := 150 } s m args below meth c H locs cells slots (MQ below (Zl D cs A hz rz) args s mc ms A) (F0 m 23 ls []) := by
  obtain ⟨hx, hb, hml, hown, hts, -⟩ := id C
  unfold B_X8_nearest_23 at hJ
  refine lv_iload hx hb dX8_nearest_23 (lv_at hl 5 rfl) ?_
  refine lv_iload hx hb dX8_nearest_25 (lv_at hl 4 rfl) ?_
  refine lv_icmp_ge (tgt := 250) hx hb dX8_nearest_27 (by decide) (fun c38 => ?_) (fun c38 => ?_)
  · have hJ := it_pos c38 hJ
    refine lv_ldc2 (v := (-9223372036854775808 : Int64)) hx hb hown (hts _ tw_3_124) dX8_nearest_250 ?_
    obtain ⟨rfl, rfl⟩ := rs2 hJ
    exact jr_lret C w hz2 dX8_nearest_253
  · have hJ := it_neg c38 hJ
    refine lv_aload_n hx hb dX8_nearest_30 rfl (lv_at hl 0 rfl) ?_
    refine fg_1103 C w hk0 tw_1_200 dX8_nearest_31 ?_
    refine lv_lload hx hb dX8_nearest_34 (lv_at hl 3 rfl) ?_
    refine lv_iload hx hb dX8_nearest_36 (lv_at hl 2 rfl) ?_
    obtain ⟨a39, ea39, hka39, hJ⟩ := dr_some hJ
    rw [ea39]
    obtain ⟨⟨h40, r41⟩, e42, hJ⟩ := ob_some hJ
    refine jc_Vq (As := [.long x6, .int x5]) C w (cc_X5_nextChain N a39 h x6 x5 hka39 e42) (mo_X5_nextChain N a39 h x6 x5 e42) (mb_X8_nearest_41 N k23 t0 _ _ _ _ _ _ _ m23 hJ) hz2 hka39 (by decide) rfl (fs := fs8 h a39) rfl rfl ⟨tw_3_123, tw_3_120, tw_3_121, tw_3_122, tw_1_2⟩ cd_X5_nextChain ⟨by decide, by decide⟩ hl.1 (by first | exact Nat.le_of_ble_eq_true rfl | simp [rf_cat, cat_i, cat_l, cat_r]) rfl dX8_nearest_38 (fun H locs w1 => ?_)
    have hk43 := kd_keep w (mo_X5_nextChain N a39 h x6 x5 e42) hk0 (by decide)
    have w := w1
    exact sb_X8_nearest_41 C hz2 N k23 t0 m23 i23 _ _ _ _ _ _ _ hJ hk43 w hl
def L_X8_nearest_23 (N : Nat) (t0 : Nat) : Nat → Hp → Int64 → Int32 → Int64 → Int32 → Int32 → Option (Hp × Int64)
  | 0 => fun _ _ _ _ _ _ => none
  | n + 1 => fun h x3 x5 x6 x8 x9 => B_X8_nearest_23 N (L_X8_nearest_23 N t0 n) t0 h x3 x5 x6 x8 x9
theorem ml_X8_nearest_23 (N : Nat) (t0 : Nat) : ∀ (n : Nat) (h : Hp) (x3 : Int64) (x5 : Int32) (x6 : Int64) (x8 : Int32) (x9 : Int32), L_X8_nearest_23 N t0 n h x3 x5 x6 x8 x9 = some (hz, rz) → Mo h hz := by
  intro n
  induction n with
  | zero => intro h x3 x5 x6 x8 x9 hJ; cases hJ
  | succ n ih => intro h x3 x5 x6 x8 x9 hJ; exact mb_X8_nearest_23 N (L_X8_nearest_23 N t0 n) t0 h x3 x5 x6 x8 x9 ih hJ
theorem sl_X8_nearest_23 (C : Cx p s m args meth c cX8_nearest 15 (some .long) RX8 D cs A h0.se) (hz2 : hz.nx ≤ h0.nx + mc ∧ hz.su ≤ h0.su + ms) (N : Nat) (t0 : Nat) : ∀ n : Nat, ∀ (h : Hp) (x3 : Int64) (x5 : Int32) (x6 : Int64) (x8 : Int32) (x9 : Int32) (H : Heap) (locs : List Loc) (cells slots : Nat) (ls : Array Slot), L_X8_nearest_23 N t0 n h x3 x5 x6 x8 x9 = some (hz, rz) → h.kd t0 = 11 → Wo D cs A s h0 h H locs cells slots → lv_has ls 15 [(0, .ref t0), (3, .long x3), (5, .int x5), (6, .long x6), (8, .int x8), (9, .int x9)] → W p l e { frames := 5, cells := mc, slots := ms, locals := 150 } s m args below meth c H locs cells slots (MQ below (Zl D cs A hz rz) args s mc ms A) (F0 m 23 ls []) := by
  intro n
  induction n with
  | zero => intro h x3 x5 x6 x8 x9 H locs cells slots ls hJ; cases hJ
  | succ n ih =>
    intro h x3 x5 x6 x8 x9 H locs cells slots ls hJ hk0 w hl
    exact sb_X8_nearest_23 C hz2 N (L_X8_nearest_23 N t0 n) t0 (ml_X8_nearest_23 N t0 n) ih h x3 x5 x6 x8 x9 hJ hk0 w hl
def B_X8_nearest_17 (N : Nat) (t0 : Nat) (h : Hp) (x3 : Int64) (x5 : Int32) (x6 : Int64) (y0 : Int32) (y1 : Int32) : Option (Hp × Int64) := L_X8_nearest_23 N t0 N h x3 x5 x6 (y0 + y1) (0 : Int32)
theorem mb_X8_nearest_17 (N : Nat) (t0 : Nat) (h : Hp) (x3 : Int64) (x5 : Int32) (x6 : Int64) (y0 : Int32) (y1 : Int32) (hJ : B_X8_nearest_17 N t0 h x3 x5 x6 y0 y1 = some (hz, rz)) : Mo h hz := by
  unfold B_X8_nearest_17 at hJ
  exact ml_X8_nearest_23 N t0 N _ _ _ _ _ _ hJ
set_option maxRecDepth 100000 in
set_option maxHeartbeats 4000000 in
theorem sb_X8_nearest_17 (C : Cx p s m args meth c cX8_nearest 15 (some .long) RX8 D cs A h0.se) (hz2 : hz.nx ≤ h0.nx + mc ∧ hz.su ≤ h0.su + ms) (N : Nat) (t0 : Nat) (h : Hp) (x3 : Int64) (x5 : Int32) (x6 : Int64) (y0 : Int32) (y1 : Int32) (hJ : B_X8_nearest_17 N t0 h x3 x5 x6 y0 y1 = some (hz, rz)) (hk0 : h.kd t0 = 11) {H : Heap} {locs : List Loc} {cells slots : Nat} (w : Wo D cs A s h0 h H locs cells slots) {ls : Array Slot} (hl : lv_has ls 15 [(0, .ref t0), (3, .long x3), (5, .int x5), (6, .long x6)]) : W p l e { frames := 5, cells := mc, slots := ms, locals := 150 } s m args below meth c H locs cells slots (MQ below (Zl D cs A hz rz) args s mc ms A) (F0 m 17 ls [.int y1, .int y0]) := by
  obtain ⟨hx, hb, hml, hown, hts, -⟩ := id C
  unfold B_X8_nearest_17 at hJ
  refine lv_iadd hx hb dX8_nearest_17 ?_
  refine lv_istore (i := 8) (lv' := [(8, .int (y0 + y1)), (0, .ref t0), (3, .long x3), (5, .int x5), (6, .long x6)]) hx hb dX8_nearest_18 hl (by decide) rfl (fun ls hl => ?_)
  refine lv_iconst (v := (0 : Int32)) hx hb dX8_nearest_20 (by decide) ?_
  refine lv_istore (i := 9) (lv' := [(9, .int (0 : Int32)), (8, .int (y0 + y1)), (0, .ref t0), (3, .long x3), (5, .int x5), (6, .long x6)]) hx hb dX8_nearest_21 hl (by decide) rfl (fun ls hl => ?_)
  exact sl_X8_nearest_23 C hz2 N t0 N _ _ _ _ _ _ _ _ _ _ _ hJ hk0 w (lv_sub (l' := [(0, .ref t0), (3, .long x3), (5, .int x5), (6, .long x6), (8, .int (y0 + y1)), (9, .int (0 : Int32))]) hl [2, 3, 4, 5, 1, 0] rfl)
def B_X8_nearest_10 (N : Nat) (t0 : Nat) (h : Hp) (x3 : Int64) (x5 : Int32) (x6 : Int64) (y0 : Int32) : Option (Hp × Int64) := dr h 8 (h.fr 1103 t0) (fun a44 => (J_X5_size N a44 h).bind (fun z => B_X8_nearest_17 N t0 z.1 x3 x5 x6 y0 z.2))
theorem mb_X8_nearest_10 (N : Nat) (t0 : Nat) (h : Hp) (x3 : Int64) (x5 : Int32) (x6 : Int64) (y0 : Int32) (hJ : B_X8_nearest_10 N t0 h x3 x5 x6 y0 = some (hz, rz)) : Mo h hz := by
  unfold B_X8_nearest_10 at hJ
  obtain ⟨a44, ea44, -, hJ⟩ := dr_some hJ
  obtain ⟨⟨h45, r46⟩, e47, hJ⟩ := ob_some hJ
  exact (mo_X5_size N a44 h e47).tr (mb_X8_nearest_17 N t0 _ _ _ _ _ _ hJ)
set_option maxRecDepth 100000 in
set_option maxHeartbeats 4000000 in
theorem sb_X8_nearest_10 (C : Cx p s m args meth c cX8_nearest 15 (some .long) RX8 D cs A h0.se) (hz2 : hz.nx ≤ h0.nx + mc ∧ hz.su ≤ h0.su + ms) (N : Nat) (t0 : Nat) (h : Hp) (x3 : Int64) (x5 : Int32) (x6 : Int64) (y0 : Int32) (hJ : B_X8_nearest_10 N t0 h x3 x5 x6 y0 = some (hz, rz)) (hk0 : h.kd t0 = 11) {H : Heap} {locs : List Loc} {cells slots : Nat} (w : Wo D cs A s h0 h H locs cells slots) {ls : Array Slot} (hl : lv_has ls 15 [(0, .ref t0), (3, .long x3), (5, .int x5), (6, .long x6)]) : W p l e { frames := 5, cells := mc, slots := ms, locals := 150 } s m args below meth c H locs cells slots (MQ below (Zl D cs A hz rz) args s mc ms A) (F0 m 10 ls [.int y0]) := by
  obtain ⟨hx, hb, hml, hown, hts, -⟩ := id C
  unfold B_X8_nearest_10 at hJ
  refine lv_aload_n hx hb dX8_nearest_10 rfl (lv_at hl 0 rfl) ?_
  refine fg_1103 C w hk0 tw_1_200 dX8_nearest_11 ?_
  obtain ⟨a44, ea44, hka44, hJ⟩ := dr_some hJ
  rw [ea44]
  obtain ⟨⟨h45, r46⟩, e47, hJ⟩ := ob_some hJ
  refine jc_Vi (As := []) C w (cc_X5_size N a44 h hka44 e47) (mo_X5_size N a44 h e47) (mb_X8_nearest_17 N t0 _ _ _ _ _ _ hJ) hz2 hka44 (by decide) rfl (fs := fs8 h a44) rfl rfl ⟨tw_2_181, tw_3_119, tw_2_179, tw_2_180, tw_1_2⟩ cd_X5_size ⟨by decide, by decide⟩ hl.1 (by first | exact Nat.le_of_ble_eq_true rfl | simp [rf_cat, cat_i, cat_l, cat_r]) rfl dX8_nearest_14 (fun H locs w1 => ?_)
  have hk48 := kd_keep w (mo_X5_size N a44 h e47) hk0 (by decide)
  have w := w1
  exact sb_X8_nearest_17 C hz2 N t0 _ _ _ _ _ _ hJ hk48 w hl
def B_X8_nearest_0 (N : Nat) (t0 : Nat) (h : Hp) (x1 : Int64) (x3 : Int64) (x5 : Int32) : Option (Hp × Int64) := dr h 8 (h.fr 1100 t0) (fun a49 => (J_X5_size N a49 h).bind (fun z => B_X8_nearest_10 N t0 z.1 x3 x5 x1 z.2))
theorem mb_X8_nearest_0 (N : Nat) (t0 : Nat) (h : Hp) (x1 : Int64) (x3 : Int64) (x5 : Int32) (hJ : B_X8_nearest_0 N t0 h x1 x3 x5 = some (hz, rz)) : Mo h hz := by
  unfold B_X8_nearest_0 at hJ
  obtain ⟨a49, ea49, -, hJ⟩ := dr_some hJ
  obtain ⟨⟨h50, r51⟩, e52, hJ⟩ := ob_some hJ
  exact (mo_X5_size N a49 h e52).tr (mb_X8_nearest_10 N t0 _ _ _ _ _ hJ)
set_option maxRecDepth 100000 in
set_option maxHeartbeats 4000000 in
theorem sb_X8_nearest_0 (C : Cx p s m args meth c cX8_nearest 15 (some .long) RX8 D cs A h0.se) (hz2 : hz.nx ≤ h0.nx + mc ∧ hz.su ≤ h0.su + ms) (N : Nat) (t0 : Nat) (h : Hp) (x1 : Int64) (x3 : Int64) (x5 : Int32) (hJ : B_X8_nearest_0 N t0 h x1 x3 x5 = some (hz, rz)) (hk0 : h.kd t0 = 11) {H : Heap} {locs : List Loc} {cells slots : Nat} (w : Wo D cs A s h0 h H locs cells slots) {ls : Array Slot} (hl : lv_has ls 15 [(0, .ref t0), (1, .long x1), (3, .long x3), (5, .int x5)]) : W p l e { frames := 5, cells := mc, slots := ms, locals := 150 } s m args below meth c H locs cells slots (MQ below (Zl D cs A hz rz) args s mc ms A) (F0 m 0 ls []) := by
  obtain ⟨hx, hb, hml, hown, hts, -⟩ := id C
  unfold B_X8_nearest_0 at hJ
  refine lv_lload_n hx hb dX8_nearest_0 rfl (lv_at hl 1 rfl) ?_
  refine lv_lstore (i := 6) (lv' := [(6, .long x1), (0, .ref t0), (1, .long x1), (3, .long x3), (5, .int x5)]) hx hb dX8_nearest_1 hl (by decide) rfl (fun ls hl => ?_)
  refine lv_aload_n hx hb dX8_nearest_3 rfl (lv_at hl 1 rfl) ?_
  refine fg_1100 C w hk0 tw_1_195 dX8_nearest_4 ?_
  obtain ⟨a49, ea49, hka49, hJ⟩ := dr_some hJ
  rw [ea49]
  obtain ⟨⟨h50, r51⟩, e52, hJ⟩ := ob_some hJ
  refine jc_Vi (As := []) C w (cc_X5_size N a49 h hka49 e52) (mo_X5_size N a49 h e52) (mb_X8_nearest_10 N t0 _ _ _ _ _ hJ) hz2 hka49 (by decide) rfl (fs := fs8 h a49) rfl rfl ⟨tw_2_181, tw_3_119, tw_2_179, tw_2_180, tw_1_2⟩ cd_X5_size ⟨by decide, by decide⟩ hl.1 (by first | exact Nat.le_of_ble_eq_true rfl | simp [rf_cat, cat_i, cat_l, cat_r]) rfl dX8_nearest_7 (fun H locs w1 => ?_)
  have hk53 := kd_keep w (mo_X5_size N a49 h e52) hk0 (by decide)
  have w := w1
  exact sb_X8_nearest_10 C hz2 N t0 _ _ _ _ _ hJ hk53 w (lv_sub (l' := [(0, .ref t0), (3, .long x3), (5, .int x5), (6, .long x1)]) hl [1, 3, 4, 0] rfl)
def J_X8_nearest (N : Nat) (t0 : Nat) (h : Hp) (x1 : Int64) (x3 : Int64) (x5 : Int32) : Option (Hp × Int64) := B_X8_nearest_0 N t0 h x1 x3 x5
theorem mo_X8_nearest (N : Nat) (t0 : Nat) (h : Hp) (x1 : Int64) (x3 : Int64) (x5 : Int32) (hJ : J_X8_nearest N t0 h x1 x3 x5 = some (hz, rz)) : Mo h hz := mb_X8_nearest_0 N t0 h x1 x3 x5 hJ
theorem cd_X8_nearest : Cd yX8_nearest 3 := ⟨by decide +kernel, by decide +kernel, by decide +kernel⟩
theorem cc_X8_nearest (N : Nat) (t0 : Nat) (h : Hp) (x1 : Int64) (x3 : Int64) (x5 : Int32) (hk0 : h.kd t0 = 11) (hJ : J_X8_nearest N t0 h x1 x3 x5 = some (hz, rz)) : Cl l yX8_nearest cX8_nearest 15 (some .long) 5 150 D cs h hz [.ref t0, .long x1, .long x3, .int x5] rz := by
  intro mc ms g1 g2
  refine je_any (by decide) (by simp [lg_sl, rf_cat, cat_i, cat_l, cat_r]) ?_
  intro p e s m args below meth c C hin2 w ls hl
  have hl : lv_has ls 15 [(0, .ref t0), (1, .long x1), (3, .long x3), (5, .int x5)] := hl
  exact sb_X8_nearest_0 C ⟨g1, g2⟩ N t0 h x1 x3 x5 hJ hk0 w hl
end G_X8_nearest
section G_X8_answerNear
variable {p : Program} {l : Launch} {e : Env} {s : State} {m : MethodId} {args : Array Value} {below : List Frame} {meth : Method} {c : Code} {D : va_G} {cs : C4} {A : Nat → Prop} {h0 hz : Hp} {mc ms : Nat}
def B_X8_answerNear_91 (N : Nat) (t0 : Nat) (h : Hp) : Option (Hp × Unit) := some (h, ())
theorem mb_X8_answerNear_91 (N : Nat) (t0 : Nat) (h : Hp) (hJ : B_X8_answerNear_91 N t0 h = some (hz, ())) : Mo h hz := by
  unfold B_X8_answerNear_91 at hJ
  obtain ⟨rfl, -⟩ := rs2 hJ
  exact ⟨fun _ _ => rfl, Nat.le_refl _, Nat.le_refl _, rfl, fun _ _ => rfl⟩
set_option maxRecDepth 100000 in
set_option maxHeartbeats 4000000 in
theorem sb_X8_answerNear_91 (C : Cx p s m args meth c cX8_answerNear 8 none RX8 D cs A h0.se) (hz2 : hz.nx ≤ h0.nx + mc ∧ hz.su ≤ h0.su + ms) (N : Nat) (t0 : Nat) (h : Hp) (hJ : B_X8_answerNear_91 N t0 h = some (hz, ())) (hk0 : h.kd t0 = 11) {H : Heap} {locs : List Loc} {cells slots : Nat} (w : Wo D cs A s h0 h H locs cells slots) {ls : Array Slot} (hl : lv_has ls 8 [(0, .ref t0)]) : W p l e { frames := 6, cells := mc, slots := ms, locals := 190 } s m args below meth c H locs cells slots (MQ below (Zv D cs A hz) args s mc ms A) (F0 m 91 ls []) := by
  obtain ⟨hx, hb, hml, hown, hts, -⟩ := id C
  unfold B_X8_answerNear_91 at hJ
  obtain ⟨rfl, -⟩ := rs2 hJ
  exact jr_vret C w hz2 dX8_answerNear_91
def B_X8_answerNear_88 (N : Nat) (t0 : Nat) (h : Hp) (y0 : Option Nat) (y1 : Int32) (y2 : Int32) : Option (Hp × Unit) := dr h 3 y0 (fun a1 => (J_X0_lookAt N a1 h y1 y2).bind (fun z => B_X8_answerNear_91 N t0 z.1))
theorem mb_X8_answerNear_88 (N : Nat) (t0 : Nat) (h : Hp) (y0 : Option Nat) (y1 : Int32) (y2 : Int32) (hJ : B_X8_answerNear_88 N t0 h y0 y1 y2 = some (hz, ())) : Mo h hz := by
  unfold B_X8_answerNear_88 at hJ
  obtain ⟨a1, ea1, -, hJ⟩ := dr_some hJ
  obtain ⟨⟨h2, r3⟩, e4, hJ⟩ := ob_some hJ
  exact (mo_X0_lookAt N a1 h y1 y2 e4).tr (mb_X8_answerNear_91 N t0 _ hJ)
set_option maxRecDepth 100000 in
set_option maxHeartbeats 4000000 in
theorem sb_X8_answerNear_88 (C : Cx p s m args meth c cX8_answerNear 8 none RX8 D cs A h0.se) (hz2 : hz.nx ≤ h0.nx + mc ∧ hz.su ≤ h0.su + ms) (N : Nat) (t0 : Nat) (h : Hp) (y0 : Option Nat) (y1 : Int32) (y2 : Int32) (hJ : B_X8_answerNear_88 N t0 h y0 y1 y2 = some (hz, ())) (hk0 : h.kd t0 = 11) {H : Heap} {locs : List Loc} {cells slots : Nat} (w : Wo D cs A s h0 h H locs cells slots) {ls : Array Slot} (hl : lv_has ls 8 [(0, .ref t0)]) : W p l e { frames := 6, cells := mc, slots := ms, locals := 190 } s m args below meth c H locs cells slots (MQ below (Zv D cs A hz) args s mc ms A) (F0 m 88 ls [.int y2, .int y1, va_rf y0]) := by
  obtain ⟨hx, hb, hml, hown, hts, -⟩ := id C
  unfold B_X8_answerNear_88 at hJ
  obtain ⟨a1, ea1, hka1, hJ⟩ := dr_some hJ
  rw [ea1]
  obtain ⟨⟨h2, r3⟩, e4, hJ⟩ := ob_some hJ
  refine jc_Vv (As := [.int y1, .int y2]) C w (cc_X0_lookAt N a1 h y1 y2 hka1 e4) (mo_X0_lookAt N a1 h y1 y2 e4) (mb_X8_answerNear_91 N t0 _ hJ) hz2 hka1 (by decide) rfl (fs := fs3 h a1) rfl rfl ⟨tw_3_108, tw_3_105, tw_3_106, tw_3_107, tw_1_6⟩ cd_X0_lookAt ⟨by decide, by decide⟩ hl.1 (by first | exact Nat.le_of_ble_eq_true rfl | simp [rf_cat, cat_i, cat_l, cat_r]) rfl dX8_answerNear_88 (fun H locs w1 => ?_)
  have hk5 := kd_keep w (mo_X0_lookAt N a1 h y1 y2 e4) hk0 (by decide)
  have w := w1
  exact sb_X8_answerNear_91 C hz2 N t0 _ hJ hk5 w hl
def B_X8_answerNear_78 (N : Nat) (t0 : Nat) (h : Hp) (x1 : Int32) (x2 : Int32) (x4 : Int32) (y0 : Option Nat) (y1 : Int32) : Option (Hp × Unit) := if x2 = 0 then (B_X8_answerNear_88 N t0 h y0 y1 x1) else (B_X8_answerNear_88 N t0 h y0 y1 x4)
theorem mb_X8_answerNear_78 (N : Nat) (t0 : Nat) (h : Hp) (x1 : Int32) (x2 : Int32) (x4 : Int32) (y0 : Option Nat) (y1 : Int32) (hJ : B_X8_answerNear_78 N t0 h x1 x2 x4 y0 y1 = some (hz, ())) : Mo h hz := by
  unfold B_X8_answerNear_78 at hJ
  by_cases c6 : x2 = 0
  · have hJ := it_pos c6 hJ
    exact mb_X8_answerNear_88 N t0 _ _ _ _ hJ
  · have hJ := it_neg c6 hJ
    exact mb_X8_answerNear_88 N t0 _ _ _ _ hJ
set_option maxRecDepth 100000 in
set_option maxHeartbeats 4000000 in
theorem sb_X8_answerNear_78 (C : Cx p s m args meth c cX8_answerNear 8 none RX8 D cs A h0.se) (hz2 : hz.nx ≤ h0.nx + mc ∧ hz.su ≤ h0.su + ms) (N : Nat) (t0 : Nat) (h : Hp) (x1 : Int32) (x2 : Int32) (x4 : Int32) (y0 : Option Nat) (y1 : Int32) (hJ : B_X8_answerNear_78 N t0 h x1 x2 x4 y0 y1 = some (hz, ())) (hk0 : h.kd t0 = 11) {H : Heap} {locs : List Loc} {cells slots : Nat} (w : Wo D cs A s h0 h H locs cells slots) {ls : Array Slot} (hl : lv_has ls 8 [(0, .ref t0), (1, .int x1), (2, .int x2), (4, .int x4)]) : W p l e { frames := 6, cells := mc, slots := ms, locals := 190 } s m args below meth c H locs cells slots (MQ below (Zv D cs A hz) args s mc ms A) (F0 m 78 ls [.int y1, va_rf y0]) := by
  obtain ⟨hx, hb, hml, hown, hts, -⟩ := id C
  unfold B_X8_answerNear_78 at hJ
  refine lv_iload_n hx hb dX8_answerNear_78 rfl (lv_at hl 2 rfl) ?_
  refine lv_if_eq (tgt := 87) hx hb dX8_answerNear_79 (by decide) (fun c6 => ?_) (fun c6 => ?_)
  · have hJ := it_pos c6 hJ
    refine lv_iload_n hx hb dX8_answerNear_87 rfl (lv_at hl 1 rfl) ?_
    exact sb_X8_answerNear_88 C hz2 N t0 _ _ _ _ hJ hk0 w (lv_sub (l' := [(0, .ref t0)]) hl [0] rfl)
  · have hJ := it_neg c6 hJ
    refine lv_iload hx hb dX8_answerNear_82 (lv_at hl 3 rfl) ?_
    refine lv_goto (tgt := 88) hx hb dX8_answerNear_84 (by decide) ?_
    exact sb_X8_answerNear_88 C hz2 N t0 _ _ _ _ hJ hk0 w (lv_sub (l' := [(0, .ref t0)]) hl [0] rfl)
def B_X8_answerNear_67 (N : Nat) (t0 : Nat) (h : Hp) (x1 : Int32) (x2 : Int32) (x3 : Option Nat) (x4 : Int32) : Option (Hp × Unit) := if x2 = 0 then (B_X8_answerNear_78 N t0 h x1 x2 x4 x3 x4) else (B_X8_answerNear_78 N t0 h x1 x2 x4 x3 x1)
theorem mb_X8_answerNear_67 (N : Nat) (t0 : Nat) (h : Hp) (x1 : Int32) (x2 : Int32) (x3 : Option Nat) (x4 : Int32) (hJ : B_X8_answerNear_67 N t0 h x1 x2 x3 x4 = some (hz, ())) : Mo h hz := by
  unfold B_X8_answerNear_67 at hJ
  by_cases c7 : x2 = 0
  · have hJ := it_pos c7 hJ
    exact mb_X8_answerNear_78 N t0 _ _ _ _ _ _ hJ
  · have hJ := it_neg c7 hJ
    exact mb_X8_answerNear_78 N t0 _ _ _ _ _ _ hJ
set_option maxRecDepth 100000 in
set_option maxHeartbeats 4000000 in
theorem sb_X8_answerNear_67 (C : Cx p s m args meth c cX8_answerNear 8 none RX8 D cs A h0.se) (hz2 : hz.nx ≤ h0.nx + mc ∧ hz.su ≤ h0.su + ms) (N : Nat) (t0 : Nat) (h : Hp) (x1 : Int32) (x2 : Int32) (x3 : Option Nat) (x4 : Int32) (hJ : B_X8_answerNear_67 N t0 h x1 x2 x3 x4 = some (hz, ())) (hk0 : h.kd t0 = 11) {H : Heap} {locs : List Loc} {cells slots : Nat} (w : Wo D cs A s h0 h H locs cells slots) {ls : Array Slot} (hl : lv_has ls 8 [(0, .ref t0), (1, .int x1), (2, .int x2), (3, va_rf x3), (4, .int x4)]) : W p l e { frames := 6, cells := mc, slots := ms, locals := 190 } s m args below meth c H locs cells slots (MQ below (Zv D cs A hz) args s mc ms A) (F0 m 67 ls []) := by
  obtain ⟨hx, hb, hml, hown, hts, -⟩ := id C
  unfold B_X8_answerNear_67 at hJ
  refine jv_aload_n hx hb dX8_answerNear_67 rfl (lv_at hl 3 rfl) ?_
  refine lv_iload_n hx hb dX8_answerNear_68 rfl (lv_at hl 2 rfl) ?_
  refine lv_if_eq (tgt := 76) hx hb dX8_answerNear_69 (by decide) (fun c7 => ?_) (fun c7 => ?_)
  · have hJ := it_pos c7 hJ
    refine lv_iload hx hb dX8_answerNear_76 (lv_at hl 4 rfl) ?_
    exact sb_X8_answerNear_78 C hz2 N t0 _ _ _ _ _ _ hJ hk0 w (lv_sub (l' := [(0, .ref t0), (1, .int x1), (2, .int x2), (4, .int x4)]) hl [0, 1, 2, 4] rfl)
  · have hJ := it_neg c7 hJ
    refine lv_iload_n hx hb dX8_answerNear_72 rfl (lv_at hl 1 rfl) ?_
    refine lv_goto (tgt := 78) hx hb dX8_answerNear_73 (by decide) ?_
    exact sb_X8_answerNear_78 C hz2 N t0 _ _ _ _ _ _ hJ hk0 w (lv_sub (l' := [(0, .ref t0), (1, .int x1), (2, .int x2), (4, .int x4)]) hl [0, 1, 2, 4] rfl)
def B_X8_answerNear_64 (N : Nat) (t0 : Nat) (h : Hp) (x1 : Int32) (x2 : Int32) (x3 : Option Nat) (x4 : Int32) (y0 : Option Nat) (y1 : Int32) (y2 : Int64) : Option (Hp × Unit) := dr h 3 y0 (fun a8 => (J_X0_find N a8 h y1 y2).bind (fun z => B_X8_answerNear_67 N t0 z.1 x1 x2 x3 x4))
theorem mb_X8_answerNear_64 (N : Nat) (t0 : Nat) (h : Hp) (x1 : Int32) (x2 : Int32) (x3 : Option Nat) (x4 : Int32) (y0 : Option Nat) (y1 : Int32) (y2 : Int64) (hJ : B_X8_answerNear_64 N t0 h x1 x2 x3 x4 y0 y1 y2 = some (hz, ())) : Mo h hz := by
  unfold B_X8_answerNear_64 at hJ
  obtain ⟨a8, ea8, -, hJ⟩ := dr_some hJ
  obtain ⟨⟨h9, r10⟩, e11, hJ⟩ := ob_some hJ
  exact (mo_X0_find N a8 h y1 y2 e11).tr (mb_X8_answerNear_67 N t0 _ _ _ _ _ hJ)
set_option maxRecDepth 100000 in
set_option maxHeartbeats 4000000 in
theorem sb_X8_answerNear_64 (C : Cx p s m args meth c cX8_answerNear 8 none RX8 D cs A h0.se) (hz2 : hz.nx ≤ h0.nx + mc ∧ hz.su ≤ h0.su + ms) (N : Nat) (t0 : Nat) (h : Hp) (x1 : Int32) (x2 : Int32) (x3 : Option Nat) (x4 : Int32) (y0 : Option Nat) (y1 : Int32) (y2 : Int64) (hJ : B_X8_answerNear_64 N t0 h x1 x2 x3 x4 y0 y1 y2 = some (hz, ())) (hk0 : h.kd t0 = 11) {H : Heap} {locs : List Loc} {cells slots : Nat} (w : Wo D cs A s h0 h H locs cells slots) {ls : Array Slot} (hl : lv_has ls 8 [(0, .ref t0), (1, .int x1), (2, .int x2), (3, va_rf x3), (4, .int x4)]) : W p l e { frames := 6, cells := mc, slots := ms, locals := 190 } s m args below meth c H locs cells slots (MQ below (Zv D cs A hz) args s mc ms A) (F0 m 64 ls [.long y2, .int y1, va_rf y0]) := by
  obtain ⟨hx, hb, hml, hown, hts, -⟩ := id C
  unfold B_X8_answerNear_64 at hJ
  obtain ⟨a8, ea8, hka8, hJ⟩ := dr_some hJ
  rw [ea8]
  obtain ⟨⟨h9, r10⟩, e11, hJ⟩ := ob_some hJ
  refine jc_Vv (As := [.int y1, .long y2]) C w (cc_X0_find N a8 h y1 y2 hka8 e11) (mo_X0_find N a8 h y1 y2 e11) (mb_X8_answerNear_67 N t0 _ _ _ _ _ hJ) hz2 hka8 (by decide) rfl (fs := fs3 h a8) rfl rfl ⟨tw_3_104, tw_3_101, tw_3_102, tw_3_103, tw_1_6⟩ cd_X0_find ⟨by decide, by decide⟩ hl.1 (by first | exact Nat.le_of_ble_eq_true rfl | simp [rf_cat, cat_i, cat_l, cat_r]) rfl dX8_answerNear_64 (fun H locs w1 => ?_)
  have hk12 := kd_keep w (mo_X0_find N a8 h y1 y2 e11) hk0 (by decide)
  have w := w1
  exact sb_X8_answerNear_67 C hz2 N t0 _ _ _ _ _ hJ hk12 w hl
def B_X8_answerNear_45 (N : Nat) (t0 : Nat) (h : Hp) (x1 : Int32) (x2 : Int32) (x3 : Option Nat) (x4 : Int32) (y0 : Option Nat) : Option (Hp × Unit) := nl y0 (B_X8_answerNear_64 N t0 h x1 x2 x3 x4 x3 x4 (0 : Int64)) (fun a13 => ck (h.kd a13 = 7) (B_X8_answerNear_64 N t0 h x1 x2 x3 x4 x3 x4 (h.fl 703 a13)))
theorem mb_X8_answerNear_45 (N : Nat) (t0 : Nat) (h : Hp) (x1 : Int32) (x2 : Int32) (x3 : Option Nat) (x4 : Int32) (y0 : Option Nat) (hJ : B_X8_answerNear_45 N t0 h x1 x2 x3 x4 y0 = some (hz, ())) : Mo h hz := by
  unfold B_X8_answerNear_45 at hJ
  cases ea13 : y0 with
  | none =>
    have hJ := nl_none ea13 hJ
    exact mb_X8_answerNear_64 N t0 _ _ _ _ _ _ _ _ hJ
  | some a13 =>
    have hJ := nl_some ea13 hJ
    obtain ⟨-, hJ⟩ := ck_some hJ
    exact mb_X8_answerNear_64 N t0 _ _ _ _ _ _ _ _ hJ
set_option maxRecDepth 100000 in
set_option maxHeartbeats 4000000 in
theorem sb_X8_answerNear_45 (C : Cx p s m args meth c cX8_answerNear 8 none RX8 D cs A h0.se) (hz2 : hz.nx ≤ h0.nx + mc ∧ hz.su ≤ h0.su + ms) (N : Nat) (t0 : Nat) (h : Hp) (x1 : Int32) (x2 : Int32) (x3 : Option Nat) (x4 : Int32) (y0 : Option Nat) (hJ : B_X8_answerNear_45 N t0 h x1 x2 x3 x4 y0 = some (hz, ())) (hk0 : h.kd t0 = 11) {H : Heap} {locs : List Loc} {cells slots : Nat} (w : Wo D cs A s h0 h H locs cells slots) {ls : Array Slot} (hl : lv_has ls 8 [(0, .ref t0), (1, .int x1), (2, .int x2), (3, va_rf x3), (4, .int x4)]) : W p l e { frames := 6, cells := mc, slots := ms, locals := 190 } s m args below meth c H locs cells slots (MQ below (Zv D cs A hz) args s mc ms A) (F0 m 45 ls [va_rf y0]) := by
  obtain ⟨hx, hb, hml, hown, hts, -⟩ := id C
  unfold B_X8_answerNear_45 at hJ
  refine jv_astore (i := 7) (lv' := [(7, va_rf y0), (0, .ref t0), (1, .int x1), (2, .int x2), (3, va_rf x3), (4, .int x4)]) hx hb dX8_answerNear_45 hl (by decide) rfl (fun ls hl => ?_)
  refine jv_aload_n hx hb dX8_answerNear_47 rfl (lv_at hl 4 rfl) ?_
  refine lv_iload hx hb dX8_answerNear_48 (lv_at hl 5 rfl) ?_
  refine jv_aload hx hb dX8_answerNear_50 (lv_at hl 0 rfl) ?_
  refine jv_ifnonnull (tgt := 59) hx hb dX8_answerNear_52 (by decide) (fun a13 ea13 => ?_) (fun ea13 => ?_)
  · have hJ := nl_some ea13 hJ
    rw [ea13] at hl
    refine lv_aload hx hb dX8_answerNear_59 (lv_at hl 0 rfl) ?_
    obtain ⟨hk14, hJ⟩ := ck_some hJ
    refine fg_703 C w hk14 tw_5_26 dX8_answerNear_61 ?_
    exact sb_X8_answerNear_64 C hz2 N t0 _ _ _ _ _ _ _ _ hJ hk0 w (lv_sub (l' := [(0, .ref t0), (1, .int x1), (2, .int x2), (3, va_rf x3), (4, .int x4)]) hl [1, 2, 3, 4, 5] rfl)
  · have hJ := nl_none ea13 hJ
    refine lv_lconst (v := (0 : Int64)) hx hb dX8_answerNear_55 (by decide) ?_
    refine lv_goto (tgt := 64) hx hb dX8_answerNear_56 (by decide) ?_
    exact sb_X8_answerNear_64 C hz2 N t0 _ _ _ _ _ _ _ _ hJ hk0 w (lv_sub (l' := [(0, .ref t0), (1, .int x1), (2, .int x2), (3, va_rf x3), (4, .int x4)]) hl [1, 2, 3, 4, 5] rfl)
def B_X8_answerNear_23 (N : Nat) (t0 : Nat) (h : Hp) (x1 : Int32) (x2 : Int32) (x3 : Option Nat) (x4 : Int32) (y0 : Int64) : Option (Hp × Unit) := if (lg_cmp y0 (-9223372036854775808 : Int64)) = 0 then (B_X8_answerNear_67 N t0 h x1 x2 x3 x4) else ((J_X8_seen N t0 h y0.toInt32).bind (fun z => B_X8_answerNear_45 N t0 z.1 x1 x2 x3 y0.toInt32 z.2))
theorem mb_X8_answerNear_23 (N : Nat) (t0 : Nat) (h : Hp) (x1 : Int32) (x2 : Int32) (x3 : Option Nat) (x4 : Int32) (y0 : Int64) (hJ : B_X8_answerNear_23 N t0 h x1 x2 x3 x4 y0 = some (hz, ())) : Mo h hz := by
  unfold B_X8_answerNear_23 at hJ
  by_cases c15 : (lg_cmp y0 (-9223372036854775808 : Int64)) = 0
  · have hJ := it_pos c15 hJ
    exact mb_X8_answerNear_67 N t0 _ _ _ _ _ hJ
  · have hJ := it_neg c15 hJ
    obtain ⟨⟨h16, r17⟩, e18, hJ⟩ := ob_some hJ
    exact (mo_X8_seen N t0 h y0.toInt32 e18).tr (mb_X8_answerNear_45 N t0 _ _ _ _ _ _ hJ)
set_option maxRecDepth 100000 in
set_option maxHeartbeats 4000000 in
theorem sb_X8_answerNear_23 (C : Cx p s m args meth c cX8_answerNear 8 none RX8 D cs A h0.se) (hz2 : hz.nx ≤ h0.nx + mc ∧ hz.su ≤ h0.su + ms) (N : Nat) (t0 : Nat) (h : Hp) (x1 : Int32) (x2 : Int32) (x3 : Option Nat) (x4 : Int32) (y0 : Int64) (hJ : B_X8_answerNear_23 N t0 h x1 x2 x3 x4 y0 = some (hz, ())) (hk0 : h.kd t0 = 11) {H : Heap} {locs : List Loc} {cells slots : Nat} (w : Wo D cs A s h0 h H locs cells slots) {ls : Array Slot} (hl : lv_has ls 8 [(0, .ref t0), (1, .int x1), (2, .int x2), (3, va_rf x3), (4, .int x4)]) : W p l e { frames := 6, cells := mc, slots := ms, locals := 190 } s m args below meth c H locs cells slots (MQ below (Zv D cs A hz) args s mc ms A) (F0 m 23 ls [.long y0]) := by
  obtain ⟨hx, hb, hml, hown, hts, -⟩ := id C
  unfold B_X8_answerNear_23 at hJ
  refine lv_lstore (i := 5) (lv' := [(5, .long y0), (0, .ref t0), (1, .int x1), (2, .int x2), (3, va_rf x3), (4, .int x4)]) hx hb dX8_answerNear_23 hl (by decide) rfl (fun ls hl => ?_)
  refine lv_lload hx hb dX8_answerNear_25 (lv_at hl 0 rfl) ?_
  refine lv_ldc2 (v := (-9223372036854775808 : Int64)) hx hb hown (hts _ tw_3_124) dX8_answerNear_27 ?_
  refine W.lcmp hx hb dX8_answerNear_30 ?_
  refine lv_if_eq (tgt := 67) hx hb dX8_answerNear_31 (by decide) (fun c15 => ?_) (fun c15 => ?_)
  · have hJ := it_pos c15 hJ
    exact sb_X8_answerNear_67 C hz2 N t0 _ _ _ _ _ hJ hk0 w (lv_sub (l' := [(0, .ref t0), (1, .int x1), (2, .int x2), (3, va_rf x3), (4, .int x4)]) hl [1, 2, 3, 4, 5] rfl)
  · have hJ := it_neg c15 hJ
    refine lv_lload hx hb dX8_answerNear_34 (lv_at hl 0 rfl) ?_
    refine lv_l2i hx hb dX8_answerNear_36 rfl ?_
    refine lv_istore (i := 4) (lv' := [(4, .int y0.toInt32), (5, .long y0), (0, .ref t0), (1, .int x1), (2, .int x2), (3, va_rf x3)]) hx hb dX8_answerNear_37 hl (by decide) (by simp [List.filter, rf_cat, cat_i, cat_l, cat_r]) (fun ls hl => ?_)
    refine lv_aload_n hx hb dX8_answerNear_39 rfl (lv_at hl 2 rfl) ?_
    refine lv_iload hx hb dX8_answerNear_40 (lv_at hl 0 rfl) ?_
    obtain ⟨⟨h16, r17⟩, e18, hJ⟩ := ob_some hJ
    refine jc_Vq (As := [.int y0.toInt32]) C w (cc_X8_seen N t0 h y0.toInt32 hk0 e18) (mo_X8_seen N t0 h y0.toInt32 e18) (mb_X8_answerNear_45 N t0 _ _ _ _ _ _ hJ) hz2 hk0 (by decide) rfl (fs := fs11 h t0) rfl rfl ⟨tw_3_98, tw_3_95, tw_3_96, tw_3_97, tw_1_8⟩ cd_X8_seen ⟨by decide, by decide⟩ hl.1 (by first | exact Nat.le_of_ble_eq_true rfl | simp [rf_cat, cat_i, cat_l, cat_r]) rfl dX8_answerNear_42 (fun H locs w1 => ?_)
    have hk19 := kd_keep w (mo_X8_seen N t0 h y0.toInt32 e18) hk0 (by decide)
    have w := w1
    exact sb_X8_answerNear_45 C hz2 N t0 _ _ _ _ _ _ hJ hk19 w (lv_sub (l' := [(0, .ref t0), (1, .int x1), (2, .int x2), (3, va_rf x3), (4, .int y0.toInt32)]) hl [2, 3, 4, 5, 0] rfl)
def B_X8_answerNear_11 (N : Nat) (t0 : Nat) (h : Hp) (x1 : Int32) (x2 : Int32) (x3 : Option Nat) (y0 : Int32) : Option (Hp × Unit) := (J_X8_nearest N t0 h x1.toInt64 y0.toInt64 x2).bind (fun z => B_X8_answerNear_23 N t0 z.1 x1 x2 x3 y0 z.2)
theorem mb_X8_answerNear_11 (N : Nat) (t0 : Nat) (h : Hp) (x1 : Int32) (x2 : Int32) (x3 : Option Nat) (y0 : Int32) (hJ : B_X8_answerNear_11 N t0 h x1 x2 x3 y0 = some (hz, ())) : Mo h hz := by
  unfold B_X8_answerNear_11 at hJ
  obtain ⟨⟨h20, r21⟩, e22, hJ⟩ := ob_some hJ
  exact (mo_X8_nearest N t0 h x1.toInt64 y0.toInt64 x2 e22).tr (mb_X8_answerNear_23 N t0 _ _ _ _ _ _ hJ)
set_option maxRecDepth 100000 in
set_option maxHeartbeats 4000000 in
theorem sb_X8_answerNear_11 (C : Cx p s m args meth c cX8_answerNear 8 none RX8 D cs A h0.se) (hz2 : hz.nx ≤ h0.nx + mc ∧ hz.su ≤ h0.su + ms) (N : Nat) (t0 : Nat) (h : Hp) (x1 : Int32) (x2 : Int32) (x3 : Option Nat) (y0 : Int32) (hJ : B_X8_answerNear_11 N t0 h x1 x2 x3 y0 = some (hz, ())) (hk0 : h.kd t0 = 11) {H : Heap} {locs : List Loc} {cells slots : Nat} (w : Wo D cs A s h0 h H locs cells slots) {ls : Array Slot} (hl : lv_has ls 8 [(0, .ref t0), (1, .int x1), (2, .int x2), (3, va_rf x3)]) : W p l e { frames := 6, cells := mc, slots := ms, locals := 190 } s m args below meth c H locs cells slots (MQ below (Zv D cs A hz) args s mc ms A) (F0 m 11 ls [.int y0]) := by
  obtain ⟨hx, hb, hml, hown, hts, -⟩ := id C
  unfold B_X8_answerNear_11 at hJ
  refine lv_istore (i := 4) (lv' := [(4, .int y0), (0, .ref t0), (1, .int x1), (2, .int x2), (3, va_rf x3)]) hx hb dX8_answerNear_11 hl (by decide) (by simp [List.filter, rf_cat, cat_i, cat_l, cat_r]) (fun ls hl => ?_)
  refine lv_aload_n hx hb dX8_answerNear_13 rfl (lv_at hl 1 rfl) ?_
  refine lv_iload_n hx hb dX8_answerNear_14 rfl (lv_at hl 2 rfl) ?_
  refine lv_i2l hx hb dX8_answerNear_15 rfl ?_
  refine lv_iload hx hb dX8_answerNear_16 (lv_at hl 0 rfl) ?_
  refine lv_i2l hx hb dX8_answerNear_18 rfl ?_
  refine lv_iload_n hx hb dX8_answerNear_19 rfl (lv_at hl 3 rfl) ?_
  obtain ⟨⟨h20, r21⟩, e22, hJ⟩ := ob_some hJ
  refine jc_Vl (As := [.long x1.toInt64, .long y0.toInt64, .int x2]) C w (cc_X8_nearest N t0 h x1.toInt64 y0.toInt64 x2 hk0 e22) (mo_X8_nearest N t0 h x1.toInt64 y0.toInt64 x2 e22) (mb_X8_answerNear_23 N t0 _ _ _ _ _ _ hJ) hz2 hk0 (by decide) rfl (fs := fs11 h t0) rfl rfl ⟨tw_3_118, tw_3_115, tw_3_116, tw_3_117, tw_1_8⟩ cd_X8_nearest ⟨by decide, by decide⟩ hl.1 (by first | exact Nat.le_of_ble_eq_true rfl | simp [rf_cat, cat_i, cat_l, cat_r]) rfl dX8_answerNear_20 (fun H locs w1 => ?_)
  have hk23 := kd_keep w (mo_X8_nearest N t0 h x1.toInt64 y0.toInt64 x2 e22) hk0 (by decide)
  have w := w1
  exact sb_X8_answerNear_23 C hz2 N t0 _ _ _ _ _ _ hJ hk23 w (lv_sub (l' := [(0, .ref t0), (1, .int x1), (2, .int x2), (3, va_rf x3), (4, .int y0)]) hl [1, 2, 3, 4, 0] rfl)
def B_X8_answerNear_0 (N : Nat) (t0 : Nat) (h : Hp) (x1 : Int32) (x2 : Int32) (x3 : Option Nat) : Option (Hp × Unit) := if x2 = 0 then (B_X8_answerNear_11 N t0 h x1 x2 x3 (-2147483648 : Int32)) else (B_X8_answerNear_11 N t0 h x1 x2 x3 (2147483647 : Int32))
theorem mb_X8_answerNear_0 (N : Nat) (t0 : Nat) (h : Hp) (x1 : Int32) (x2 : Int32) (x3 : Option Nat) (hJ : B_X8_answerNear_0 N t0 h x1 x2 x3 = some (hz, ())) : Mo h hz := by
  unfold B_X8_answerNear_0 at hJ
  by_cases c24 : x2 = 0
  · have hJ := it_pos c24 hJ
    exact mb_X8_answerNear_11 N t0 _ _ _ _ _ hJ
  · have hJ := it_neg c24 hJ
    exact mb_X8_answerNear_11 N t0 _ _ _ _ _ hJ
set_option maxRecDepth 100000 in
set_option maxHeartbeats 4000000 in
theorem sb_X8_answerNear_0 (C : Cx p s m args meth c cX8_answerNear 8 none RX8 D cs A h0.se) (hz2 : hz.nx ≤ h0.nx + mc ∧ hz.su ≤ h0.su + ms) (N : Nat) (t0 : Nat) (h : Hp) (x1 : Int32) (x2 : Int32) (x3 : Option Nat) (hJ : B_X8_answerNear_0 N t0 h x1 x2 x3 = some (hz, ())) (hk0 : h.kd t0 = 11) {H : Heap} {locs : List Loc} {cells slots : Nat} (w : Wo D cs A s h0 h H locs cells slots) {ls : Array Slot} (hl : lv_has ls 8 [(0, .ref t0), (1, .int x1), (2, .int x2), (3, va_rf x3)]) : W p l e { frames := 6, cells := mc, slots := ms, locals := 190 } s m args below meth c H locs cells slots (MQ below (Zv D cs A hz) args s mc ms A) (F0 m 0 ls []) := by
  obtain ⟨hx, hb, hml, hown, hts, -⟩ := id C
  unfold B_X8_answerNear_0 at hJ
  refine lv_iload_n hx hb dX8_answerNear_0 rfl (lv_at hl 2 rfl) ?_
  refine lv_if_eq (tgt := 9) hx hb dX8_answerNear_1 (by decide) (fun c24 => ?_) (fun c24 => ?_)
  · have hJ := it_pos c24 hJ
    refine lv_ldc (v := (-2147483648 : Int32)) hx hb hown (hts _ tw_3_114) dX8_answerNear_9 ?_
    exact sb_X8_answerNear_11 C hz2 N t0 _ _ _ _ _ hJ hk0 w hl
  · have hJ := it_neg c24 hJ
    refine lv_ldc (v := (2147483647 : Int32)) hx hb hown (hts _ tw_3_113) dX8_answerNear_4 ?_
    refine lv_goto (tgt := 11) hx hb dX8_answerNear_6 (by decide) ?_
    exact sb_X8_answerNear_11 C hz2 N t0 _ _ _ _ _ hJ hk0 w hl
def J_X8_answerNear (N : Nat) (t0 : Nat) (h : Hp) (x1 : Int32) (x2 : Int32) (x3 : Option Nat) : Option (Hp × Unit) := B_X8_answerNear_0 N t0 h x1 x2 x3
theorem mo_X8_answerNear (N : Nat) (t0 : Nat) (h : Hp) (x1 : Int32) (x2 : Int32) (x3 : Option Nat) (hJ : J_X8_answerNear N t0 h x1 x2 x3 = some (hz, ())) : Mo h hz := mb_X8_answerNear_0 N t0 h x1 x2 x3 hJ
theorem cd_X8_answerNear : Cd yX8_answerNear 3 := ⟨by decide +kernel, by decide +kernel, by decide +kernel⟩
theorem cc_X8_answerNear (N : Nat) (t0 : Nat) (h : Hp) (x1 : Int32) (x2 : Int32) (x3 : Option Nat) (hk0 : h.kd t0 = 11) (hJ : J_X8_answerNear N t0 h x1 x2 x3 = some (hz, ())) : Cv l yX8_answerNear cX8_answerNear 8 none 6 190 D cs h hz [.ref t0, .int x1, .int x2, va_rf x3] := by
  intro mc ms g1 g2
  refine je_any (by decide) (by simp [lg_sl, rf_cat, cat_i, cat_l, cat_r]) ?_
  intro p e s m args below meth c C hin2 w ls hl
  have hl : lv_has ls 8 [(0, .ref t0), (1, .int x1), (2, .int x2), (3, va_rf x3)] := by simpa [lv_args, rf_cat, cat_i, cat_l, cat_r] using hl
  exact sb_X8_answerNear_0 C ⟨g1, g2⟩ N t0 h x1 x2 x3 hJ hk0 w hl
end G_X8_answerNear
section G_X8_answerScan
variable {p : Program} {l : Launch} {e : Env} {s : State} {m : MethodId} {args : Array Value} {below : List Frame} {meth : Method} {c : Code} {D : va_G} {cs : C4} {A : Nat → Prop} {h0 hz : Hp} {mc ms : Nat}
def B_X8_answerScan_113 (N : Nat) (t0 : Nat) (h : Hp) : Option (Hp × Unit) := some (h, ())
theorem mb_X8_answerScan_113 (N : Nat) (t0 : Nat) (h : Hp) (hJ : B_X8_answerScan_113 N t0 h = some (hz, ())) : Mo h hz := by
  unfold B_X8_answerScan_113 at hJ
  obtain ⟨rfl, -⟩ := rs2 hJ
  exact ⟨fun _ _ => rfl, Nat.le_refl _, Nat.le_refl _, rfl, fun _ _ => rfl⟩
set_option maxRecDepth 100000 in
set_option maxHeartbeats 4000000 in
theorem sb_X8_answerScan_113 (C : Cx p s m args meth c cX8_answerScan 11 none RX8 D cs A h0.se) (hz2 : hz.nx ≤ h0.nx + mc ∧ hz.su ≤ h0.su + ms) (N : Nat) (t0 : Nat) (h : Hp) (hJ : B_X8_answerScan_113 N t0 h = some (hz, ())) (hk0 : h.kd t0 = 11) {H : Heap} {locs : List Loc} {cells slots : Nat} (w : Wo D cs A s h0 h H locs cells slots) {ls : Array Slot} (hl : lv_has ls 11 [(0, .ref t0)]) : W p l e { frames := 6, cells := mc, slots := ms, locals := 190 } s m args below meth c H locs cells slots (MQ below (Zv D cs A hz) args s mc ms A) (F0 m 113 ls []) := by
  obtain ⟨hx, hb, hml, hown, hts, -⟩ := id C
  unfold B_X8_answerScan_113 at hJ
  obtain ⟨rfl, -⟩ := rs2 hJ
  exact jr_vret C w hz2 dX8_answerScan_113
def B_X8_answerScan_110 (N : Nat) (t0 : Nat) (h : Hp) (y0 : Option Nat) (y1 : Int32) (y2 : Int32) : Option (Hp × Unit) := dr h 3 y0 (fun a1 => (J_X0_lookAt N a1 h y1 y2).bind (fun z => B_X8_answerScan_113 N t0 z.1))
theorem mb_X8_answerScan_110 (N : Nat) (t0 : Nat) (h : Hp) (y0 : Option Nat) (y1 : Int32) (y2 : Int32) (hJ : B_X8_answerScan_110 N t0 h y0 y1 y2 = some (hz, ())) : Mo h hz := by
  unfold B_X8_answerScan_110 at hJ
  obtain ⟨a1, ea1, -, hJ⟩ := dr_some hJ
  obtain ⟨⟨h2, r3⟩, e4, hJ⟩ := ob_some hJ
  exact (mo_X0_lookAt N a1 h y1 y2 e4).tr (mb_X8_answerScan_113 N t0 _ hJ)
set_option maxRecDepth 100000 in
set_option maxHeartbeats 4000000 in
theorem sb_X8_answerScan_110 (C : Cx p s m args meth c cX8_answerScan 11 none RX8 D cs A h0.se) (hz2 : hz.nx ≤ h0.nx + mc ∧ hz.su ≤ h0.su + ms) (N : Nat) (t0 : Nat) (h : Hp) (y0 : Option Nat) (y1 : Int32) (y2 : Int32) (hJ : B_X8_answerScan_110 N t0 h y0 y1 y2 = some (hz, ())) (hk0 : h.kd t0 = 11) {H : Heap} {locs : List Loc} {cells slots : Nat} (w : Wo D cs A s h0 h H locs cells slots) {ls : Array Slot} (hl : lv_has ls 11 [(0, .ref t0)]) : W p l e { frames := 6, cells := mc, slots := ms, locals := 190 } s m args below meth c H locs cells slots (MQ below (Zv D cs A hz) args s mc ms A) (F0 m 110 ls [.int y2, .int y1, va_rf y0]) := by
  obtain ⟨hx, hb, hml, hown, hts, -⟩ := id C
  unfold B_X8_answerScan_110 at hJ
  obtain ⟨a1, ea1, hka1, hJ⟩ := dr_some hJ
  rw [ea1]
  obtain ⟨⟨h2, r3⟩, e4, hJ⟩ := ob_some hJ
  refine jc_Vv (As := [.int y1, .int y2]) C w (cc_X0_lookAt N a1 h y1 y2 hka1 e4) (mo_X0_lookAt N a1 h y1 y2 e4) (mb_X8_answerScan_113 N t0 _ hJ) hz2 hka1 (by decide) rfl (fs := fs3 h a1) rfl rfl ⟨tw_3_108, tw_3_105, tw_3_106, tw_3_107, tw_1_6⟩ cd_X0_lookAt ⟨by decide, by decide⟩ hl.1 (by first | exact Nat.le_of_ble_eq_true rfl | simp [rf_cat, cat_i, cat_l, cat_r]) rfl dX8_answerScan_110 (fun H locs w1 => ?_)
  have hk5 := kd_keep w (mo_X0_lookAt N a1 h y1 y2 e4) hk0 (by decide)
  have w := w1
  exact sb_X8_answerScan_113 C hz2 N t0 _ hJ hk5 w hl
def B_X8_answerScan_79 (N : Nat) (t0 : Nat) (h : Hp) (x1 : Int32) (x2 : Int32) (x3 : Int32) (x4 : Option Nat) (x5 : Int64) : Option (Hp × Unit) := dr h 3 x4 (fun a6 => if ((h.sfi 300 a6 (h.fi 307 a6)).fi 307 a6) = x3 then (B_X8_answerScan_110 N t0 (h.sfi 300 a6 (h.fi 307 a6)) (some a6) x1 ((x5 - (1 : Int64)).toInt32)) else (B_X8_answerScan_110 N t0 (h.sfi 300 a6 (h.fi 307 a6)) (some a6) x1 x2))
theorem mb_X8_answerScan_79 (N : Nat) (t0 : Nat) (h : Hp) (x1 : Int32) (x2 : Int32) (x3 : Int32) (x4 : Option Nat) (x5 : Int64) (hJ : B_X8_answerScan_79 N t0 h x1 x2 x3 x4 x5 = some (hz, ())) : Mo h hz := by
  unfold B_X8_answerScan_79 at hJ
  obtain ⟨a6, ea6, -, hJ⟩ := dr_some hJ
  by_cases c7 : ((h.sfi 300 a6 (h.fi 307 a6)).fi 307 a6) = x3
  · have hJ := it_pos c7 hJ
    exact (Mo.tr (show Mo h (h.sfi 300 a6 (h.fi 307 a6)) from ⟨fun _ _ => rfl, Nat.le_refl _, Nat.le_refl _, rfl, fun _ _ => rfl⟩) (mb_X8_answerScan_110 N t0 _ _ _ _ hJ))
  · have hJ := it_neg c7 hJ
    exact (Mo.tr (show Mo h (h.sfi 300 a6 (h.fi 307 a6)) from ⟨fun _ _ => rfl, Nat.le_refl _, Nat.le_refl _, rfl, fun _ _ => rfl⟩) (mb_X8_answerScan_110 N t0 _ _ _ _ hJ))
set_option maxRecDepth 100000 in
set_option maxHeartbeats 4000000 in
theorem sb_X8_answerScan_79 (C : Cx p s m args meth c cX8_answerScan 11 none RX8 D cs A h0.se) (hz2 : hz.nx ≤ h0.nx + mc ∧ hz.su ≤ h0.su + ms) (N : Nat) (t0 : Nat) (h : Hp) (x1 : Int32) (x2 : Int32) (x3 : Int32) (x4 : Option Nat) (x5 : Int64) (hJ : B_X8_answerScan_79 N t0 h x1 x2 x3 x4 x5 = some (hz, ())) (hk0 : h.kd t0 = 11) {H : Heap} {locs : List Loc} {cells slots : Nat} (w : Wo D cs A s h0 h H locs cells slots) {ls : Array Slot} (hl : lv_has ls 11 [(0, .ref t0), (1, .int x1), (2, .int x2), (3, .int x3), (4, va_rf x4), (5, .long x5)]) : W p l e { frames := 6, cells := mc, slots := ms, locals := 190 } s m args below meth c H locs cells slots (MQ below (Zv D cs A hz) args s mc ms A) (F0 m 79 ls []) := by
  obtain ⟨hx, hb, hml, hown, hts, -⟩ := id C
  unfold B_X8_answerScan_79 at hJ
  refine jv_aload hx hb dX8_answerScan_79 (lv_at hl 4 rfl) ?_
  refine jv_aload hx hb dX8_answerScan_81 (lv_at hl 4 rfl) ?_
  obtain ⟨a6, ea6, hka6, hJ⟩ := dr_some hJ
  rw [ea6] at hl
  rw [ea6]
  refine fg_307 C w hka6 tw_1_104 dX8_answerScan_83 ?_
  refine fp_300 (x := h.fi 307 a6) C w hka6 tw_1_89 dX8_answerScan_86 (fun H locs w => ?_)
  refine lv_aload hx hb dX8_answerScan_89 (lv_at hl 4 rfl) ?_
  refine lv_iload_n hx hb dX8_answerScan_91 rfl (lv_at hl 1 rfl) ?_
  refine lv_aload hx hb dX8_answerScan_92 (lv_at hl 4 rfl) ?_
  refine fg_307 C w hka6 tw_1_104 dX8_answerScan_94 ?_
  refine lv_iload_n hx hb dX8_answerScan_97 rfl (lv_at hl 3 rfl) ?_
  refine lv_icmp_ne (tgt := 109) hx hb dX8_answerScan_98 (by decide) (fun c7 => ?_) (fun c7 => ?_)
  · have hJ := it_neg c7 hJ
    refine lv_iload_n hx hb dX8_answerScan_109 rfl (lv_at hl 2 rfl) ?_
    exact sb_X8_answerScan_110 C hz2 N t0 _ _ _ _ hJ hk0 w (lv_sub (l' := [(0, .ref t0)]) hl [0] rfl)
  · have hJ := it_pos c7 hJ
    refine lv_lload hx hb dX8_answerScan_101 (lv_at hl 5 rfl) ?_
    refine lv_lconst (v := (1 : Int64)) hx hb dX8_answerScan_103 (by decide) ?_
    refine lv_lsub hx hb dX8_answerScan_104 ?_
    refine lv_l2i hx hb dX8_answerScan_105 rfl ?_
    refine lv_goto (tgt := 110) hx hb dX8_answerScan_106 (by decide) ?_
    exact sb_X8_answerScan_110 C hz2 N t0 _ _ _ _ hJ hk0 w (lv_sub (l' := [(0, .ref t0)]) hl [0] rfl)
def B_X8_answerScan_67 (N : Nat) (k7 : Hp → Int32 → Int32 → Int32 → (Option Nat) → Int64 → Int32 → Option (Hp × Unit)) (t0 : Nat) (h : Hp) (x1 : Int32) (x2 : Int32) (x3 : Int32) (x4 : Option Nat) (x7 : Int32) (x8 : Int64) : Option (Hp × Unit) := k7 h x1 x2 x3 x4 (x8 + (1 : Int64)) (x7 + (1 : Int32))
theorem mb_X8_answerScan_67 (N : Nat) (k7 : Hp → Int32 → Int32 → Int32 → (Option Nat) → Int64 → Int32 → Option (Hp × Unit)) (t0 : Nat) (h : Hp) (x1 : Int32) (x2 : Int32) (x3 : Int32) (x4 : Option Nat) (x7 : Int32) (x8 : Int64) (m7 : ∀ (h : Hp) (x1 : Int32) (x2 : Int32) (x3 : Int32) (x4 : Option Nat) (x5 : Int64) (x7 : Int32), k7 h x1 x2 x3 x4 x5 x7 = some (hz, ()) → Mo h hz) (hJ : B_X8_answerScan_67 N k7 t0 h x1 x2 x3 x4 x7 x8 = some (hz, ())) : Mo h hz := by
  unfold B_X8_answerScan_67 at hJ
  exact m7 _ _ _ _ _ _ _ hJ
set_option maxRecDepth 100000 in
set_option maxHeartbeats 4000000 in
theorem sb_X8_answerScan_67 (C : Cx p s m args meth c cX8_answerScan 11 none RX8 D cs A h0.se) (hz2 : hz.nx ≤ h0.nx + mc ∧ hz.su ≤ h0.su + ms) (N : Nat) (k7 : Hp → Int32 → Int32 → Int32 → (Option Nat) → Int64 → Int32 → Option (Hp × Unit)) (t0 : Nat) (m7 : ∀ (h : Hp) (x1 : Int32) (x2 : Int32) (x3 : Int32) (x4 : Option Nat) (x5 : Int64) (x7 : Int32), k7 h x1 x2 x3 x4 x5 x7 = some (hz, ()) → Mo h hz) (i7 : ∀ (h : Hp) (x1 : Int32) (x2 : Int32) (x3 : Int32) (x4 : Option Nat) (x5 : Int64) (x7 : Int32) (H : Heap) (locs : List Loc) (cells slots : Nat) (ls : Array Slot), k7 h x1 x2 x3 x4 x5 x7 = some (hz, ()) → h.kd t0 = 11 → Wo D cs A s h0 h H locs cells slots → lv_has ls 11 [(0, .ref t0), (1, .int x1), (2, .int x2), (3, .int x3), (4, va_rf x4), (5, .long x5), (7, .int x7)] → W p l e { frames := 6, cells := mc, slots := ms, locals := 190 } s m args below meth c H locs cells slots (MQ below (Zv D cs A hz) args s mc ms A) (F0 m 7 ls [])) (h : Hp) (x1 : Int32) (x2 : Int32) (x3 : Int32) (x4 : Option Nat) (x7 : Int32) (x8 : Int64) (hJ : B_X8_answerScan_67 N k7 t0 h x1 x2 x3 x4 x7 x8 = some (hz, ())) (hk0 : h.kd t0 = 11) {H : Heap} {locs : List Loc} {cells slots : Nat} (w : Wo D cs A s h0 h H locs cells slots) {ls : Array Slot} (hl : lv_has ls 11 [(0, .ref t0), (1, .int x1), (2, .int x2), (3, .int x3), (4, va_rf x4), (7, .int x7), (8, .long x8)]) : W p l e { frames := 6, cells := mc, slots := ms, locals := 190 } s m args below meth c H locs cells slots (MQ below (Zv D cs A hz) args s mc ms A) (F0 m 67 ls []) := by
  obtain ⟨hx, hb, hml, hown, hts, -⟩ := id C
  unfold B_X8_answerScan_67 at hJ
  refine lv_lload hx hb dX8_answerScan_67 (lv_at hl 6 rfl) ?_
  refine lv_lconst (v := (1 : Int64)) hx hb dX8_answerScan_69 (by decide) ?_
  refine lv_ladd hx hb dX8_answerScan_70 ?_
  refine lv_lstore (i := 5) (lv' := [(5, .long (x8 + (1 : Int64))), (0, .ref t0), (1, .int x1), (2, .int x2), (3, .int x3), (4, va_rf x4), (7, .int x7), (8, .long x8)]) hx hb dX8_answerScan_71 hl (by decide) (by simp [List.filter, rf_cat, cat_i, cat_l, cat_r]) (fun ls hl => ?_)
  refine lv_iinc (v := x7 + (1 : Int32)) (lv' := [(7, .int (x7 + (1 : Int32))), (5, .long (x8 + (1 : Int64))), (0, .ref t0), (1, .int x1), (2, .int x2), (3, .int x3), (4, va_rf x4), (8, .long x8)]) hx hb dX8_answerScan_73 hl (k := 6) rfl rfl (by decide) rfl (fun ls hl => ?_)
  refine lv_goto (tgt := 7) hx hb dX8_answerScan_76 (by decide) ?_
  exact i7 _ _ _ _ _ _ _ _ _ _ _ _ hJ hk0 w (lv_sub (l' := [(0, .ref t0), (1, .int x1), (2, .int x2), (3, .int x3), (4, va_rf x4), (5, .long (x8 + (1 : Int64))), (7, .int (x7 + (1 : Int32)))]) hl [2, 3, 4, 5, 6, 1, 0] rfl)
def B_X8_answerScan_64 (N : Nat) (k7 : Hp → Int32 → Int32 → Int32 → (Option Nat) → Int64 → Int32 → Option (Hp × Unit)) (t0 : Nat) (h : Hp) (x1 : Int32) (x2 : Int32) (x3 : Int32) (x4 : Option Nat) (x7 : Int32) (x8 : Int64) (y0 : Option Nat) (y1 : Int32) (y2 : Int64) : Option (Hp × Unit) := dr h 3 y0 (fun a8 => (J_X0_addRow N a8 h y1 y2).bind (fun z => B_X8_answerScan_67 N k7 t0 z.1 x1 x2 x3 x4 x7 x8))
theorem mb_X8_answerScan_64 (N : Nat) (k7 : Hp → Int32 → Int32 → Int32 → (Option Nat) → Int64 → Int32 → Option (Hp × Unit)) (t0 : Nat) (h : Hp) (x1 : Int32) (x2 : Int32) (x3 : Int32) (x4 : Option Nat) (x7 : Int32) (x8 : Int64) (y0 : Option Nat) (y1 : Int32) (y2 : Int64) (m7 : ∀ (h : Hp) (x1 : Int32) (x2 : Int32) (x3 : Int32) (x4 : Option Nat) (x5 : Int64) (x7 : Int32), k7 h x1 x2 x3 x4 x5 x7 = some (hz, ()) → Mo h hz) (hJ : B_X8_answerScan_64 N k7 t0 h x1 x2 x3 x4 x7 x8 y0 y1 y2 = some (hz, ())) : Mo h hz := by
  unfold B_X8_answerScan_64 at hJ
  obtain ⟨a8, ea8, -, hJ⟩ := dr_some hJ
  obtain ⟨⟨h9, r10⟩, e11, hJ⟩ := ob_some hJ
  exact (mo_X0_addRow N a8 h y1 y2 e11).tr (mb_X8_answerScan_67 N k7 t0 _ _ _ _ _ _ _ m7 hJ)
set_option maxRecDepth 100000 in
set_option maxHeartbeats 4000000 in
theorem sb_X8_answerScan_64 (C : Cx p s m args meth c cX8_answerScan 11 none RX8 D cs A h0.se) (hz2 : hz.nx ≤ h0.nx + mc ∧ hz.su ≤ h0.su + ms) (N : Nat) (k7 : Hp → Int32 → Int32 → Int32 → (Option Nat) → Int64 → Int32 → Option (Hp × Unit)) (t0 : Nat) (m7 : ∀ (h : Hp) (x1 : Int32) (x2 : Int32) (x3 : Int32) (x4 : Option Nat) (x5 : Int64) (x7 : Int32), k7 h x1 x2 x3 x4 x5 x7 = some (hz, ()) → Mo h hz) (i7 : ∀ (h : Hp) (x1 : Int32) (x2 : Int32) (x3 : Int32) (x4 : Option Nat) (x5 : Int64) (x7 : Int32) (H : Heap) (locs : List Loc) (cells slots : Nat) (ls : Array Slot), k7 h x1 x2 x3 x4 x5 x7 = some (hz, ()) → h.kd t0 = 11 → Wo D cs A s h0 h H locs cells slots → lv_has ls 11 [(0, .ref t0), (1, .int x1), (2, .int x2), (3, .int x3), (4, va_rf x4), (5, .long x5), (7, .int x7)] → W p l e { frames := 6, cells := mc, slots := ms, locals := 190 } s m args below meth c H locs cells slots (MQ below (Zv D cs A hz) args s mc ms A) (F0 m 7 ls [])) (h : Hp) (x1 : Int32) (x2 : Int32) (x3 : Int32) (x4 : Option Nat) (x7 : Int32) (x8 : Int64) (y0 : Option Nat) (y1 : Int32) (y2 : Int64) (hJ : B_X8_answerScan_64 N k7 t0 h x1 x2 x3 x4 x7 x8 y0 y1 y2 = some (hz, ())) (hk0 : h.kd t0 = 11) {H : Heap} {locs : List Loc} {cells slots : Nat} (w : Wo D cs A s h0 h H locs cells slots) {ls : Array Slot} (hl : lv_has ls 11 [(0, .ref t0), (1, .int x1), (2, .int x2), (3, .int x3), (4, va_rf x4), (7, .int x7), (8, .long x8)]) : W p l e { frames := 6, cells := mc, slots := ms, locals := 190 } s m args below meth c H locs cells slots (MQ below (Zv D cs A hz) args s mc ms A) (F0 m 64 ls [.long y2, .int y1, va_rf y0]) := by
  obtain ⟨hx, hb, hml, hown, hts, -⟩ := id C
  unfold B_X8_answerScan_64 at hJ
  obtain ⟨a8, ea8, hka8, hJ⟩ := dr_some hJ
  rw [ea8]
  obtain ⟨⟨h9, r10⟩, e11, hJ⟩ := ob_some hJ
  refine jc_Vv (As := [.int y1, .long y2]) C w (cc_X0_addRow N a8 h y1 y2 hka8 e11) (mo_X0_addRow N a8 h y1 y2 e11) (mb_X8_answerScan_67 N k7 t0 _ _ _ _ _ _ _ m7 hJ) hz2 hka8 (by decide) rfl (fs := fs3 h a8) rfl rfl ⟨tw_3_132, tw_3_129, tw_3_130, tw_3_131, tw_1_6⟩ cd_X0_addRow ⟨by decide, by decide⟩ hl.1 (by first | exact Nat.le_of_ble_eq_true rfl | simp [rf_cat, cat_i, cat_l, cat_r]) rfl dX8_answerScan_64 (fun H locs w1 => ?_)
  have hk12 := kd_keep w (mo_X0_addRow N a8 h y1 y2 e11) hk0 (by decide)
  have w := w1
  exact sb_X8_answerScan_67 C hz2 N k7 t0 m7 i7 _ _ _ _ _ _ _ hJ hk12 w hl
def B_X8_answerScan_43 (N : Nat) (k7 : Hp → Int32 → Int32 → Int32 → (Option Nat) → Int64 → Int32 → Option (Hp × Unit)) (t0 : Nat) (h : Hp) (x1 : Int32) (x2 : Int32) (x3 : Int32) (x4 : Option Nat) (x7 : Int32) (x8 : Int64) (y0 : Option Nat) : Option (Hp × Unit) := nl y0 (B_X8_answerScan_64 N k7 t0 h x1 x2 x3 x4 x7 x8 x4 x8.toInt32 (0 : Int64)) (fun a13 => ck (h.kd a13 = 7) (B_X8_answerScan_64 N k7 t0 h x1 x2 x3 x4 x7 x8 x4 x8.toInt32 (h.fl 703 a13)))
theorem mb_X8_answerScan_43 (N : Nat) (k7 : Hp → Int32 → Int32 → Int32 → (Option Nat) → Int64 → Int32 → Option (Hp × Unit)) (t0 : Nat) (h : Hp) (x1 : Int32) (x2 : Int32) (x3 : Int32) (x4 : Option Nat) (x7 : Int32) (x8 : Int64) (y0 : Option Nat) (m7 : ∀ (h : Hp) (x1 : Int32) (x2 : Int32) (x3 : Int32) (x4 : Option Nat) (x5 : Int64) (x7 : Int32), k7 h x1 x2 x3 x4 x5 x7 = some (hz, ()) → Mo h hz) (hJ : B_X8_answerScan_43 N k7 t0 h x1 x2 x3 x4 x7 x8 y0 = some (hz, ())) : Mo h hz := by
  unfold B_X8_answerScan_43 at hJ
  cases ea13 : y0 with
  | none =>
    have hJ := nl_none ea13 hJ
    exact mb_X8_answerScan_64 N k7 t0 _ _ _ _ _ _ _ _ _ _ m7 hJ
  | some a13 =>
    have hJ := nl_some ea13 hJ
    obtain ⟨-, hJ⟩ := ck_some hJ
    exact mb_X8_answerScan_64 N k7 t0 _ _ _ _ _ _ _ _ _ _ m7 hJ
set_option maxRecDepth 100000 in
set_option maxHeartbeats 4000000 in
theorem sb_X8_answerScan_43 (C : Cx p s m args meth c cX8_answerScan 11 none RX8 D cs A h0.se) (hz2 : hz.nx ≤ h0.nx + mc ∧ hz.su ≤ h0.su + ms) (N : Nat) (k7 : Hp → Int32 → Int32 → Int32 → (Option Nat) → Int64 → Int32 → Option (Hp × Unit)) (t0 : Nat) (m7 : ∀ (h : Hp) (x1 : Int32) (x2 : Int32) (x3 : Int32) (x4 : Option Nat) (x5 : Int64) (x7 : Int32), k7 h x1 x2 x3 x4 x5 x7 = some (hz, ()) → Mo h hz) (i7 : ∀ (h : Hp) (x1 : Int32) (x2 : Int32) (x3 : Int32) (x4 : Option Nat) (x5 : Int64) (x7 : Int32) (H : Heap) (locs : List Loc) (cells slots : Nat) (ls : Array Slot), k7 h x1 x2 x3 x4 x5 x7 = some (hz, ()) → h.kd t0 = 11 → Wo D cs A s h0 h H locs cells slots → lv_has ls 11 [(0, .ref t0), (1, .int x1), (2, .int x2), (3, .int x3), (4, va_rf x4), (5, .long x5), (7, .int x7)] → W p l e { frames := 6, cells := mc, slots := ms, locals := 190 } s m args below meth c H locs cells slots (MQ below (Zv D cs A hz) args s mc ms A) (F0 m 7 ls [])) (h : Hp) (x1 : Int32) (x2 : Int32) (x3 : Int32) (x4 : Option Nat) (x7 : Int32) (x8 : Int64) (y0 : Option Nat) (hJ : B_X8_answerScan_43 N k7 t0 h x1 x2 x3 x4 x7 x8 y0 = some (hz, ())) (hk0 : h.kd t0 = 11) {H : Heap} {locs : List Loc} {cells slots : Nat} (w : Wo D cs A s h0 h H locs cells slots) {ls : Array Slot} (hl : lv_has ls 11 [(0, .ref t0), (1, .int x1), (2, .int x2), (3, .int x3), (4, va_rf x4), (7, .int x7), (8, .long x8)]) : W p l e { frames := 6, cells := mc, slots := ms, locals := 190 } s m args below meth c H locs cells slots (MQ below (Zv D cs A hz) args s mc ms A) (F0 m 43 ls [va_rf y0]) := by
  obtain ⟨hx, hb, hml, hown, hts, -⟩ := id C
  unfold B_X8_answerScan_43 at hJ
  refine jv_astore (i := 10) (lv' := [(10, va_rf y0), (0, .ref t0), (1, .int x1), (2, .int x2), (3, .int x3), (4, va_rf x4), (7, .int x7), (8, .long x8)]) hx hb dX8_answerScan_43 hl (by decide) rfl (fun ls hl => ?_)
  refine jv_aload hx hb dX8_answerScan_45 (lv_at hl 5 rfl) ?_
  refine lv_lload hx hb dX8_answerScan_47 (lv_at hl 7 rfl) ?_
  refine lv_l2i hx hb dX8_answerScan_49 rfl ?_
  refine jv_aload hx hb dX8_answerScan_50 (lv_at hl 0 rfl) ?_
  refine jv_ifnonnull (tgt := 59) hx hb dX8_answerScan_52 (by decide) (fun a13 ea13 => ?_) (fun ea13 => ?_)
  · have hJ := nl_some ea13 hJ
    rw [ea13] at hl
    refine lv_aload hx hb dX8_answerScan_59 (lv_at hl 0 rfl) ?_
    obtain ⟨hk14, hJ⟩ := ck_some hJ
    refine fg_703 C w hk14 tw_5_26 dX8_answerScan_61 ?_
    exact sb_X8_answerScan_64 C hz2 N k7 t0 m7 i7 _ _ _ _ _ _ _ _ _ _ hJ hk0 w (lv_sub (l' := [(0, .ref t0), (1, .int x1), (2, .int x2), (3, .int x3), (4, va_rf x4), (7, .int x7), (8, .long x8)]) hl [1, 2, 3, 4, 5, 6, 7] rfl)
  · have hJ := nl_none ea13 hJ
    refine lv_lconst (v := (0 : Int64)) hx hb dX8_answerScan_55 (by decide) ?_
    refine lv_goto (tgt := 64) hx hb dX8_answerScan_56 (by decide) ?_
    exact sb_X8_answerScan_64 C hz2 N k7 t0 m7 i7 _ _ _ _ _ _ _ _ _ _ hJ hk0 w (lv_sub (l' := [(0, .ref t0), (1, .int x1), (2, .int x2), (3, .int x3), (4, va_rf x4), (7, .int x7), (8, .long x8)]) hl [1, 2, 3, 4, 5, 6, 7] rfl)
def B_X8_answerScan_22 (N : Nat) (k7 : Hp → Int32 → Int32 → Int32 → (Option Nat) → Int64 → Int32 → Option (Hp × Unit)) (t0 : Nat) (h : Hp) (x1 : Int32) (x2 : Int32) (x3 : Int32) (x4 : Option Nat) (x5 : Int64) (x7 : Int32) (y0 : Int64) : Option (Hp × Unit) := if (lg_cmp y0 (-9223372036854775808 : Int64)) = 0 then (B_X8_answerScan_79 N t0 h x1 x2 x3 x4 x5) else ((J_X8_seen N t0 h y0.toInt32).bind (fun z => B_X8_answerScan_43 N k7 t0 z.1 x1 x2 x3 x4 x7 y0 z.2))
theorem mb_X8_answerScan_22 (N : Nat) (k7 : Hp → Int32 → Int32 → Int32 → (Option Nat) → Int64 → Int32 → Option (Hp × Unit)) (t0 : Nat) (h : Hp) (x1 : Int32) (x2 : Int32) (x3 : Int32) (x4 : Option Nat) (x5 : Int64) (x7 : Int32) (y0 : Int64) (m7 : ∀ (h : Hp) (x1 : Int32) (x2 : Int32) (x3 : Int32) (x4 : Option Nat) (x5 : Int64) (x7 : Int32), k7 h x1 x2 x3 x4 x5 x7 = some (hz, ()) → Mo h hz) (hJ : B_X8_answerScan_22 N k7 t0 h x1 x2 x3 x4 x5 x7 y0 = some (hz, ())) : Mo h hz := by
  unfold B_X8_answerScan_22 at hJ
  by_cases c15 : (lg_cmp y0 (-9223372036854775808 : Int64)) = 0
  · have hJ := it_pos c15 hJ
    exact mb_X8_answerScan_79 N t0 _ _ _ _ _ _ hJ
  · have hJ := it_neg c15 hJ
    obtain ⟨⟨h16, r17⟩, e18, hJ⟩ := ob_some hJ
    exact (mo_X8_seen N t0 h y0.toInt32 e18).tr (mb_X8_answerScan_43 N k7 t0 _ _ _ _ _ _ _ _ m7 hJ)
set_option maxRecDepth 100000 in
set_option maxHeartbeats 4000000 in
theorem sb_X8_answerScan_22 (C : Cx p s m args meth c cX8_answerScan 11 none RX8 D cs A h0.se) (hz2 : hz.nx ≤ h0.nx + mc ∧ hz.su ≤ h0.su + ms) (N : Nat) (k7 : Hp → Int32 → Int32 → Int32 → (Option Nat) → Int64 → Int32 → Option (Hp × Unit)) (t0 : Nat) (m7 : ∀ (h : Hp) (x1 : Int32) (x2 : Int32) (x3 : Int32) (x4 : Option Nat) (x5 : Int64) (x7 : Int32), k7 h x1 x2 x3 x4 x5 x7 = some (hz, ()) → Mo h hz) (i7 : ∀ (h : Hp) (x1 : Int32) (x2 : Int32) (x3 : Int32) (x4 : Option Nat) (x5 : Int64) (x7 : Int32) (H : Heap) (locs : List Loc) (cells slots : Nat) (ls : Array Slot), k7 h x1 x2 x3 x4 x5 x7 = some (hz, ()) → h.kd t0 = 11 → Wo D cs A s h0 h H locs cells slots → lv_has ls 11 [(0, .ref t0), (1, .int x1), (2, .int x2), (3, .int x3), (4, va_rf x4), (5, .long x5), (7, .int x7)] → W p l e { frames := 6, cells := mc, slots := ms, locals := 190 } s m args below meth c H locs cells slots (MQ below (Zv D cs A hz) args s mc ms A) (F0 m 7 ls [])) (h : Hp) (x1 : Int32) (x2 : Int32) (x3 : Int32) (x4 : Option Nat) (x5 : Int64) (x7 : Int32) (y0 : Int64) (hJ : B_X8_answerScan_22 N k7 t0 h x1 x2 x3 x4 x5 x7 y0 = some (hz, ())) (hk0 : h.kd t0 = 11) {H : Heap} {locs : List Loc} {cells slots : Nat} (w : Wo D cs A s h0 h H locs cells slots) {ls : Array Slot} (hl : lv_has ls 11 [(0, .ref t0), (1, .int x1), (2, .int x2), (3, .int x3), (4, va_rf x4), (5, .long x5), (7, .int x7)]) : W p l e { frames := 6, cells := mc, slots := ms, locals := 190 } s m args below meth c H locs cells slots (MQ below (Zv D cs A hz) args s mc ms A) (F0 m 22 ls [.long y0]) := by
  obtain ⟨hx, hb, hml, hown, hts, -⟩ := id C
  unfold B_X8_answerScan_22 at hJ
  refine lv_lstore (i := 8) (lv' := [(8, .long y0), (0, .ref t0), (1, .int x1), (2, .int x2), (3, .int x3), (4, va_rf x4), (5, .long x5), (7, .int x7)]) hx hb dX8_answerScan_22 hl (by decide) rfl (fun ls hl => ?_)
  refine lv_lload hx hb dX8_answerScan_24 (lv_at hl 0 rfl) ?_
  refine lv_ldc2 (v := (-9223372036854775808 : Int64)) hx hb hown (hts _ tw_3_124) dX8_answerScan_26 ?_
  refine W.lcmp hx hb dX8_answerScan_29 ?_
  refine lv_if_ne (tgt := 36) hx hb dX8_answerScan_30 (by decide) (fun c15 => ?_) (fun c15 => ?_)
  · have hJ := it_neg c15 hJ
    refine lv_aload_n hx hb dX8_answerScan_36 rfl (lv_at hl 1 rfl) ?_
    refine lv_lload hx hb dX8_answerScan_37 (lv_at hl 0 rfl) ?_
    refine lv_l2i hx hb dX8_answerScan_39 rfl ?_
    obtain ⟨⟨h16, r17⟩, e18, hJ⟩ := ob_some hJ
    refine jc_Vq (As := [.int y0.toInt32]) C w (cc_X8_seen N t0 h y0.toInt32 hk0 e18) (mo_X8_seen N t0 h y0.toInt32 e18) (mb_X8_answerScan_43 N k7 t0 _ _ _ _ _ _ _ _ m7 hJ) hz2 hk0 (by decide) rfl (fs := fs11 h t0) rfl rfl ⟨tw_3_98, tw_3_95, tw_3_96, tw_3_97, tw_1_8⟩ cd_X8_seen ⟨by decide, by decide⟩ hl.1 (by first | exact Nat.le_of_ble_eq_true rfl | simp [rf_cat, cat_i, cat_l, cat_r]) rfl dX8_answerScan_40 (fun H locs w1 => ?_)
    have hk19 := kd_keep w (mo_X8_seen N t0 h y0.toInt32 e18) hk0 (by decide)
    have w := w1
    exact sb_X8_answerScan_43 C hz2 N k7 t0 m7 i7 _ _ _ _ _ _ _ _ hJ hk19 w (lv_sub (l' := [(0, .ref t0), (1, .int x1), (2, .int x2), (3, .int x3), (4, va_rf x4), (7, .int x7), (8, .long y0)]) hl [1, 2, 3, 4, 5, 7, 0] rfl)
  · have hJ := it_pos c15 hJ
    refine lv_goto (tgt := 79) hx hb dX8_answerScan_33 (by decide) ?_
    exact sb_X8_answerScan_79 C hz2 N t0 _ _ _ _ _ _ hJ hk0 w (lv_sub (l' := [(0, .ref t0), (1, .int x1), (2, .int x2), (3, .int x3), (4, va_rf x4), (5, .long x5)]) hl [1, 2, 3, 4, 5, 6] rfl)
def B_X8_answerScan_7 (N : Nat) (k7 : Hp → Int32 → Int32 → Int32 → (Option Nat) → Int64 → Int32 → Option (Hp × Unit)) (t0 : Nat) (h : Hp) (x1 : Int32) (x2 : Int32) (x3 : Int32) (x4 : Option Nat) (x5 : Int64) (x7 : Int32) : Option (Hp × Unit) := if x3 ≤ x7 then (B_X8_answerScan_79 N t0 h x1 x2 x3 x4 x5) else ((J_X8_nearest N t0 h x5 x2.toInt64 (1 : Int32)).bind (fun z => B_X8_answerScan_22 N k7 t0 z.1 x1 x2 x3 x4 x5 x7 z.2))
theorem mb_X8_answerScan_7 (N : Nat) (k7 : Hp → Int32 → Int32 → Int32 → (Option Nat) → Int64 → Int32 → Option (Hp × Unit)) (t0 : Nat) (h : Hp) (x1 : Int32) (x2 : Int32) (x3 : Int32) (x4 : Option Nat) (x5 : Int64) (x7 : Int32) (m7 : ∀ (h : Hp) (x1 : Int32) (x2 : Int32) (x3 : Int32) (x4 : Option Nat) (x5 : Int64) (x7 : Int32), k7 h x1 x2 x3 x4 x5 x7 = some (hz, ()) → Mo h hz) (hJ : B_X8_answerScan_7 N k7 t0 h x1 x2 x3 x4 x5 x7 = some (hz, ())) : Mo h hz := by
  unfold B_X8_answerScan_7 at hJ
  by_cases c20 : x3 ≤ x7
  · have hJ := it_pos c20 hJ
    exact mb_X8_answerScan_79 N t0 _ _ _ _ _ _ hJ
  · have hJ := it_neg c20 hJ
    obtain ⟨⟨h21, r22⟩, e23, hJ⟩ := ob_some hJ
    exact (mo_X8_nearest N t0 h x5 x2.toInt64 (1 : Int32) e23).tr (mb_X8_answerScan_22 N k7 t0 _ _ _ _ _ _ _ _ m7 hJ)
set_option maxRecDepth 100000 in
set_option maxHeartbeats 4000000 in
theorem sb_X8_answerScan_7 (C : Cx p s m args meth c cX8_answerScan 11 none RX8 D cs A h0.se) (hz2 : hz.nx ≤ h0.nx + mc ∧ hz.su ≤ h0.su + ms) (N : Nat) (k7 : Hp → Int32 → Int32 → Int32 → (Option Nat) → Int64 → Int32 → Option (Hp × Unit)) (t0 : Nat) (m7 : ∀ (h : Hp) (x1 : Int32) (x2 : Int32) (x3 : Int32) (x4 : Option Nat) (x5 : Int64) (x7 : Int32), k7 h x1 x2 x3 x4 x5 x7 = some (hz, ()) → Mo h hz) (i7 : ∀ (h : Hp) (x1 : Int32) (x2 : Int32) (x3 : Int32) (x4 : Option Nat) (x5 : Int64) (x7 : Int32) (H : Heap) (locs : List Loc) (cells slots : Nat) (ls : Array Slot), k7 h x1 x2 x3 x4 x5 x7 = some (hz, ()) → h.kd t0 = 11 → Wo D cs A s h0 h H locs cells slots → lv_has ls 11 [(0, .ref t0), (1, .int x1), (2, .int x2), (3, .int x3), (4, va_rf x4), (5, .long x5), (7, .int x7)] → W p l e { frames := 6, cells := mc, slots := ms, locals := 190 } s m args below meth c H locs cells slots (MQ below (Zv D cs A hz) args s mc ms A) (F0 m 7 ls [])) (h : Hp) (x1 : Int32) (x2 : Int32) (x3 : Int32) (x4 : Option Nat) (x5 : Int64) (x7 : Int32) (hJ : B_X8_answerScan_7 N k7 t0 h x1 x2 x3 x4 x5 x7 = some (hz, ())) (hk0 : h.kd t0 = 11) {H : Heap} {locs : List Loc} {cells slots : Nat} (w : Wo D cs A s h0 h H locs cells slots) {ls : Array Slot} (hl : lv_has ls 11 [(0, .ref t0), (1, .int x1), (2, .int x2), (3, .int x3), (4, va_rf x4), (5, .long x5), (7, .int x7)]) : W p l e { frames := 6, cells := mc, slots := ms, locals := 190 } s m args below meth c H locs cells slots (MQ below (Zv D cs A hz) args s mc ms A) (F0 m 7 ls []) := by
  obtain ⟨hx, hb, hml, hown, hts, -⟩ := id C
  unfold B_X8_answerScan_7 at hJ
  refine lv_iload hx hb dX8_answerScan_7 (lv_at hl 6 rfl) ?_
  refine lv_iload_n hx hb dX8_answerScan_9 rfl (lv_at hl 3 rfl) ?_
  refine lv_icmp_ge (tgt := 79) hx hb dX8_answerScan_10 (by decide) (fun c20 => ?_) (fun c20 => ?_)
  · have hJ := it_pos c20 hJ
    exact sb_X8_answerScan_79 C hz2 N t0 _ _ _ _ _ _ hJ hk0 w (lv_sub (l' := [(0, .ref t0), (1, .int x1), (2, .int x2), (3, .int x3), (4, va_rf x4), (5, .long x5)]) hl [0, 1, 2, 3, 4, 5] rfl)
  · have hJ := it_neg c20 hJ
    refine lv_aload_n hx hb dX8_answerScan_13 rfl (lv_at hl 0 rfl) ?_
    refine lv_lload hx hb dX8_answerScan_14 (lv_at hl 5 rfl) ?_
    refine lv_iload_n hx hb dX8_answerScan_16 rfl (lv_at hl 2 rfl) ?_
    refine lv_i2l hx hb dX8_answerScan_17 rfl ?_
    refine lv_iconst (v := (1 : Int32)) hx hb dX8_answerScan_18 (by decide) ?_
    obtain ⟨⟨h21, r22⟩, e23, hJ⟩ := ob_some hJ
    refine jc_Vl (As := [.long x5, .long x2.toInt64, .int (1 : Int32)]) C w (cc_X8_nearest N t0 h x5 x2.toInt64 (1 : Int32) hk0 e23) (mo_X8_nearest N t0 h x5 x2.toInt64 (1 : Int32) e23) (mb_X8_answerScan_22 N k7 t0 _ _ _ _ _ _ _ _ m7 hJ) hz2 hk0 (by decide) rfl (fs := fs11 h t0) rfl rfl ⟨tw_3_118, tw_3_115, tw_3_116, tw_3_117, tw_1_8⟩ cd_X8_nearest ⟨by decide, by decide⟩ hl.1 (by first | exact Nat.le_of_ble_eq_true rfl | simp [rf_cat, cat_i, cat_l, cat_r]) rfl dX8_answerScan_19 (fun H locs w1 => ?_)
    have hk24 := kd_keep w (mo_X8_nearest N t0 h x5 x2.toInt64 (1 : Int32) e23) hk0 (by decide)
    have w := w1
    exact sb_X8_answerScan_22 C hz2 N k7 t0 m7 i7 _ _ _ _ _ _ _ _ hJ hk24 w hl
def L_X8_answerScan_7 (N : Nat) (t0 : Nat) : Nat → Hp → Int32 → Int32 → Int32 → (Option Nat) → Int64 → Int32 → Option (Hp × Unit)
  | 0 => fun _ _ _ _ _ _ _ => none
  | n + 1 => fun h x1 x2 x3 x4 x5 x7 => B_X8_answerScan_7 N (L_X8_answerScan_7 N t0 n) t0 h x1 x2 x3 x4 x5 x7
theorem ml_X8_answerScan_7 (N : Nat) (t0 : Nat) : ∀ (n : Nat) (h : Hp) (x1 : Int32) (x2 : Int32) (x3 : Int32) (x4 : Option Nat) (x5 : Int64) (x7 : Int32), L_X8_answerScan_7 N t0 n h x1 x2 x3 x4 x5 x7 = some (hz, ()) → Mo h hz := by
  intro n
  induction n with
  | zero => intro h x1 x2 x3 x4 x5 x7 hJ; cases hJ
  | succ n ih => intro h x1 x2 x3 x4 x5 x7 hJ; exact mb_X8_answerScan_7 N (L_X8_answerScan_7 N t0 n) t0 h x1 x2 x3 x4 x5 x7 ih hJ
theorem sl_X8_answerScan_7 (C : Cx p s m args meth c cX8_answerScan 11 none RX8 D cs A h0.se) (hz2 : hz.nx ≤ h0.nx + mc ∧ hz.su ≤ h0.su + ms) (N : Nat) (t0 : Nat) : ∀ n : Nat, ∀ (h : Hp) (x1 : Int32) (x2 : Int32) (x3 : Int32) (x4 : Option Nat) (x5 : Int64) (x7 : Int32) (H : Heap) (locs : List Loc) (cells slots : Nat) (ls : Array Slot), L_X8_answerScan_7 N t0 n h x1 x2 x3 x4 x5 x7 = some (hz, ()) → h.kd t0 = 11 → Wo D cs A s h0 h H locs cells slots → lv_has ls 11 [(0, .ref t0), (1, .int x1), (2, .int x2), (3, .int x3), (4, va_rf x4), (5, .long x5), (7, .int x7)] → W p l e { frames := 6, cells := mc, slots := ms, locals := 190 } s m args below meth c H locs cells slots (MQ below (Zv D cs A hz) args s mc ms A) (F0 m 7 ls []) := by
  intro n
  induction n with
  | zero => intro h x1 x2 x3 x4 x5 x7 H locs cells slots ls hJ; cases hJ
  | succ n ih =>
    intro h x1 x2 x3 x4 x5 x7 H locs cells slots ls hJ hk0 w hl
    exact sb_X8_answerScan_7 C hz2 N (L_X8_answerScan_7 N t0 n) t0 (ml_X8_answerScan_7 N t0 n) ih h x1 x2 x3 x4 x5 x7 hJ hk0 w hl
def B_X8_answerScan_0 (N : Nat) (t0 : Nat) (h : Hp) (x1 : Int32) (x2 : Int32) (x3 : Int32) (x4 : Option Nat) : Option (Hp × Unit) := L_X8_answerScan_7 N t0 N h x1 x2 x3 x4 x1.toInt64 (0 : Int32)
theorem mb_X8_answerScan_0 (N : Nat) (t0 : Nat) (h : Hp) (x1 : Int32) (x2 : Int32) (x3 : Int32) (x4 : Option Nat) (hJ : B_X8_answerScan_0 N t0 h x1 x2 x3 x4 = some (hz, ())) : Mo h hz := by
  unfold B_X8_answerScan_0 at hJ
  exact ml_X8_answerScan_7 N t0 N _ _ _ _ _ _ _ hJ
set_option maxRecDepth 100000 in
set_option maxHeartbeats 4000000 in
theorem sb_X8_answerScan_0 (C : Cx p s m args meth c cX8_answerScan 11 none RX8 D cs A h0.se) (hz2 : hz.nx ≤ h0.nx + mc ∧ hz.su ≤ h0.su + ms) (N : Nat) (t0 : Nat) (h : Hp) (x1 : Int32) (x2 : Int32) (x3 : Int32) (x4 : Option Nat) (hJ : B_X8_answerScan_0 N t0 h x1 x2 x3 x4 = some (hz, ())) (hk0 : h.kd t0 = 11) {H : Heap} {locs : List Loc} {cells slots : Nat} (w : Wo D cs A s h0 h H locs cells slots) {ls : Array Slot} (hl : lv_has ls 11 [(0, .ref t0), (1, .int x1), (2, .int x2), (3, .int x3), (4, va_rf x4)]) : W p l e { frames := 6, cells := mc, slots := ms, locals := 190 } s m args below meth c H locs cells slots (MQ below (Zv D cs A hz) args s mc ms A) (F0 m 0 ls []) := by
  obtain ⟨hx, hb, hml, hown, hts, -⟩ := id C
  unfold B_X8_answerScan_0 at hJ
  refine lv_iload_n hx hb dX8_answerScan_0 rfl (lv_at hl 1 rfl) ?_
  refine lv_i2l hx hb dX8_answerScan_1 rfl ?_
  refine lv_lstore (i := 5) (lv' := [(5, .long x1.toInt64), (0, .ref t0), (1, .int x1), (2, .int x2), (3, .int x3), (4, va_rf x4)]) hx hb dX8_answerScan_2 hl (by decide) (by simp [List.filter, rf_cat, cat_i, cat_l, cat_r]) (fun ls hl => ?_)
  refine lv_iconst (v := (0 : Int32)) hx hb dX8_answerScan_4 (by decide) ?_
  refine lv_istore (i := 7) (lv' := [(7, .int (0 : Int32)), (5, .long x1.toInt64), (0, .ref t0), (1, .int x1), (2, .int x2), (3, .int x3), (4, va_rf x4)]) hx hb dX8_answerScan_5 hl (by decide) rfl (fun ls hl => ?_)
  exact sl_X8_answerScan_7 C hz2 N t0 N _ _ _ _ _ _ _ _ _ _ _ _ hJ hk0 w (lv_sub (l' := [(0, .ref t0), (1, .int x1), (2, .int x2), (3, .int x3), (4, va_rf x4), (5, .long x1.toInt64), (7, .int (0 : Int32))]) hl [2, 3, 4, 5, 6, 1, 0] rfl)
def J_X8_answerScan (N : Nat) (t0 : Nat) (h : Hp) (x1 : Int32) (x2 : Int32) (x3 : Int32) (x4 : Option Nat) : Option (Hp × Unit) := B_X8_answerScan_0 N t0 h x1 x2 x3 x4
theorem mo_X8_answerScan (N : Nat) (t0 : Nat) (h : Hp) (x1 : Int32) (x2 : Int32) (x3 : Int32) (x4 : Option Nat) (hJ : J_X8_answerScan N t0 h x1 x2 x3 x4 = some (hz, ())) : Mo h hz := mb_X8_answerScan_0 N t0 h x1 x2 x3 x4 hJ
theorem cd_X8_answerScan : Cd yX8_answerScan 4 := ⟨by decide +kernel, by decide +kernel, by decide +kernel⟩
theorem cc_X8_answerScan (N : Nat) (t0 : Nat) (h : Hp) (x1 : Int32) (x2 : Int32) (x3 : Int32) (x4 : Option Nat) (hk0 : h.kd t0 = 11) (hJ : J_X8_answerScan N t0 h x1 x2 x3 x4 = some (hz, ())) : Cv l yX8_answerScan cX8_answerScan 11 none 6 190 D cs h hz [.ref t0, .int x1, .int x2, .int x3, va_rf x4] := by
  intro mc ms g1 g2
  refine je_any (by decide) (by simp [lg_sl, rf_cat, cat_i, cat_l, cat_r]) ?_
  intro p e s m args below meth c C hin2 w ls hl
  have hl : lv_has ls 11 [(0, .ref t0), (1, .int x1), (2, .int x2), (3, .int x3), (4, va_rf x4)] := by simpa [lv_args, rf_cat, cat_i, cat_l, cat_r] using hl
  exact sb_X8_answerScan_0 C ⟨g1, g2⟩ N t0 h x1 x2 x3 x4 hJ hk0 w hl
end G_X8_answerScan
section G_X8_putOwn
variable {p : Program} {l : Launch} {e : Env} {s : State} {m : MethodId} {args : Array Value} {below : List Frame} {meth : Method} {c : Code} {D : va_G} {cs : C4} {A : Nat → Prop} {h0 hz : Hp} {mc ms : Nat} {rz : Int32}
def B_X8_putOwn_35 (N : Nat) (t0 : Nat) (h : Hp) (y0 : Int32) : Option (Hp × Int32) := some (h, y0)
theorem mb_X8_putOwn_35 (N : Nat) (t0 : Nat) (h : Hp) (y0 : Int32) (hJ : B_X8_putOwn_35 N t0 h y0 = some (hz, rz)) : Mo h hz := by
  unfold B_X8_putOwn_35 at hJ
  obtain ⟨rfl, -⟩ := rs2 hJ
  exact ⟨fun _ _ => rfl, Nat.le_refl _, Nat.le_refl _, rfl, fun _ _ => rfl⟩
set_option maxRecDepth 100000 in
set_option maxHeartbeats 4000000 in
theorem sb_X8_putOwn_35 (C : Cx p s m args meth c cX8_putOwn 5 (some .int) RX8 D cs A h0.se) (hz2 : hz.nx ≤ h0.nx + mc ∧ hz.su ≤ h0.su + ms) (N : Nat) (t0 : Nat) (h : Hp) (y0 : Int32) (hJ : B_X8_putOwn_35 N t0 h y0 = some (hz, rz)) (hk0 : h.kd t0 = 11) {H : Heap} {locs : List Loc} {cells slots : Nat} (w : Wo D cs A s h0 h H locs cells slots) {ls : Array Slot} (hl : lv_has ls 5 [(0, .ref t0)]) : W p l e { frames := 7, cells := mc, slots := ms, locals := 230 } s m args below meth c H locs cells slots (MQ below (Zi D cs A hz rz) args s mc ms A) (F0 m 35 ls [.int y0]) := by
  obtain ⟨hx, hb, hml, hown, hts, -⟩ := id C
  unfold B_X8_putOwn_35 at hJ
  obtain ⟨rfl, rfl⟩ := rs2 hJ
  exact jr_iret C w hz2 dX8_putOwn_35
def B_X8_putOwn_28 (N : Nat) (t0 : Nat) (h : Hp) : Option (Hp × Int32) := dr h 8 (h.fr 1103 t0) (fun a1 => (J_X5_size N a1 h).bind (fun z => B_X8_putOwn_35 N t0 z.1 z.2))
theorem mb_X8_putOwn_28 (N : Nat) (t0 : Nat) (h : Hp) (hJ : B_X8_putOwn_28 N t0 h = some (hz, rz)) : Mo h hz := by
  unfold B_X8_putOwn_28 at hJ
  obtain ⟨a1, ea1, -, hJ⟩ := dr_some hJ
  obtain ⟨⟨h2, r3⟩, e4, hJ⟩ := ob_some hJ
  exact (mo_X5_size N a1 h e4).tr (mb_X8_putOwn_35 N t0 _ _ hJ)
set_option maxRecDepth 100000 in
set_option maxHeartbeats 4000000 in
theorem sb_X8_putOwn_28 (C : Cx p s m args meth c cX8_putOwn 5 (some .int) RX8 D cs A h0.se) (hz2 : hz.nx ≤ h0.nx + mc ∧ hz.su ≤ h0.su + ms) (N : Nat) (t0 : Nat) (h : Hp) (hJ : B_X8_putOwn_28 N t0 h = some (hz, rz)) (hk0 : h.kd t0 = 11) {H : Heap} {locs : List Loc} {cells slots : Nat} (w : Wo D cs A s h0 h H locs cells slots) {ls : Array Slot} (hl : lv_has ls 5 [(0, .ref t0)]) : W p l e { frames := 7, cells := mc, slots := ms, locals := 230 } s m args below meth c H locs cells slots (MQ below (Zi D cs A hz rz) args s mc ms A) (F0 m 28 ls []) := by
  obtain ⟨hx, hb, hml, hown, hts, -⟩ := id C
  unfold B_X8_putOwn_28 at hJ
  refine lv_aload_n hx hb dX8_putOwn_28 rfl (lv_at hl 0 rfl) ?_
  refine fg_1103 C w hk0 tw_1_200 dX8_putOwn_29 ?_
  obtain ⟨a1, ea1, hka1, hJ⟩ := dr_some hJ
  rw [ea1]
  obtain ⟨⟨h2, r3⟩, e4, hJ⟩ := ob_some hJ
  refine jc_Vi (As := []) C w (cc_X5_size N a1 h hka1 e4) (mo_X5_size N a1 h e4) (mb_X8_putOwn_35 N t0 _ _ hJ) hz2 hka1 (by decide) rfl (fs := fs8 h a1) rfl rfl ⟨tw_2_181, tw_3_119, tw_2_179, tw_2_180, tw_1_2⟩ cd_X5_size ⟨by decide, by decide⟩ hl.1 (by first | exact Nat.le_of_ble_eq_true rfl | simp [rf_cat, cat_i, cat_l, cat_r]) rfl dX8_putOwn_32 (fun H locs w1 => ?_)
  have hk5 := kd_keep w (mo_X5_size N a1 h e4) hk0 (by decide)
  have w := w1
  exact sb_X8_putOwn_35 C hz2 N t0 _ _ hJ hk5 w hl
def B_X8_putOwn_0 (N : Nat) (t0 : Nat) (h : Hp) (x1 : Int32) (x2 : Int32) (x3 : Int64) : Option (Hp × Int32) := dr (h.sfi 1106 t0 ((h.fi 1106 t0) + (1 : Int32))) 8 ((h.sfi 1106 t0 ((h.fi 1106 t0) + (1 : Int32))).fr 1103 t0) (fun a6 => (J_X5_put N a6 (h.sfi 1106 t0 ((h.fi 1106 t0) + (1 : Int32))) x1 ((h.sfi 1106 t0 ((h.fi 1106 t0) + (1 : Int32))).fi 1106 t0) ((h.sfi 1106 t0 ((h.fi 1106 t0) + (1 : Int32))).fi 1102 t0) x2 x3).bind (fun z => B_X8_putOwn_28 N t0 z.1))
theorem mb_X8_putOwn_0 (N : Nat) (t0 : Nat) (h : Hp) (x1 : Int32) (x2 : Int32) (x3 : Int64) (hJ : B_X8_putOwn_0 N t0 h x1 x2 x3 = some (hz, rz)) : Mo h hz := by
  unfold B_X8_putOwn_0 at hJ
  obtain ⟨a6, ea6, -, hJ⟩ := dr_some hJ
  obtain ⟨⟨h7, r8⟩, e9, hJ⟩ := ob_some hJ
  exact (Mo.tr (show Mo h (h.sfi 1106 t0 ((h.fi 1106 t0) + (1 : Int32))) from ⟨fun _ _ => rfl, Nat.le_refl _, Nat.le_refl _, rfl, fun _ _ => rfl⟩) ((mo_X5_put N a6 (h.sfi 1106 t0 ((h.fi 1106 t0) + (1 : Int32))) x1 ((h.sfi 1106 t0 ((h.fi 1106 t0) + (1 : Int32))).fi 1106 t0) ((h.sfi 1106 t0 ((h.fi 1106 t0) + (1 : Int32))).fi 1102 t0) x2 x3 e9).tr (mb_X8_putOwn_28 N t0 _ hJ)))
set_option maxRecDepth 100000 in
set_option maxHeartbeats 4000000 in
theorem sb_X8_putOwn_0 (C : Cx p s m args meth c cX8_putOwn 5 (some .int) RX8 D cs A h0.se) (hz2 : hz.nx ≤ h0.nx + mc ∧ hz.su ≤ h0.su + ms) (N : Nat) (t0 : Nat) (h : Hp) (x1 : Int32) (x2 : Int32) (x3 : Int64) (hJ : B_X8_putOwn_0 N t0 h x1 x2 x3 = some (hz, rz)) (hk0 : h.kd t0 = 11) {H : Heap} {locs : List Loc} {cells slots : Nat} (w : Wo D cs A s h0 h H locs cells slots) {ls : Array Slot} (hl : lv_has ls 5 [(0, .ref t0), (1, .int x1), (2, .int x2), (3, .long x3)]) : W p l e { frames := 7, cells := mc, slots := ms, locals := 230 } s m args below meth c H locs cells slots (MQ below (Zi D cs A hz rz) args s mc ms A) (F0 m 0 ls []) := by
  obtain ⟨hx, hb, hml, hown, hts, -⟩ := id C
  unfold B_X8_putOwn_0 at hJ
  refine lv_aload_n hx hb dX8_putOwn_0 rfl (lv_at hl 0 rfl) ?_
  refine lv_dup hx hb dX8_putOwn_1 rfl ?_
  refine fg_1106 C w hk0 tw_1_205 dX8_putOwn_2 ?_
  refine lv_iconst (v := (1 : Int32)) hx hb dX8_putOwn_5 (by decide) ?_
  refine lv_iadd hx hb dX8_putOwn_6 ?_
  refine fp_1106 (x := (h.fi 1106 t0) + (1 : Int32)) C w hk0 tw_1_205 dX8_putOwn_7 (fun H locs w => ?_)
  refine lv_aload_n hx hb dX8_putOwn_10 rfl (lv_at hl 0 rfl) ?_
  refine fg_1103 C w hk0 tw_1_200 dX8_putOwn_11 ?_
  refine lv_iload_n hx hb dX8_putOwn_14 rfl (lv_at hl 1 rfl) ?_
  refine lv_aload_n hx hb dX8_putOwn_15 rfl (lv_at hl 0 rfl) ?_
  refine fg_1106 C w hk0 tw_1_205 dX8_putOwn_16 ?_
  refine lv_aload_n hx hb dX8_putOwn_19 rfl (lv_at hl 0 rfl) ?_
  refine fg_1102 C w hk0 tw_1_198 dX8_putOwn_20 ?_
  refine lv_iload_n hx hb dX8_putOwn_23 rfl (lv_at hl 2 rfl) ?_
  refine lv_lload_n hx hb dX8_putOwn_24 rfl (lv_at hl 3 rfl) ?_
  obtain ⟨a6, ea6, hka6, hJ⟩ := dr_some hJ
  rw [ea6]
  obtain ⟨⟨h7, r8⟩, e9, hJ⟩ := ob_some hJ
  refine jc_Vv (As := [.int x1, .int ((h.sfi 1106 t0 ((h.fi 1106 t0) + (1 : Int32))).fi 1106 t0), .int ((h.sfi 1106 t0 ((h.fi 1106 t0) + (1 : Int32))).fi 1102 t0), .int x2, .long x3]) C w (cc_X5_put N a6 (h.sfi 1106 t0 ((h.fi 1106 t0) + (1 : Int32))) x1 ((h.sfi 1106 t0 ((h.fi 1106 t0) + (1 : Int32))).fi 1106 t0) ((h.sfi 1106 t0 ((h.fi 1106 t0) + (1 : Int32))).fi 1102 t0) x2 x3 hka6 e9) (mo_X5_put N a6 (h.sfi 1106 t0 ((h.fi 1106 t0) + (1 : Int32))) x1 ((h.sfi 1106 t0 ((h.fi 1106 t0) + (1 : Int32))).fi 1106 t0) ((h.sfi 1106 t0 ((h.fi 1106 t0) + (1 : Int32))).fi 1102 t0) x2 x3 e9) (mb_X8_putOwn_28 N t0 _ hJ) hz2 hka6 (by decide) rfl (fs := fs8 (h.sfi 1106 t0 ((h.fi 1106 t0) + (1 : Int32))) a6) rfl rfl ⟨tw_3_140, tw_3_137, tw_3_138, tw_3_139, tw_1_2⟩ cd_X5_put ⟨by decide, by decide⟩ hl.1 (by first | exact Nat.le_of_ble_eq_true rfl | simp [rf_cat, cat_i, cat_l, cat_r]) rfl dX8_putOwn_25 (fun H locs w1 => ?_)
  have hk10 := kd_keep w (mo_X5_put N a6 (h.sfi 1106 t0 ((h.fi 1106 t0) + (1 : Int32))) x1 ((h.sfi 1106 t0 ((h.fi 1106 t0) + (1 : Int32))).fi 1106 t0) ((h.sfi 1106 t0 ((h.fi 1106 t0) + (1 : Int32))).fi 1102 t0) x2 x3 e9) hk0 (by decide)
  have w := w1
  exact sb_X8_putOwn_28 C hz2 N t0 _ hJ hk10 w (lv_sub (l' := [(0, .ref t0)]) hl [0] rfl)
def J_X8_putOwn (N : Nat) (t0 : Nat) (h : Hp) (x1 : Int32) (x2 : Int32) (x3 : Int64) : Option (Hp × Int32) := B_X8_putOwn_0 N t0 h x1 x2 x3
theorem mo_X8_putOwn (N : Nat) (t0 : Nat) (h : Hp) (x1 : Int32) (x2 : Int32) (x3 : Int64) (hJ : J_X8_putOwn N t0 h x1 x2 x3 = some (hz, rz)) : Mo h hz := mb_X8_putOwn_0 N t0 h x1 x2 x3 hJ
theorem cd_X8_putOwn : Cd yX8_putOwn 3 := ⟨by decide +kernel, by decide +kernel, by decide +kernel⟩
theorem cc_X8_putOwn (N : Nat) (t0 : Nat) (h : Hp) (x1 : Int32) (x2 : Int32) (x3 : Int64) (hk0 : h.kd t0 = 11) (hJ : J_X8_putOwn N t0 h x1 x2 x3 = some (hz, rz)) : Ci l yX8_putOwn cX8_putOwn 5 (some .int) 7 230 D cs h hz [.ref t0, .int x1, .int x2, .long x3] rz := by
  intro mc ms g1 g2
  refine je_any (by decide) (by simp [lg_sl, rf_cat, cat_i, cat_l, cat_r]) ?_
  intro p e s m args below meth c C hin2 w ls hl
  have hl : lv_has ls 5 [(0, .ref t0), (1, .int x1), (2, .int x2), (3, .long x3)] := hl
  exact sb_X8_putOwn_0 C ⟨g1, g2⟩ N t0 h x1 x2 x3 hJ hk0 w hl
end G_X8_putOwn
section G_X8_addPlace
variable {p : Program} {l : Launch} {e : Env} {s : State} {m : MethodId} {args : Array Value} {below : List Frame} {meth : Method} {c : Code} {D : va_G} {cs : C4} {A : Nat → Prop} {h0 hz : Hp} {mc ms : Nat} {rz : Int32}
def B_X8_addPlace_0 (N : Nat) (t0 : Nat) (h : Hp) : Option (Hp × Int32) := dr h 20 (h.fr 1104 t0) (fun a1 => if (h.fi 1105 t0) < (nI (h.al a1)) then (dr h 20 (h.fr 1104 t0) (fun a3 => ck (¬ (h.fi 1105 t0 < 0 ∨ h.al a3 ≤ (h.fi 1105 t0).toNatClampNeg)) (some ((h.sai a3 (h.fi 1105 t0).toNatClampNeg (h.fi 1106 t0)).sfi 1105 t0 (((h.sai a3 (h.fi 1105 t0).toNatClampNeg (h.fi 1106 t0)).fi 1105 t0) + (1 : Int32)), ((h.sai a3 (h.fi 1105 t0).toNatClampNeg (h.fi 1106 t0)).sfi 1105 t0 (((h.sai a3 (h.fi 1105 t0).toNatClampNeg (h.fi 1106 t0)).fi 1105 t0) + (1 : Int32))).fi 1105 t0)))) else (some (h, (-1 : Int32))))
theorem mb_X8_addPlace_0 (N : Nat) (t0 : Nat) (h : Hp) (hJ : B_X8_addPlace_0 N t0 h = some (hz, rz)) : Mo h hz := by
  unfold B_X8_addPlace_0 at hJ
  obtain ⟨a1, ea1, -, hJ⟩ := dr_some hJ
  by_cases c2 : (h.fi 1105 t0) < (nI (h.al a1))
  · have hJ := it_pos c2 hJ
    obtain ⟨a3, ea3, -, hJ⟩ := dr_some hJ
    obtain ⟨-, hJ⟩ := ck_some hJ
    obtain ⟨rfl, -⟩ := rs2 hJ
    exact ⟨fun _ _ => rfl, Nat.le_refl _, Nat.le_refl _, rfl, fun _ _ => rfl⟩
  · have hJ := it_neg c2 hJ
    obtain ⟨rfl, -⟩ := rs2 hJ
    exact ⟨fun _ _ => rfl, Nat.le_refl _, Nat.le_refl _, rfl, fun _ _ => rfl⟩
set_option maxRecDepth 100000 in
set_option maxHeartbeats 4000000 in
theorem sb_X8_addPlace_0 (C : Cx p s m args meth c cX8_addPlace 1 (some .int) RX8 D cs A h0.se) (hz2 : hz.nx ≤ h0.nx + mc ∧ hz.su ≤ h0.su + ms) (N : Nat) (t0 : Nat) (h : Hp) (hJ : B_X8_addPlace_0 N t0 h = some (hz, rz)) (hk0 : h.kd t0 = 11) {H : Heap} {locs : List Loc} {cells slots : Nat} (w : Wo D cs A s h0 h H locs cells slots) {ls : Array Slot} (hl : lv_has ls 1 [(0, .ref t0)]) : W p l e { frames := 0, cells := mc, slots := ms, locals := 0 } s m args below meth c H locs cells slots (MQ below (Zi D cs A hz rz) args s mc ms A) (F0 m 0 ls []) := by
  obtain ⟨hx, hb, hml, hown, hts, -⟩ := id C
  unfold B_X8_addPlace_0 at hJ
  refine lv_aload_n hx hb dX8_addPlace_0 rfl (lv_at hl 0 rfl) ?_
  refine fg_1105 C w hk0 tw_1_203 dX8_addPlace_1 ?_
  refine lv_aload_n hx hb dX8_addPlace_4 rfl (lv_at hl 0 rfl) ?_
  refine fg_1104 C w hk0 tw_1_202 dX8_addPlace_5 ?_
  obtain ⟨a1, ea1, hka1, hJ⟩ := dr_some hJ
  rw [ea1]
  refine jr_alen C w hka1 (by decide) dX8_addPlace_8 ?_
  refine lv_icmp_lt (tgt := 14) hx hb dX8_addPlace_9 (by decide) (fun c2 => ?_) (fun c2 => ?_)
  · have hJ := it_pos c2 hJ
    refine lv_aload_n hx hb dX8_addPlace_14 rfl (lv_at hl 0 rfl) ?_
    refine fg_1104 C w hk0 tw_1_202 dX8_addPlace_15 ?_
    refine lv_aload_n hx hb dX8_addPlace_18 rfl (lv_at hl 0 rfl) ?_
    refine fg_1105 C w hk0 tw_1_203 dX8_addPlace_19 ?_
    refine lv_aload_n hx hb dX8_addPlace_22 rfl (lv_at hl 0 rfl) ?_
    refine fg_1106 C w hk0 tw_1_205 dX8_addPlace_23 ?_
    obtain ⟨a3, ea3, hka3, hJ⟩ := dr_some hJ
    rw [ea3]
    obtain ⟨hi4, hJ⟩ := ck_some hJ
    refine jr_iast C w hka3 hi4 dX8_addPlace_26 (fun H locs w => ?_)
    refine lv_aload_n hx hb dX8_addPlace_27 rfl (lv_at hl 0 rfl) ?_
    refine lv_dup hx hb dX8_addPlace_28 rfl ?_
    refine fg_1105 C w hk0 tw_1_203 dX8_addPlace_29 ?_
    refine lv_iconst (v := (1 : Int32)) hx hb dX8_addPlace_32 (by decide) ?_
    refine lv_iadd hx hb dX8_addPlace_33 ?_
    refine fp_1105 (x := ((h.sai a3 (h.fi 1105 t0).toNatClampNeg (h.fi 1106 t0)).fi 1105 t0) + (1 : Int32)) C w hk0 tw_1_203 dX8_addPlace_34 (fun H locs w => ?_)
    refine lv_aload_n hx hb dX8_addPlace_37 rfl (lv_at hl 0 rfl) ?_
    refine fg_1105 C w hk0 tw_1_203 dX8_addPlace_38 ?_
    obtain ⟨rfl, rfl⟩ := rs2 hJ
    exact jr_iret C w hz2 dX8_addPlace_41
  · have hJ := it_neg c2 hJ
    refine lv_iconst (v := (-1 : Int32)) hx hb dX8_addPlace_12 (by decide) ?_
    obtain ⟨rfl, rfl⟩ := rs2 hJ
    exact jr_iret C w hz2 dX8_addPlace_13
def J_X8_addPlace (N : Nat) (t0 : Nat) (h : Hp) : Option (Hp × Int32) := B_X8_addPlace_0 N t0 h
theorem mo_X8_addPlace (N : Nat) (t0 : Nat) (h : Hp) (hJ : J_X8_addPlace N t0 h = some (hz, rz)) : Mo h hz := mb_X8_addPlace_0 N t0 h hJ
theorem cd_X8_addPlace : Cd yX8_addPlace 0 := ⟨by decide +kernel, by decide +kernel, by decide +kernel⟩
theorem cc_X8_addPlace (N : Nat) (t0 : Nat) (h : Hp) (hk0 : h.kd t0 = 11) (hJ : J_X8_addPlace N t0 h = some (hz, rz)) : Ci l yX8_addPlace cX8_addPlace 1 (some .int) 0 0 D cs h hz [.ref t0] rz := by
  intro mc ms g1 g2
  refine je_any (by decide) (by simp [lg_sl, rf_cat, cat_i, cat_l, cat_r]) ?_
  intro p e s m args below meth c C hin2 w ls hl
  have hl : lv_has ls 1 [(0, .ref t0)] := hl
  exact sb_X8_addPlace_0 C ⟨g1, g2⟩ N t0 h hJ hk0 w hl
end G_X8_addPlace
section G_X8_hasPlace
variable {p : Program} {l : Launch} {e : Env} {s : State} {m : MethodId} {args : Array Value} {below : List Frame} {meth : Method} {c : Code} {D : va_G} {cs : C4} {A : Nat → Prop} {h0 hz : Hp} {mc ms : Nat} {rz : Int32}
def B_X8_hasPlace_18 (N : Nat) (t0 : Nat) (h : Hp) (y0 : Int32) : Option (Hp × Int32) := ck (y0 = 0 ∨ y0 = 1) (some (h, y0))
theorem mb_X8_hasPlace_18 (N : Nat) (t0 : Nat) (h : Hp) (y0 : Int32) (hJ : B_X8_hasPlace_18 N t0 h y0 = some (hz, rz)) : Mo h hz := by
  unfold B_X8_hasPlace_18 at hJ
  obtain ⟨-, hJ⟩ := ck_some hJ
  obtain ⟨rfl, -⟩ := rs2 hJ
  exact ⟨fun _ _ => rfl, Nat.le_refl _, Nat.le_refl _, rfl, fun _ _ => rfl⟩
set_option maxRecDepth 100000 in
set_option maxHeartbeats 4000000 in
theorem sb_X8_hasPlace_18 (C : Cx p s m args meth c cX8_hasPlace 2 (some .boolean) RX8 D cs A h0.se) (hz2 : hz.nx ≤ h0.nx + mc ∧ hz.su ≤ h0.su + ms) (N : Nat) (t0 : Nat) (h : Hp) (y0 : Int32) (hJ : B_X8_hasPlace_18 N t0 h y0 = some (hz, rz)) (hk0 : h.kd t0 = 11) {H : Heap} {locs : List Loc} {cells slots : Nat} (w : Wo D cs A s h0 h H locs cells slots) {ls : Array Slot} (hl : lv_has ls 2 [(0, .ref t0)]) : W p l e { frames := 0, cells := mc, slots := ms, locals := 0 } s m args below meth c H locs cells slots (MQ below (Zi D cs A hz rz) args s mc ms A) (F0 m 18 ls [.int y0]) := by
  obtain ⟨hx, hb, hml, hown, hts, -⟩ := id C
  unfold B_X8_hasPlace_18 at hJ
  obtain ⟨hzo1, hJ⟩ := ck_some hJ
  obtain ⟨rfl, rfl⟩ := rs2 hJ
  exact jr_zret C w hzo1 hz2 dX8_hasPlace_18
def B_X8_hasPlace_17 (N : Nat) (t0 : Nat) (h : Hp) : Option (Hp × Int32) := B_X8_hasPlace_18 N t0 h (0 : Int32)
theorem mb_X8_hasPlace_17 (N : Nat) (t0 : Nat) (h : Hp) (hJ : B_X8_hasPlace_17 N t0 h = some (hz, rz)) : Mo h hz := by
  unfold B_X8_hasPlace_17 at hJ
  exact mb_X8_hasPlace_18 N t0 _ _ hJ
set_option maxRecDepth 100000 in
set_option maxHeartbeats 4000000 in
theorem sb_X8_hasPlace_17 (C : Cx p s m args meth c cX8_hasPlace 2 (some .boolean) RX8 D cs A h0.se) (hz2 : hz.nx ≤ h0.nx + mc ∧ hz.su ≤ h0.su + ms) (N : Nat) (t0 : Nat) (h : Hp) (hJ : B_X8_hasPlace_17 N t0 h = some (hz, rz)) (hk0 : h.kd t0 = 11) {H : Heap} {locs : List Loc} {cells slots : Nat} (w : Wo D cs A s h0 h H locs cells slots) {ls : Array Slot} (hl : lv_has ls 2 [(0, .ref t0)]) : W p l e { frames := 0, cells := mc, slots := ms, locals := 0 } s m args below meth c H locs cells slots (MQ below (Zi D cs A hz rz) args s mc ms A) (F0 m 17 ls []) := by
  obtain ⟨hx, hb, hml, hown, hts, -⟩ := id C
  unfold B_X8_hasPlace_17 at hJ
  refine lv_iconst (v := (0 : Int32)) hx hb dX8_hasPlace_17 (by decide) ?_
  exact sb_X8_hasPlace_18 C hz2 N t0 _ _ hJ hk0 w hl
def B_X8_hasPlace_0 (N : Nat) (t0 : Nat) (h : Hp) (x1 : Int32) : Option (Hp × Int32) := if x1 < (1 : Int32) then (B_X8_hasPlace_17 N t0 h) else (if (h.fi 1105 t0) < x1 then (B_X8_hasPlace_17 N t0 h) else (B_X8_hasPlace_18 N t0 h (1 : Int32)))
theorem mb_X8_hasPlace_0 (N : Nat) (t0 : Nat) (h : Hp) (x1 : Int32) (hJ : B_X8_hasPlace_0 N t0 h x1 = some (hz, rz)) : Mo h hz := by
  unfold B_X8_hasPlace_0 at hJ
  by_cases c2 : x1 < (1 : Int32)
  · have hJ := it_pos c2 hJ
    exact mb_X8_hasPlace_17 N t0 _ hJ
  · have hJ := it_neg c2 hJ
    by_cases c3 : (h.fi 1105 t0) < x1
    · have hJ := it_pos c3 hJ
      exact mb_X8_hasPlace_17 N t0 _ hJ
    · have hJ := it_neg c3 hJ
      exact mb_X8_hasPlace_18 N t0 _ _ hJ
set_option maxRecDepth 100000 in
set_option maxHeartbeats 4000000 in
theorem sb_X8_hasPlace_0 (C : Cx p s m args meth c cX8_hasPlace 2 (some .boolean) RX8 D cs A h0.se) (hz2 : hz.nx ≤ h0.nx + mc ∧ hz.su ≤ h0.su + ms) (N : Nat) (t0 : Nat) (h : Hp) (x1 : Int32) (hJ : B_X8_hasPlace_0 N t0 h x1 = some (hz, rz)) (hk0 : h.kd t0 = 11) {H : Heap} {locs : List Loc} {cells slots : Nat} (w : Wo D cs A s h0 h H locs cells slots) {ls : Array Slot} (hl : lv_has ls 2 [(0, .ref t0), (1, .int x1)]) : W p l e { frames := 0, cells := mc, slots := ms, locals := 0 } s m args below meth c H locs cells slots (MQ below (Zi D cs A hz rz) args s mc ms A) (F0 m 0 ls []) := by
  obtain ⟨hx, hb, hml, hown, hts, -⟩ := id C
  unfold B_X8_hasPlace_0 at hJ
  refine lv_iload_n hx hb dX8_hasPlace_0 rfl (lv_at hl 1 rfl) ?_
  refine lv_iconst (v := (1 : Int32)) hx hb dX8_hasPlace_1 (by decide) ?_
  refine lv_icmp_lt (tgt := 17) hx hb dX8_hasPlace_2 (by decide) (fun c2 => ?_) (fun c2 => ?_)
  · have hJ := it_pos c2 hJ
    exact sb_X8_hasPlace_17 C hz2 N t0 _ hJ hk0 w (lv_sub (l' := [(0, .ref t0)]) hl [0] rfl)
  · have hJ := it_neg c2 hJ
    refine lv_iload_n hx hb dX8_hasPlace_5 rfl (lv_at hl 1 rfl) ?_
    refine lv_aload_n hx hb dX8_hasPlace_6 rfl (lv_at hl 0 rfl) ?_
    refine fg_1105 C w hk0 tw_1_203 dX8_hasPlace_7 ?_
    refine lv_icmp_gt (tgt := 17) hx hb dX8_hasPlace_10 (by decide) (fun c3 => ?_) (fun c3 => ?_)
    · have hJ := it_pos c3 hJ
      exact sb_X8_hasPlace_17 C hz2 N t0 _ hJ hk0 w (lv_sub (l' := [(0, .ref t0)]) hl [0] rfl)
    · have hJ := it_neg c3 hJ
      refine lv_iconst (v := (1 : Int32)) hx hb dX8_hasPlace_13 (by decide) ?_
      refine lv_goto (tgt := 18) hx hb dX8_hasPlace_14 (by decide) ?_
      exact sb_X8_hasPlace_18 C hz2 N t0 _ _ hJ hk0 w (lv_sub (l' := [(0, .ref t0)]) hl [0] rfl)
def J_X8_hasPlace (N : Nat) (t0 : Nat) (h : Hp) (x1 : Int32) : Option (Hp × Int32) := B_X8_hasPlace_0 N t0 h x1
theorem mo_X8_hasPlace (N : Nat) (t0 : Nat) (h : Hp) (x1 : Int32) (hJ : J_X8_hasPlace N t0 h x1 = some (hz, rz)) : Mo h hz := mb_X8_hasPlace_0 N t0 h x1 hJ
theorem cd_X8_hasPlace : Cd yX8_hasPlace 1 := ⟨by decide +kernel, by decide +kernel, by decide +kernel⟩
theorem cc_X8_hasPlace (N : Nat) (t0 : Nat) (h : Hp) (x1 : Int32) (hk0 : h.kd t0 = 11) (hJ : J_X8_hasPlace N t0 h x1 = some (hz, rz)) : Ci l yX8_hasPlace cX8_hasPlace 2 (some .boolean) 0 0 D cs h hz [.ref t0, .int x1] rz := by
  intro mc ms g1 g2
  refine je_any (by decide) (by simp [lg_sl, rf_cat, cat_i, cat_l, cat_r]) ?_
  intro p e s m args below meth c C hin2 w ls hl
  have hl : lv_has ls 2 [(0, .ref t0), (1, .int x1)] := hl
  exact sb_X8_hasPlace_0 C ⟨g1, g2⟩ N t0 h x1 hJ hk0 w hl
end G_X8_hasPlace
section G_X8_comeBack
variable {p : Program} {l : Launch} {e : Env} {s : State} {m : MethodId} {args : Array Value} {below : List Frame} {meth : Method} {c : Code} {D : va_G} {cs : C4} {A : Nat → Prop} {h0 hz : Hp} {mc ms : Nat} {rz : Int32}
def B_X8_comeBack_35 (N : Nat) (t0 : Nat) (h : Hp) (y0 : Int32) : Option (Hp × Int32) := some (h, y0)
theorem mb_X8_comeBack_35 (N : Nat) (t0 : Nat) (h : Hp) (y0 : Int32) (hJ : B_X8_comeBack_35 N t0 h y0 = some (hz, rz)) : Mo h hz := by
  unfold B_X8_comeBack_35 at hJ
  obtain ⟨rfl, -⟩ := rs2 hJ
  exact ⟨fun _ _ => rfl, Nat.le_refl _, Nat.le_refl _, rfl, fun _ _ => rfl⟩
set_option maxRecDepth 100000 in
set_option maxHeartbeats 4000000 in
theorem sb_X8_comeBack_35 (C : Cx p s m args meth c cX8_comeBack 2 (some .int) RX8 D cs A h0.se) (hz2 : hz.nx ≤ h0.nx + mc ∧ hz.su ≤ h0.su + ms) (N : Nat) (t0 : Nat) (h : Hp) (y0 : Int32) (hJ : B_X8_comeBack_35 N t0 h y0 = some (hz, rz)) (hk0 : h.kd t0 = 11) {H : Heap} {locs : List Loc} {cells slots : Nat} (w : Wo D cs A s h0 h H locs cells slots) {ls : Array Slot} (hl : lv_has ls 2 [(0, .ref t0)]) : W p l e { frames := 4, cells := mc, slots := ms, locals := 150 } s m args below meth c H locs cells slots (MQ below (Zi D cs A hz rz) args s mc ms A) (F0 m 35 ls [.int y0]) := by
  obtain ⟨hx, hb, hml, hown, hts, -⟩ := id C
  unfold B_X8_comeBack_35 at hJ
  obtain ⟨rfl, rfl⟩ := rs2 hJ
  exact jr_iret C w hz2 dX8_comeBack_35
def B_X8_comeBack_28 (N : Nat) (t0 : Nat) (h : Hp) : Option (Hp × Int32) := dr h 8 (h.fr 1103 t0) (fun a1 => (J_X5_size N a1 h).bind (fun z => B_X8_comeBack_35 N t0 z.1 z.2))
theorem mb_X8_comeBack_28 (N : Nat) (t0 : Nat) (h : Hp) (hJ : B_X8_comeBack_28 N t0 h = some (hz, rz)) : Mo h hz := by
  unfold B_X8_comeBack_28 at hJ
  obtain ⟨a1, ea1, -, hJ⟩ := dr_some hJ
  obtain ⟨⟨h2, r3⟩, e4, hJ⟩ := ob_some hJ
  exact (mo_X5_size N a1 h e4).tr (mb_X8_comeBack_35 N t0 _ _ hJ)
set_option maxRecDepth 100000 in
set_option maxHeartbeats 4000000 in
theorem sb_X8_comeBack_28 (C : Cx p s m args meth c cX8_comeBack 2 (some .int) RX8 D cs A h0.se) (hz2 : hz.nx ≤ h0.nx + mc ∧ hz.su ≤ h0.su + ms) (N : Nat) (t0 : Nat) (h : Hp) (hJ : B_X8_comeBack_28 N t0 h = some (hz, rz)) (hk0 : h.kd t0 = 11) {H : Heap} {locs : List Loc} {cells slots : Nat} (w : Wo D cs A s h0 h H locs cells slots) {ls : Array Slot} (hl : lv_has ls 2 [(0, .ref t0)]) : W p l e { frames := 4, cells := mc, slots := ms, locals := 150 } s m args below meth c H locs cells slots (MQ below (Zi D cs A hz rz) args s mc ms A) (F0 m 28 ls []) := by
  obtain ⟨hx, hb, hml, hown, hts, -⟩ := id C
  unfold B_X8_comeBack_28 at hJ
  refine lv_aload_n hx hb dX8_comeBack_28 rfl (lv_at hl 0 rfl) ?_
  refine fg_1103 C w hk0 tw_1_200 dX8_comeBack_29 ?_
  obtain ⟨a1, ea1, hka1, hJ⟩ := dr_some hJ
  rw [ea1]
  obtain ⟨⟨h2, r3⟩, e4, hJ⟩ := ob_some hJ
  refine jc_Vi (As := []) C w (cc_X5_size N a1 h hka1 e4) (mo_X5_size N a1 h e4) (mb_X8_comeBack_35 N t0 _ _ hJ) hz2 hka1 (by decide) rfl (fs := fs8 h a1) rfl rfl ⟨tw_2_181, tw_3_119, tw_2_179, tw_2_180, tw_1_2⟩ cd_X5_size ⟨by decide, by decide⟩ hl.1 (by first | exact Nat.le_of_ble_eq_true rfl | simp [rf_cat, cat_i, cat_l, cat_r]) rfl dX8_comeBack_32 (fun H locs w1 => ?_)
  have hk5 := kd_keep w (mo_X5_size N a1 h e4) hk0 (by decide)
  have w := w1
  exact sb_X8_comeBack_35 C hz2 N t0 _ _ hJ hk5 w hl
def B_X8_comeBack_23 (N : Nat) (t0 : Nat) (h : Hp) (x1 : Int32) : Option (Hp × Int32) := B_X8_comeBack_28 N t0 (h.sfi 1105 t0 x1)
theorem mb_X8_comeBack_23 (N : Nat) (t0 : Nat) (h : Hp) (x1 : Int32) (hJ : B_X8_comeBack_23 N t0 h x1 = some (hz, rz)) : Mo h hz := by
  unfold B_X8_comeBack_23 at hJ
  exact (Mo.tr (show Mo h (h.sfi 1105 t0 x1) from ⟨fun _ _ => rfl, Nat.le_refl _, Nat.le_refl _, rfl, fun _ _ => rfl⟩) (mb_X8_comeBack_28 N t0 _ hJ))
set_option maxRecDepth 100000 in
set_option maxHeartbeats 4000000 in
theorem sb_X8_comeBack_23 (C : Cx p s m args meth c cX8_comeBack 2 (some .int) RX8 D cs A h0.se) (hz2 : hz.nx ≤ h0.nx + mc ∧ hz.su ≤ h0.su + ms) (N : Nat) (t0 : Nat) (h : Hp) (x1 : Int32) (hJ : B_X8_comeBack_23 N t0 h x1 = some (hz, rz)) (hk0 : h.kd t0 = 11) {H : Heap} {locs : List Loc} {cells slots : Nat} (w : Wo D cs A s h0 h H locs cells slots) {ls : Array Slot} (hl : lv_has ls 2 [(0, .ref t0), (1, .int x1)]) : W p l e { frames := 4, cells := mc, slots := ms, locals := 150 } s m args below meth c H locs cells slots (MQ below (Zi D cs A hz rz) args s mc ms A) (F0 m 23 ls []) := by
  obtain ⟨hx, hb, hml, hown, hts, -⟩ := id C
  unfold B_X8_comeBack_23 at hJ
  refine lv_aload_n hx hb dX8_comeBack_23 rfl (lv_at hl 0 rfl) ?_
  refine lv_iload_n hx hb dX8_comeBack_24 rfl (lv_at hl 1 rfl) ?_
  refine fp_1105 (x := x1) C w hk0 tw_1_203 dX8_comeBack_25 (fun H locs w => ?_)
  exact sb_X8_comeBack_28 C hz2 N t0 _ hJ hk0 w (lv_sub (l' := [(0, .ref t0)]) hl [0] rfl)
def B_X8_comeBack_5 (N : Nat) (t0 : Nat) (h : Hp) (x1 : Int32) (y0 : Int32) : Option (Hp × Int32) := if y0 = 0 then (B_X8_comeBack_28 N t0 h) else (dr h 20 (h.fr 1104 t0) (fun a7 => ck (¬ (x1 - (1 : Int32) < 0 ∨ h.al a7 ≤ (x1 - (1 : Int32)).toNatClampNeg)) (dr h 8 (h.fr 1103 t0) (fun a9 => (J_X5_dropAfter N a9 h (h.ai a7 (x1 - (1 : Int32)).toNatClampNeg)).bind (fun z => B_X8_comeBack_23 N t0 z.1 x1)))))
theorem mb_X8_comeBack_5 (N : Nat) (t0 : Nat) (h : Hp) (x1 : Int32) (y0 : Int32) (hJ : B_X8_comeBack_5 N t0 h x1 y0 = some (hz, rz)) : Mo h hz := by
  unfold B_X8_comeBack_5 at hJ
  by_cases c6 : y0 = 0
  · have hJ := it_pos c6 hJ
    exact mb_X8_comeBack_28 N t0 _ hJ
  · have hJ := it_neg c6 hJ
    obtain ⟨a7, ea7, -, hJ⟩ := dr_some hJ
    obtain ⟨-, hJ⟩ := ck_some hJ
    obtain ⟨a9, ea9, -, hJ⟩ := dr_some hJ
    obtain ⟨⟨h10, r11⟩, e12, hJ⟩ := ob_some hJ
    exact (mo_X5_dropAfter N a9 h (h.ai a7 (x1 - (1 : Int32)).toNatClampNeg) e12).tr (mb_X8_comeBack_23 N t0 _ _ hJ)
set_option maxRecDepth 100000 in
set_option maxHeartbeats 4000000 in
theorem sb_X8_comeBack_5 (C : Cx p s m args meth c cX8_comeBack 2 (some .int) RX8 D cs A h0.se) (hz2 : hz.nx ≤ h0.nx + mc ∧ hz.su ≤ h0.su + ms) (N : Nat) (t0 : Nat) (h : Hp) (x1 : Int32) (y0 : Int32) (hJ : B_X8_comeBack_5 N t0 h x1 y0 = some (hz, rz)) (hk0 : h.kd t0 = 11) {H : Heap} {locs : List Loc} {cells slots : Nat} (w : Wo D cs A s h0 h H locs cells slots) {ls : Array Slot} (hl : lv_has ls 2 [(0, .ref t0), (1, .int x1)]) : W p l e { frames := 4, cells := mc, slots := ms, locals := 150 } s m args below meth c H locs cells slots (MQ below (Zi D cs A hz rz) args s mc ms A) (F0 m 5 ls [.int y0]) := by
  obtain ⟨hx, hb, hml, hown, hts, -⟩ := id C
  unfold B_X8_comeBack_5 at hJ
  refine lv_if_eq (tgt := 28) hx hb dX8_comeBack_5 (by decide) (fun c6 => ?_) (fun c6 => ?_)
  · have hJ := it_pos c6 hJ
    exact sb_X8_comeBack_28 C hz2 N t0 _ hJ hk0 w (lv_sub (l' := [(0, .ref t0)]) hl [0] rfl)
  · have hJ := it_neg c6 hJ
    refine lv_aload_n hx hb dX8_comeBack_8 rfl (lv_at hl 0 rfl) ?_
    refine fg_1103 C w hk0 tw_1_200 dX8_comeBack_9 ?_
    refine lv_aload_n hx hb dX8_comeBack_12 rfl (lv_at hl 0 rfl) ?_
    refine fg_1104 C w hk0 tw_1_202 dX8_comeBack_13 ?_
    refine lv_iload_n hx hb dX8_comeBack_16 rfl (lv_at hl 1 rfl) ?_
    refine lv_iconst (v := (1 : Int32)) hx hb dX8_comeBack_17 (by decide) ?_
    refine lv_isub hx hb dX8_comeBack_18 ?_
    obtain ⟨a7, ea7, hka7, hJ⟩ := dr_some hJ
    rw [ea7]
    obtain ⟨hi8, hJ⟩ := ck_some hJ
    refine jr_iald C w hka7 hi8 dX8_comeBack_19 ?_
    obtain ⟨a9, ea9, hka9, hJ⟩ := dr_some hJ
    rw [ea9]
    obtain ⟨⟨h10, r11⟩, e12, hJ⟩ := ob_some hJ
    refine jc_Vv (As := [.int (h.ai a7 (x1 - (1 : Int32)).toNatClampNeg)]) C w (cc_X5_dropAfter N a9 h (h.ai a7 (x1 - (1 : Int32)).toNatClampNeg) hka9 e12) (mo_X5_dropAfter N a9 h (h.ai a7 (x1 - (1 : Int32)).toNatClampNeg) e12) (mb_X8_comeBack_23 N t0 _ _ hJ) hz2 hka9 (by decide) rfl (fs := fs8 h a9) rfl rfl ⟨tw_5_59, tw_5_56, tw_5_57, tw_5_58, tw_1_2⟩ cd_X5_dropAfter ⟨by decide, by decide⟩ hl.1 (by first | exact Nat.le_of_ble_eq_true rfl | simp [rf_cat, cat_i, cat_l, cat_r]) rfl dX8_comeBack_20 (fun H locs w1 => ?_)
    have hk13 := kd_keep w (mo_X5_dropAfter N a9 h (h.ai a7 (x1 - (1 : Int32)).toNatClampNeg) e12) hk0 (by decide)
    have w := w1
    exact sb_X8_comeBack_23 C hz2 N t0 _ _ hJ hk13 w hl
def B_X8_comeBack_0 (N : Nat) (t0 : Nat) (h : Hp) (x1 : Int32) : Option (Hp × Int32) := (J_X8_hasPlace N t0 h x1).bind (fun z => B_X8_comeBack_5 N t0 z.1 x1 z.2)
theorem mb_X8_comeBack_0 (N : Nat) (t0 : Nat) (h : Hp) (x1 : Int32) (hJ : B_X8_comeBack_0 N t0 h x1 = some (hz, rz)) : Mo h hz := by
  unfold B_X8_comeBack_0 at hJ
  obtain ⟨⟨h14, r15⟩, e16, hJ⟩ := ob_some hJ
  exact (mo_X8_hasPlace N t0 h x1 e16).tr (mb_X8_comeBack_5 N t0 _ _ _ hJ)
set_option maxRecDepth 100000 in
set_option maxHeartbeats 4000000 in
theorem sb_X8_comeBack_0 (C : Cx p s m args meth c cX8_comeBack 2 (some .int) RX8 D cs A h0.se) (hz2 : hz.nx ≤ h0.nx + mc ∧ hz.su ≤ h0.su + ms) (N : Nat) (t0 : Nat) (h : Hp) (x1 : Int32) (hJ : B_X8_comeBack_0 N t0 h x1 = some (hz, rz)) (hk0 : h.kd t0 = 11) {H : Heap} {locs : List Loc} {cells slots : Nat} (w : Wo D cs A s h0 h H locs cells slots) {ls : Array Slot} (hl : lv_has ls 2 [(0, .ref t0), (1, .int x1)]) : W p l e { frames := 4, cells := mc, slots := ms, locals := 150 } s m args below meth c H locs cells slots (MQ below (Zi D cs A hz rz) args s mc ms A) (F0 m 0 ls []) := by
  obtain ⟨hx, hb, hml, hown, hts, -⟩ := id C
  unfold B_X8_comeBack_0 at hJ
  refine lv_aload_n hx hb dX8_comeBack_0 rfl (lv_at hl 0 rfl) ?_
  refine lv_iload_n hx hb dX8_comeBack_1 rfl (lv_at hl 1 rfl) ?_
  obtain ⟨⟨h14, r15⟩, e16, hJ⟩ := ob_some hJ
  refine jc_Vi (As := [.int x1]) C w (cc_X8_hasPlace N t0 h x1 hk0 e16) (mo_X8_hasPlace N t0 h x1 e16) (mb_X8_comeBack_5 N t0 _ _ _ hJ) hz2 hk0 (by decide) rfl (fs := fs11 h t0) rfl rfl ⟨tw_5_55, tw_5_52, tw_5_53, tw_5_54, tw_1_8⟩ cd_X8_hasPlace ⟨by decide, by decide⟩ hl.1 (by first | exact Nat.le_of_ble_eq_true rfl | simp [rf_cat, cat_i, cat_l, cat_r]) rfl dX8_comeBack_2 (fun H locs w1 => ?_)
  have hk17 := kd_keep w (mo_X8_hasPlace N t0 h x1 e16) hk0 (by decide)
  have w := w1
  exact sb_X8_comeBack_5 C hz2 N t0 _ _ _ hJ hk17 w hl
def J_X8_comeBack (N : Nat) (t0 : Nat) (h : Hp) (x1 : Int32) : Option (Hp × Int32) := B_X8_comeBack_0 N t0 h x1
theorem mo_X8_comeBack (N : Nat) (t0 : Nat) (h : Hp) (x1 : Int32) (hJ : J_X8_comeBack N t0 h x1 = some (hz, rz)) : Mo h hz := mb_X8_comeBack_0 N t0 h x1 hJ
theorem cd_X8_comeBack : Cd yX8_comeBack 1 := ⟨by decide +kernel, by decide +kernel, by decide +kernel⟩
theorem cc_X8_comeBack (N : Nat) (t0 : Nat) (h : Hp) (x1 : Int32) (hk0 : h.kd t0 = 11) (hJ : J_X8_comeBack N t0 h x1 = some (hz, rz)) : Ci l yX8_comeBack cX8_comeBack 2 (some .int) 4 150 D cs h hz [.ref t0, .int x1] rz := by
  intro mc ms g1 g2
  refine je_any (by decide) (by simp [lg_sl, rf_cat, cat_i, cat_l, cat_r]) ?_
  intro p e s m args below meth c C hin2 w ls hl
  have hl : lv_has ls 2 [(0, .ref t0), (1, .int x1)] := hl
  exact sb_X8_comeBack_0 C ⟨g1, g2⟩ N t0 h x1 hJ hk0 w hl
end G_X8_comeBack
section G_X8_install
variable {p : Program} {l : Launch} {e : Env} {s : State} {m : MethodId} {args : Array Value} {below : List Frame} {meth : Method} {c : Code} {D : va_G} {cs : C4} {A : Nat → Prop} {h0 hz : Hp} {mc ms : Nat}
def B_X8_install_63 (N : Nat) (k2 : Hp → Int32 → Int32 → Option (Hp × Unit)) (t0 : Nat) (h : Hp) (x1 : Int32) (x2 : Int32) : Option (Hp × Unit) := k2 h x1 (x2 + (1 : Int32))
theorem mb_X8_install_63 (N : Nat) (k2 : Hp → Int32 → Int32 → Option (Hp × Unit)) (t0 : Nat) (h : Hp) (x1 : Int32) (x2 : Int32) (m2 : ∀ (h : Hp) (x1 : Int32) (x2 : Int32), k2 h x1 x2 = some (hz, ()) → Mo h hz) (hJ : B_X8_install_63 N k2 t0 h x1 x2 = some (hz, ())) : Mo h hz := by
  unfold B_X8_install_63 at hJ
  exact m2 _ _ _ hJ
set_option maxRecDepth 100000 in
set_option maxHeartbeats 4000000 in
theorem sb_X8_install_63 (C : Cx p s m args meth c cX8_install 4 none RX8 D cs A h0.se) (hz2 : hz.nx ≤ h0.nx + mc ∧ hz.su ≤ h0.su + ms) (N : Nat) (k2 : Hp → Int32 → Int32 → Option (Hp × Unit)) (t0 : Nat) (m2 : ∀ (h : Hp) (x1 : Int32) (x2 : Int32), k2 h x1 x2 = some (hz, ()) → Mo h hz) (i2 : ∀ (h : Hp) (x1 : Int32) (x2 : Int32) (H : Heap) (locs : List Loc) (cells slots : Nat) (ls : Array Slot), k2 h x1 x2 = some (hz, ()) → h.kd t0 = 11 → Wo D cs A s h0 h H locs cells slots → lv_has ls 4 [(0, .ref t0), (1, .int x1), (2, .int x2)] → W p l e { frames := 7, cells := mc, slots := ms, locals := 230 } s m args below meth c H locs cells slots (MQ below (Zv D cs A hz) args s mc ms A) (F0 m 2 ls [])) (h : Hp) (x1 : Int32) (x2 : Int32) (hJ : B_X8_install_63 N k2 t0 h x1 x2 = some (hz, ())) (hk0 : h.kd t0 = 11) {H : Heap} {locs : List Loc} {cells slots : Nat} (w : Wo D cs A s h0 h H locs cells slots) {ls : Array Slot} (hl : lv_has ls 4 [(0, .ref t0), (1, .int x1), (2, .int x2)]) : W p l e { frames := 7, cells := mc, slots := ms, locals := 230 } s m args below meth c H locs cells slots (MQ below (Zv D cs A hz) args s mc ms A) (F0 m 63 ls []) := by
  obtain ⟨hx, hb, hml, hown, hts, -⟩ := id C
  unfold B_X8_install_63 at hJ
  refine lv_iinc (v := x2 + (1 : Int32)) (lv' := [(2, .int (x2 + (1 : Int32))), (0, .ref t0), (1, .int x1)]) hx hb dX8_install_63 hl (k := 2) rfl rfl (by decide) rfl (fun ls hl => ?_)
  refine lv_goto (tgt := 2) hx hb dX8_install_66 (by decide) ?_
  exact i2 _ _ _ _ _ _ _ _ hJ hk0 w (lv_sub (l' := [(0, .ref t0), (1, .int x1), (2, .int (x2 + (1 : Int32)))]) hl [1, 2, 0] rfl)
def B_X8_install_21 (N : Nat) (k2 : Hp → Int32 → Int32 → Option (Hp × Unit)) (t0 : Nat) (h : Hp) (x1 : Int32) (x2 : Int32) (y0 : Option Nat) : Option (Hp × Unit) := nl y0 (B_X8_install_63 N k2 t0 h x1 x2) (fun a1 => ck (h.kd a1 = 6) (nl (h.fr 601 a1) (B_X8_install_63 N k2 t0 h x1 x2) (fun a3 => dr h 7 (h.fr 601 a1) (fun a4 => dr h 7 (h.fr 601 a1) (fun a5 => dr h 8 (h.fr 1100 t0) (fun a6 => (J_X5_put N a6 h (h.fi 600 a1) x1 (h.fi 1102 t0) (h.fi 702 a4) (h.fl 703 a5)).bind (fun z => B_X8_install_63 N k2 t0 z.1 x1 x2)))))))
theorem mb_X8_install_21 (N : Nat) (k2 : Hp → Int32 → Int32 → Option (Hp × Unit)) (t0 : Nat) (h : Hp) (x1 : Int32) (x2 : Int32) (y0 : Option Nat) (m2 : ∀ (h : Hp) (x1 : Int32) (x2 : Int32), k2 h x1 x2 = some (hz, ()) → Mo h hz) (hJ : B_X8_install_21 N k2 t0 h x1 x2 y0 = some (hz, ())) : Mo h hz := by
  unfold B_X8_install_21 at hJ
  cases ea1 : y0 with
  | none =>
    have hJ := nl_none ea1 hJ
    exact mb_X8_install_63 N k2 t0 _ _ _ m2 hJ
  | some a1 =>
    have hJ := nl_some ea1 hJ
    obtain ⟨-, hJ⟩ := ck_some hJ
    cases ea3 : (h.fr 601 a1) with
    | none =>
      have hJ := nl_none ea3 hJ
      exact mb_X8_install_63 N k2 t0 _ _ _ m2 hJ
    | some a3 =>
      have hJ := nl_some ea3 hJ
      obtain ⟨a4, ea4, -, hJ⟩ := dr_some hJ
      obtain ⟨a5, ea5, -, hJ⟩ := dr_some hJ
      obtain ⟨a6, ea6, -, hJ⟩ := dr_some hJ
      obtain ⟨⟨h7, r8⟩, e9, hJ⟩ := ob_some hJ
      exact (mo_X5_put N a6 h (h.fi 600 a1) x1 (h.fi 1102 t0) (h.fi 702 a4) (h.fl 703 a5) e9).tr (mb_X8_install_63 N k2 t0 _ _ _ m2 hJ)
set_option maxRecDepth 100000 in
set_option maxHeartbeats 4000000 in
theorem sb_X8_install_21 (C : Cx p s m args meth c cX8_install 4 none RX8 D cs A h0.se) (hz2 : hz.nx ≤ h0.nx + mc ∧ hz.su ≤ h0.su + ms) (N : Nat) (k2 : Hp → Int32 → Int32 → Option (Hp × Unit)) (t0 : Nat) (m2 : ∀ (h : Hp) (x1 : Int32) (x2 : Int32), k2 h x1 x2 = some (hz, ()) → Mo h hz) (i2 : ∀ (h : Hp) (x1 : Int32) (x2 : Int32) (H : Heap) (locs : List Loc) (cells slots : Nat) (ls : Array Slot), k2 h x1 x2 = some (hz, ()) → h.kd t0 = 11 → Wo D cs A s h0 h H locs cells slots → lv_has ls 4 [(0, .ref t0), (1, .int x1), (2, .int x2)] → W p l e { frames := 7, cells := mc, slots := ms, locals := 230 } s m args below meth c H locs cells slots (MQ below (Zv D cs A hz) args s mc ms A) (F0 m 2 ls [])) (h : Hp) (x1 : Int32) (x2 : Int32) (y0 : Option Nat) (hJ : B_X8_install_21 N k2 t0 h x1 x2 y0 = some (hz, ())) (hk0 : h.kd t0 = 11) {H : Heap} {locs : List Loc} {cells slots : Nat} (w : Wo D cs A s h0 h H locs cells slots) {ls : Array Slot} (hl : lv_has ls 4 [(0, .ref t0), (1, .int x1), (2, .int x2)]) : W p l e { frames := 7, cells := mc, slots := ms, locals := 230 } s m args below meth c H locs cells slots (MQ below (Zv D cs A hz) args s mc ms A) (F0 m 21 ls [va_rf y0]) := by
  obtain ⟨hx, hb, hml, hown, hts, -⟩ := id C
  unfold B_X8_install_21 at hJ
  refine jv_astore_n (i := 3) (lv' := [(3, va_rf y0), (0, .ref t0), (1, .int x1), (2, .int x2)]) hx hb dX8_install_21 rfl hl (by decide) rfl (fun ls hl => ?_)
  refine jv_aload_n hx hb dX8_install_22 rfl (lv_at hl 0 rfl) ?_
  refine jv_ifnull (tgt := 63) hx hb dX8_install_23 (by decide) (fun ea1 => ?_) (fun a1 ea1 => ?_)
  · have hJ := nl_none ea1 hJ
    exact sb_X8_install_63 C hz2 N k2 t0 m2 i2 _ _ _ hJ hk0 w (lv_sub (l' := [(0, .ref t0), (1, .int x1), (2, .int x2)]) hl [1, 2, 3] rfl)
  · have hJ := nl_some ea1 hJ
    rw [ea1] at hl
    refine lv_aload_n hx hb dX8_install_26 rfl (lv_at hl 0 rfl) ?_
    obtain ⟨hk2, hJ⟩ := ck_some hJ
    refine fg_601 C w hk2 tw_3_154 dX8_install_27 ?_
    refine jv_ifnull (tgt := 63) hx hb dX8_install_30 (by decide) (fun ea3 => ?_) (fun a3 ea3 => ?_)
    · have hJ := nl_none ea3 hJ
      exact sb_X8_install_63 C hz2 N k2 t0 m2 i2 _ _ _ hJ hk0 w (lv_sub (l' := [(0, .ref t0), (1, .int x1), (2, .int x2)]) hl [1, 2, 3] rfl)
    · have hJ := nl_some ea3 hJ
      refine lv_aload_n hx hb dX8_install_33 rfl (lv_at hl 1 rfl) ?_
      refine fg_1100 C w hk0 tw_1_195 dX8_install_34 ?_
      refine lv_aload_n hx hb dX8_install_37 rfl (lv_at hl 0 rfl) ?_
      refine fg_600 C w hk2 tw_3_150 dX8_install_38 ?_
      refine lv_iload_n hx hb dX8_install_41 rfl (lv_at hl 2 rfl) ?_
      refine lv_aload_n hx hb dX8_install_42 rfl (lv_at hl 1 rfl) ?_
      refine fg_1102 C w hk0 tw_1_198 dX8_install_43 ?_
      refine lv_aload_n hx hb dX8_install_46 rfl (lv_at hl 0 rfl) ?_
      refine fg_601 C w hk2 tw_3_154 dX8_install_47 ?_
      obtain ⟨a4, ea4, hka4, hJ⟩ := dr_some hJ
      rw [ea4]
      refine fg_702 C w hka4 tw_5_22 dX8_install_50 ?_
      refine lv_aload_n hx hb dX8_install_53 rfl (lv_at hl 0 rfl) ?_
      refine fg_601 C w hk2 tw_3_154 dX8_install_54 ?_
      obtain ⟨a5, ea5, hka5, hJ⟩ := dr_some hJ
      rw [ea5]
      refine fg_703 C w hka5 tw_5_26 dX8_install_57 ?_
      obtain ⟨a6, ea6, hka6, hJ⟩ := dr_some hJ
      rw [ea6]
      obtain ⟨⟨h7, r8⟩, e9, hJ⟩ := ob_some hJ
      refine jc_Vv (As := [.int (h.fi 600 a1), .int x1, .int (h.fi 1102 t0), .int (h.fi 702 a4), .long (h.fl 703 a5)]) C w (cc_X5_put N a6 h (h.fi 600 a1) x1 (h.fi 1102 t0) (h.fi 702 a4) (h.fl 703 a5) hka6 e9) (mo_X5_put N a6 h (h.fi 600 a1) x1 (h.fi 1102 t0) (h.fi 702 a4) (h.fl 703 a5) e9) (mb_X8_install_63 N k2 t0 _ _ _ m2 hJ) hz2 hka6 (by decide) rfl (fs := fs8 h a6) rfl rfl ⟨tw_3_140, tw_3_137, tw_3_138, tw_3_139, tw_1_2⟩ cd_X5_put ⟨by decide, by decide⟩ hl.1 (by first | exact Nat.le_of_ble_eq_true rfl | simp [rf_cat, cat_i, cat_l, cat_r]) rfl dX8_install_60 (fun H locs w1 => ?_)
      have hk10 := kd_keep w (mo_X5_put N a6 h (h.fi 600 a1) x1 (h.fi 1102 t0) (h.fi 702 a4) (h.fl 703 a5) e9) hk0 (by decide)
      have w := w1
      exact sb_X8_install_63 C hz2 N k2 t0 m2 i2 _ _ _ hJ hk10 w (lv_sub (l' := [(0, .ref t0), (1, .int x1), (2, .int x2)]) hl [1, 2, 3] rfl)
def B_X8_install_10 (N : Nat) (k2 : Hp → Int32 → Int32 → Option (Hp × Unit)) (t0 : Nat) (h : Hp) (x1 : Int32) (x2 : Int32) (y0 : Int32) (y1 : Int32) : Option (Hp × Unit) := if y1 ≤ y0 then (some (h, ())) else (dr h 8 (h.fr 1103 t0) (fun a12 => (J_X5_chainAt N a12 h x2).bind (fun z => B_X8_install_21 N k2 t0 z.1 x1 x2 z.2)))
theorem mb_X8_install_10 (N : Nat) (k2 : Hp → Int32 → Int32 → Option (Hp × Unit)) (t0 : Nat) (h : Hp) (x1 : Int32) (x2 : Int32) (y0 : Int32) (y1 : Int32) (m2 : ∀ (h : Hp) (x1 : Int32) (x2 : Int32), k2 h x1 x2 = some (hz, ()) → Mo h hz) (hJ : B_X8_install_10 N k2 t0 h x1 x2 y0 y1 = some (hz, ())) : Mo h hz := by
  unfold B_X8_install_10 at hJ
  by_cases c11 : y1 ≤ y0
  · have hJ := it_pos c11 hJ
    obtain ⟨rfl, -⟩ := rs2 hJ
    exact ⟨fun _ _ => rfl, Nat.le_refl _, Nat.le_refl _, rfl, fun _ _ => rfl⟩
  · have hJ := it_neg c11 hJ
    obtain ⟨a12, ea12, -, hJ⟩ := dr_some hJ
    obtain ⟨⟨h13, r14⟩, e15, hJ⟩ := ob_some hJ
    exact (mo_X5_chainAt N a12 h x2 e15).tr (mb_X8_install_21 N k2 t0 _ _ _ _ m2 hJ)
set_option maxRecDepth 100000 in
set_option maxHeartbeats 4000000 in
theorem sb_X8_install_10 (C : Cx p s m args meth c cX8_install 4 none RX8 D cs A h0.se) (hz2 : hz.nx ≤ h0.nx + mc ∧ hz.su ≤ h0.su + ms) (N : Nat) (k2 : Hp → Int32 → Int32 → Option (Hp × Unit)) (t0 : Nat) (m2 : ∀ (h : Hp) (x1 : Int32) (x2 : Int32), k2 h x1 x2 = some (hz, ()) → Mo h hz) (i2 : ∀ (h : Hp) (x1 : Int32) (x2 : Int32) (H : Heap) (locs : List Loc) (cells slots : Nat) (ls : Array Slot), k2 h x1 x2 = some (hz, ()) → h.kd t0 = 11 → Wo D cs A s h0 h H locs cells slots → lv_has ls 4 [(0, .ref t0), (1, .int x1), (2, .int x2)] → W p l e { frames := 7, cells := mc, slots := ms, locals := 230 } s m args below meth c H locs cells slots (MQ below (Zv D cs A hz) args s mc ms A) (F0 m 2 ls [])) (h : Hp) (x1 : Int32) (x2 : Int32) (y0 : Int32) (y1 : Int32) (hJ : B_X8_install_10 N k2 t0 h x1 x2 y0 y1 = some (hz, ())) (hk0 : h.kd t0 = 11) {H : Heap} {locs : List Loc} {cells slots : Nat} (w : Wo D cs A s h0 h H locs cells slots) {ls : Array Slot} (hl : lv_has ls 4 [(0, .ref t0), (1, .int x1), (2, .int x2)]) : W p l e { frames := 7, cells := mc, slots := ms, locals := 230 } s m args below meth c H locs cells slots (MQ below (Zv D cs A hz) args s mc ms A) (F0 m 10 ls [.int y1, .int y0]) := by
  obtain ⟨hx, hb, hml, hown, hts, -⟩ := id C
  unfold B_X8_install_10 at hJ
  refine lv_icmp_ge (tgt := 69) hx hb dX8_install_10 (by decide) (fun c11 => ?_) (fun c11 => ?_)
  · have hJ := it_pos c11 hJ
    obtain ⟨rfl, -⟩ := rs2 hJ
    exact jr_vret C w hz2 dX8_install_69
  · have hJ := it_neg c11 hJ
    refine lv_aload_n hx hb dX8_install_13 rfl (lv_at hl 0 rfl) ?_
    refine fg_1103 C w hk0 tw_1_200 dX8_install_14 ?_
    refine lv_iload_n hx hb dX8_install_17 rfl (lv_at hl 2 rfl) ?_
    obtain ⟨a12, ea12, hka12, hJ⟩ := dr_some hJ
    rw [ea12]
    obtain ⟨⟨h13, r14⟩, e15, hJ⟩ := ob_some hJ
    refine jc_Vq (As := [.int x2]) C w (cc_X5_chainAt N a12 h x2 hka12 e15) (mo_X5_chainAt N a12 h x2 e15) (mb_X8_install_21 N k2 t0 _ _ _ _ m2 hJ) hz2 hka12 (by decide) rfl (fs := fs8 h a12) rfl rfl ⟨tw_2_212, tw_5_85, tw_2_210, tw_2_211, tw_1_2⟩ cd_X5_chainAt ⟨by decide, by decide⟩ hl.1 (by first | exact Nat.le_of_ble_eq_true rfl | simp [rf_cat, cat_i, cat_l, cat_r]) rfl dX8_install_18 (fun H locs w1 => ?_)
    have hk16 := kd_keep w (mo_X5_chainAt N a12 h x2 e15) hk0 (by decide)
    have w := w1
    exact sb_X8_install_21 C hz2 N k2 t0 m2 i2 _ _ _ _ hJ hk16 w hl
def B_X8_install_2 (N : Nat) (k2 : Hp → Int32 → Int32 → Option (Hp × Unit)) (t0 : Nat) (h : Hp) (x1 : Int32) (x2 : Int32) : Option (Hp × Unit) := dr h 8 (h.fr 1103 t0) (fun a17 => (J_X5_size N a17 h).bind (fun z => B_X8_install_10 N k2 t0 z.1 x1 x2 x2 z.2))
theorem mb_X8_install_2 (N : Nat) (k2 : Hp → Int32 → Int32 → Option (Hp × Unit)) (t0 : Nat) (h : Hp) (x1 : Int32) (x2 : Int32) (m2 : ∀ (h : Hp) (x1 : Int32) (x2 : Int32), k2 h x1 x2 = some (hz, ()) → Mo h hz) (hJ : B_X8_install_2 N k2 t0 h x1 x2 = some (hz, ())) : Mo h hz := by
  unfold B_X8_install_2 at hJ
  obtain ⟨a17, ea17, -, hJ⟩ := dr_some hJ
  obtain ⟨⟨h18, r19⟩, e20, hJ⟩ := ob_some hJ
  exact (mo_X5_size N a17 h e20).tr (mb_X8_install_10 N k2 t0 _ _ _ _ _ m2 hJ)
set_option maxRecDepth 100000 in
set_option maxHeartbeats 4000000 in
theorem sb_X8_install_2 (C : Cx p s m args meth c cX8_install 4 none RX8 D cs A h0.se) (hz2 : hz.nx ≤ h0.nx + mc ∧ hz.su ≤ h0.su + ms) (N : Nat) (k2 : Hp → Int32 → Int32 → Option (Hp × Unit)) (t0 : Nat) (m2 : ∀ (h : Hp) (x1 : Int32) (x2 : Int32), k2 h x1 x2 = some (hz, ()) → Mo h hz) (i2 : ∀ (h : Hp) (x1 : Int32) (x2 : Int32) (H : Heap) (locs : List Loc) (cells slots : Nat) (ls : Array Slot), k2 h x1 x2 = some (hz, ()) → h.kd t0 = 11 → Wo D cs A s h0 h H locs cells slots → lv_has ls 4 [(0, .ref t0), (1, .int x1), (2, .int x2)] → W p l e { frames := 7, cells := mc, slots := ms, locals := 230 } s m args below meth c H locs cells slots (MQ below (Zv D cs A hz) args s mc ms A) (F0 m 2 ls [])) (h : Hp) (x1 : Int32) (x2 : Int32) (hJ : B_X8_install_2 N k2 t0 h x1 x2 = some (hz, ())) (hk0 : h.kd t0 = 11) {H : Heap} {locs : List Loc} {cells slots : Nat} (w : Wo D cs A s h0 h H locs cells slots) {ls : Array Slot} (hl : lv_has ls 4 [(0, .ref t0), (1, .int x1), (2, .int x2)]) : W p l e { frames := 7, cells := mc, slots := ms, locals := 230 } s m args below meth c H locs cells slots (MQ below (Zv D cs A hz) args s mc ms A) (F0 m 2 ls []) := by
  obtain ⟨hx, hb, hml, hown, hts, -⟩ := id C
  unfold B_X8_install_2 at hJ
  refine lv_iload_n hx hb dX8_install_2 rfl (lv_at hl 2 rfl) ?_
  refine lv_aload_n hx hb dX8_install_3 rfl (lv_at hl 0 rfl) ?_
  refine fg_1103 C w hk0 tw_1_200 dX8_install_4 ?_
  obtain ⟨a17, ea17, hka17, hJ⟩ := dr_some hJ
  rw [ea17]
  obtain ⟨⟨h18, r19⟩, e20, hJ⟩ := ob_some hJ
  refine jc_Vi (As := []) C w (cc_X5_size N a17 h hka17 e20) (mo_X5_size N a17 h e20) (mb_X8_install_10 N k2 t0 _ _ _ _ _ m2 hJ) hz2 hka17 (by decide) rfl (fs := fs8 h a17) rfl rfl ⟨tw_2_181, tw_3_119, tw_2_179, tw_2_180, tw_1_2⟩ cd_X5_size ⟨by decide, by decide⟩ hl.1 (by first | exact Nat.le_of_ble_eq_true rfl | simp [rf_cat, cat_i, cat_l, cat_r]) rfl dX8_install_7 (fun H locs w1 => ?_)
  have hk21 := kd_keep w (mo_X5_size N a17 h e20) hk0 (by decide)
  have w := w1
  exact sb_X8_install_10 C hz2 N k2 t0 m2 i2 _ _ _ _ _ hJ hk21 w hl
def L_X8_install_2 (N : Nat) (t0 : Nat) : Nat → Hp → Int32 → Int32 → Option (Hp × Unit)
  | 0 => fun _ _ _ => none
  | n + 1 => fun h x1 x2 => B_X8_install_2 N (L_X8_install_2 N t0 n) t0 h x1 x2
theorem ml_X8_install_2 (N : Nat) (t0 : Nat) : ∀ (n : Nat) (h : Hp) (x1 : Int32) (x2 : Int32), L_X8_install_2 N t0 n h x1 x2 = some (hz, ()) → Mo h hz := by
  intro n
  induction n with
  | zero => intro h x1 x2 hJ; cases hJ
  | succ n ih => intro h x1 x2 hJ; exact mb_X8_install_2 N (L_X8_install_2 N t0 n) t0 h x1 x2 ih hJ
theorem sl_X8_install_2 (C : Cx p s m args meth c cX8_install 4 none RX8 D cs A h0.se) (hz2 : hz.nx ≤ h0.nx + mc ∧ hz.su ≤ h0.su + ms) (N : Nat) (t0 : Nat) : ∀ n : Nat, ∀ (h : Hp) (x1 : Int32) (x2 : Int32) (H : Heap) (locs : List Loc) (cells slots : Nat) (ls : Array Slot), L_X8_install_2 N t0 n h x1 x2 = some (hz, ()) → h.kd t0 = 11 → Wo D cs A s h0 h H locs cells slots → lv_has ls 4 [(0, .ref t0), (1, .int x1), (2, .int x2)] → W p l e { frames := 7, cells := mc, slots := ms, locals := 230 } s m args below meth c H locs cells slots (MQ below (Zv D cs A hz) args s mc ms A) (F0 m 2 ls []) := by
  intro n
  induction n with
  | zero => intro h x1 x2 H locs cells slots ls hJ; cases hJ
  | succ n ih =>
    intro h x1 x2 H locs cells slots ls hJ hk0 w hl
    exact sb_X8_install_2 C hz2 N (L_X8_install_2 N t0 n) t0 (ml_X8_install_2 N t0 n) ih h x1 x2 hJ hk0 w hl
def B_X8_install_0 (N : Nat) (t0 : Nat) (h : Hp) (x1 : Int32) : Option (Hp × Unit) := L_X8_install_2 N t0 N h x1 (0 : Int32)
theorem mb_X8_install_0 (N : Nat) (t0 : Nat) (h : Hp) (x1 : Int32) (hJ : B_X8_install_0 N t0 h x1 = some (hz, ())) : Mo h hz := by
  unfold B_X8_install_0 at hJ
  exact ml_X8_install_2 N t0 N _ _ _ hJ
set_option maxRecDepth 100000 in
set_option maxHeartbeats 4000000 in
theorem sb_X8_install_0 (C : Cx p s m args meth c cX8_install 4 none RX8 D cs A h0.se) (hz2 : hz.nx ≤ h0.nx + mc ∧ hz.su ≤ h0.su + ms) (N : Nat) (t0 : Nat) (h : Hp) (x1 : Int32) (hJ : B_X8_install_0 N t0 h x1 = some (hz, ())) (hk0 : h.kd t0 = 11) {H : Heap} {locs : List Loc} {cells slots : Nat} (w : Wo D cs A s h0 h H locs cells slots) {ls : Array Slot} (hl : lv_has ls 4 [(0, .ref t0), (1, .int x1)]) : W p l e { frames := 7, cells := mc, slots := ms, locals := 230 } s m args below meth c H locs cells slots (MQ below (Zv D cs A hz) args s mc ms A) (F0 m 0 ls []) := by
  obtain ⟨hx, hb, hml, hown, hts, -⟩ := id C
  unfold B_X8_install_0 at hJ
  refine lv_iconst (v := (0 : Int32)) hx hb dX8_install_0 (by decide) ?_
  refine lv_istore_n (i := 2) (lv' := [(2, .int (0 : Int32)), (0, .ref t0), (1, .int x1)]) hx hb dX8_install_1 rfl hl (by decide) rfl (fun ls hl => ?_)
  exact sl_X8_install_2 C hz2 N t0 N _ _ _ _ _ _ _ _ hJ hk0 w (lv_sub (l' := [(0, .ref t0), (1, .int x1), (2, .int (0 : Int32))]) hl [1, 2, 0] rfl)
def J_X8_install (N : Nat) (t0 : Nat) (h : Hp) (x1 : Int32) : Option (Hp × Unit) := B_X8_install_0 N t0 h x1
theorem mo_X8_install (N : Nat) (t0 : Nat) (h : Hp) (x1 : Int32) (hJ : J_X8_install N t0 h x1 = some (hz, ())) : Mo h hz := mb_X8_install_0 N t0 h x1 hJ
theorem cd_X8_install : Cd yX8_install 1 := ⟨by decide +kernel, by decide +kernel, by decide +kernel⟩
theorem cc_X8_install (N : Nat) (t0 : Nat) (h : Hp) (x1 : Int32) (hk0 : h.kd t0 = 11) (hJ : J_X8_install N t0 h x1 = some (hz, ())) : Cv l yX8_install cX8_install 4 none 7 230 D cs h hz [.ref t0, .int x1] := by
  intro mc ms g1 g2
  refine je_any (by decide) (by simp [lg_sl, rf_cat, cat_i, cat_l, cat_r]) ?_
  intro p e s m args below meth c C hin2 w ls hl
  have hl : lv_has ls 4 [(0, .ref t0), (1, .int x1)] := hl
  exact sb_X8_install_0 C ⟨g1, g2⟩ N t0 h x1 hJ hk0 w hl
end G_X8_install
