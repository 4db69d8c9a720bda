section G_X5_init
variable {p : Program} {l : Launch} {e : Env} {s : State} {m : MethodId} {args : Array Value} {below : List Frame} {meth : Method} {c : Code} {D : va_G} {cs : C4} {A : Nat → Prop} {h0 hz : Hp} {mc ms : Nat}
def B_X5_init_12 (N : Nat) (t0 : Nat) (h : Hp) (y0 : Option Nat) (y1 : Option Nat) : Option (Hp × Unit) := dr h 8 y0 (fun a1 => some (h.sfr 800 a1 y1, ()))
theorem mb_X5_init_12 (N : Nat) (t0 : Nat) (h : Hp) (y0 : Option Nat) (y1 : Option Nat) (hJ : B_X5_init_12 N t0 h y0 y1 = some (hz, ())) : Mo h hz := by
  unfold B_X5_init_12 at hJ
  obtain ⟨a1, ea1, -, hJ⟩ := dr_some hJ
  obtain ⟨rfl, -⟩ := rs2 hJ
  exact ⟨fun _ _ => rfl, Nat.le_refl _, Nat.le_refl _, rfl, fun _ _ => rfl⟩
set_option maxRecDepth 100000 in
set_option maxHeartbeats 4000000 in
theorem sb_X5_init_12 (C : Cx p s m args meth c cX5_init 1 none RX5 D cs A h0.se) (hin2 : meth.name = "<init>") (hz2 : hz.nx ≤ h0.nx + mc ∧ hz.su ≤ h0.su + ms) (N : Nat) (t0 : Nat) (h : Hp) (y0 : Option Nat) (y1 : Option Nat) (hJ : B_X5_init_12 N t0 h y0 y1 = some (hz, ())) (hk0 : h.kd t0 = 8) {H : Heap} {locs : List Loc} {cells slots : Nat} (w : Wo D cs A s h0 h H locs cells slots) {ls : Array Slot} (hl : lv_has ls 1 [(0, .ref t0)]) : W p l e { frames := 4, cells := mc, slots := ms, locals := 100 } s m args below meth c H locs cells slots (MQ below (Zv D cs A hz) args s mc ms A) (F0 m 12 ls [va_rf y1, va_rf y0]) := by
  obtain ⟨hx, hb, hml, hown, hts, -⟩ := id C
  unfold B_X5_init_12 at hJ
  obtain ⟨a1, ea1, hka1, hJ⟩ := dr_some hJ
  rw [ea1]
  refine fp_800 (x := y1) C hin2 w hka1 tw_1_75 dX5_init_12 (fun H locs w => ?_)
  obtain ⟨rfl, -⟩ := rs2 hJ
  exact jr_vret C w hz2 dX5_init_15
def B_X5_init_8 (N : Nat) (t0 : Nat) (h : Hp) (y0 : Option Nat) (y1 : Option Nat) : Option (Hp × Unit) := dr h 2 y1 (fun a2 => (J_Jx4a65c_init_da8c8 N a2 h).bind (fun z => B_X5_init_12 N t0 z.1 y0 (some a2)))
theorem mb_X5_init_8 (N : Nat) (t0 : Nat) (h : Hp) (y0 : Option Nat) (y1 : Option Nat) (hJ : B_X5_init_8 N t0 h y0 y1 = some (hz, ())) : Mo h hz := by
  unfold B_X5_init_8 at hJ
  obtain ⟨a2, ea2, -, hJ⟩ := dr_some hJ
  obtain ⟨⟨h3, r4⟩, e5, hJ⟩ := ob_some hJ
  exact (mo_Jx4a65c_init_da8c8 N a2 h e5).tr (mb_X5_init_12 N t0 _ _ _ hJ)
set_option maxRecDepth 100000 in
set_option maxHeartbeats 4000000 in
theorem sb_X5_init_8 (C : Cx p s m args meth c cX5_init 1 none RX5 D cs A h0.se) (hin2 : meth.name = "<init>") (hz2 : hz.nx ≤ h0.nx + mc ∧ hz.su ≤ h0.su + ms) (N : Nat) (t0 : Nat) (h : Hp) (y0 : Option Nat) (y1 : Option Nat) (hJ : B_X5_init_8 N t0 h y0 y1 = some (hz, ())) (hk0 : h.kd t0 = 8) {H : Heap} {locs : List Loc} {cells slots : Nat} (w : Wo D cs A s h0 h H locs cells slots) {ls : Array Slot} (hl : lv_has ls 1 [(0, .ref t0)]) : W p l e { frames := 4, cells := mc, slots := ms, locals := 100 } s m args below meth c H locs cells slots (MQ below (Zv D cs A hz) args s mc ms A) (F0 m 8 ls [va_rf y1, va_rf y0]) := by
  obtain ⟨hx, hb, hml, hown, hts, -⟩ := id C
  unfold B_X5_init_8 at hJ
  refine lv_dup hx hb dX5_init_8 (rf_cat _) ?_
  obtain ⟨a2, ea2, hka2, hJ⟩ := dr_some hJ
  rw [ea2]
  obtain ⟨⟨h3, r4⟩, e5, hJ⟩ := ob_some hJ
  refine jc_I (As := []) C w (cc_Jx4a65c_init_da8c8 N a2 h hka2 e5) (mo_Jx4a65c_init_da8c8 N a2 h e5) (mb_X5_init_12 N t0 _ _ _ hJ) hz2 tw_1_53 tw_1_51 tw_1_52 tw_1_5 rfl cd_Jx4a65c_init_da8c8 ⟨by decide, by decide⟩ hl.1 (by first | exact Nat.le_of_ble_eq_true rfl | simp [rf_cat, cat_i, cat_l, cat_r]) rfl dX5_init_9 (fun H locs w1 => ?_)
  have hk6 := kd_keep w (mo_Jx4a65c_init_da8c8 N a2 h e5) hk0 (by decide)
  have w := w1
  exact sb_X5_init_12 C hin2 hz2 N t0 _ _ _ hJ hk6 w hl
def B_X5_init_0 (N : Nat) (t0 : Nat) (h : Hp) : Option (Hp × Unit) := B_X5_init_8 N t0 (h.new 2 0 3) (some t0) (some h.nx)
theorem mb_X5_init_0 (N : Nat) (t0 : Nat) (h : Hp) (hJ : B_X5_init_0 N t0 h = some (hz, ())) : Mo h hz := by
  unfold B_X5_init_0 at hJ
  exact (Mo.new h _ _ _).tr (mb_X5_init_8 N t0 _ _ _ hJ)
set_option maxRecDepth 100000 in
set_option maxHeartbeats 4000000 in
theorem sb_X5_init_0 (C : Cx p s m args meth c cX5_init 1 none RX5 D cs A h0.se) (hin2 : meth.name = "<init>") (hz2 : hz.nx ≤ h0.nx + mc ∧ hz.su ≤ h0.su + ms) (N : Nat) (t0 : Nat) (h : Hp) (hJ : B_X5_init_0 N t0 h = some (hz, ())) (hk0 : h.kd t0 = 8) {H : Heap} {locs : List Loc} {cells slots : Nat} (w : Wo D cs A s h0 h H locs cells slots) {ls : Array Slot} (hl : lv_has ls 1 [(0, .ref t0)]) : W p l e { frames := 4, cells := mc, slots := ms, locals := 100 } s m args below meth c H locs cells slots (MQ below (Zv D cs A hz) args s mc ms A) (F0 m 0 ls []) := by
  obtain ⟨hx, hb, hml, hown, hts, -⟩ := id C
  unfold B_X5_init_0 at hJ
  refine lv_aload_n hx hb dX5_init_0 rfl (lv_at hl 0 rfl) ?_
  refine jc_O C tw_1_48 tw_1_41 tw_obj hl.1 (by first | exact Nat.le_of_ble_eq_true rfl | simp [rf_cat, cat_i, cat_l, cat_r]) (by decide) dX5_init_1 ?_
  refine lv_aload_n hx hb dX5_init_4 rfl (lv_at hl 0 rfl) ?_
  have w0 := w
  refine fn_2 C w (mb_X5_init_8 N t0 _ _ _ hJ) hz2 tw_1_49 dX5_init_5 (fun H w => ?_)
  have hk7 := kd_new (k := 2) (n := 0) (sl := 3) w0 hk0 (by decide)
  exact sb_X5_init_8 C hin2 hz2 N t0 _ _ _ hJ hk7 w hl
def J_X5_init (N : Nat) (t0 : Nat) (h : Hp) : Option (Hp × Unit) := B_X5_init_0 N t0 h
theorem mo_X5_init (N : Nat) (t0 : Nat) (h : Hp) (hJ : J_X5_init N t0 h = some (hz, ())) : Mo h hz := mb_X5_init_0 N t0 h hJ
theorem cd_X5_init : Cd yX5_init 0 := ⟨by decide +kernel, by decide +kernel, by decide +kernel⟩
theorem cc_X5_init (N : Nat) (t0 : Nat) (h : Hp) (hk0 : h.kd t0 = 8) (hJ : J_X5_init N t0 h = some (hz, ())) : Cv l yX5_init cX5_init 1 none 4 100 D cs h hz [.ref t0] := by
  intro mc ms g1 g2
  refine je_any (by decide) (by simp [lg_sl, rf_cat, cat_i, cat_l, cat_r]) ?_
  intro p e s m args below meth c C hin2 w ls hl
  have hl : lv_has ls 1 [(0, .ref t0)] := hl
  exact sb_X5_init_0 C hin2 ⟨g1, g2⟩ N t0 h hJ hk0 w hl
end G_X5_init
section G_X5_size
variable {p : Program} {l : Launch} {e : Env} {s : State} {m : MethodId} {args : Array Value} {below : List Frame} {meth : Method} {c : Code} {D : va_G} {cs : C4} {A : Nat → Prop} {h0 hz : Hp} {mc ms : Nat} {rz : Int32}
def B_X5_size_7 (N : Nat) (t0 : Nat) (h : Hp) (y0 : Int32) : Option (Hp × Int32) := some (h, y0)
theorem mb_X5_size_7 (N : Nat) (t0 : Nat) (h : Hp) (y0 : Int32) (hJ : B_X5_size_7 N t0 h y0 = some (hz, rz)) : Mo h hz := by
  unfold B_X5_size_7 at hJ
  obtain ⟨rfl, -⟩ := rs2 hJ
  exact ⟨fun _ _ => rfl, Nat.le_refl _, Nat.le_refl _, rfl, fun _ _ => rfl⟩
set_option maxRecDepth 100000 in
set_option maxHeartbeats 4000000 in
theorem sb_X5_size_7 (C : Cx p s m args meth c cX5_size 1 (some .int) RX5 D cs A h0.se) (hz2 : hz.nx ≤ h0.nx + mc ∧ hz.su ≤ h0.su + ms) (N : Nat) (t0 : Nat) (h : Hp) (y0 : Int32) (hJ : B_X5_size_7 N t0 h y0 = some (hz, rz)) (hk0 : h.kd t0 = 8) {H : Heap} {locs : List Loc} {cells slots : Nat} (w : Wo D cs A s h0 h H locs cells slots) {ls : Array Slot} (hl : lv_has ls 1 [(0, .ref t0)]) : W p l e { frames := 1, cells := mc, slots := ms, locals := 20 } s m args below meth c H locs cells slots (MQ below (Zi D cs A hz rz) args s mc ms A) (F0 m 7 ls [.int y0]) := by
  obtain ⟨hx, hb, hml, hown, hts, -⟩ := id C
  unfold B_X5_size_7 at hJ
  obtain ⟨rfl, rfl⟩ := rs2 hJ
  exact jr_iret C w hz2 dX5_size_7
def B_X5_size_0 (N : Nat) (t0 : Nat) (h : Hp) : Option (Hp × Int32) := dr h 2 (h.fr 800 t0) (fun a1 => (J_Jx4a65c_size_8abf5 N a1 h).bind (fun z => B_X5_size_7 N t0 z.1 z.2))
theorem mb_X5_size_0 (N : Nat) (t0 : Nat) (h : Hp) (hJ : B_X5_size_0 N t0 h = some (hz, rz)) : Mo h hz := by
  unfold B_X5_size_0 at hJ
  obtain ⟨a1, ea1, -, hJ⟩ := dr_some hJ
  obtain ⟨⟨h2, r3⟩, e4, hJ⟩ := ob_some hJ
  exact (mo_Jx4a65c_size_8abf5 N a1 h e4).tr (mb_X5_size_7 N t0 _ _ hJ)
set_option maxRecDepth 100000 in
set_option maxHeartbeats 4000000 in
theorem sb_X5_size_0 (C : Cx p s m args meth c cX5_size 1 (some .int) RX5 D cs A h0.se) (hz2 : hz.nx ≤ h0.nx + mc ∧ hz.su ≤ h0.su + ms) (N : Nat) (t0 : Nat) (h : Hp) (hJ : B_X5_size_0 N t0 h = some (hz, rz)) (hk0 : h.kd t0 = 8) {H : Heap} {locs : List Loc} {cells slots : Nat} (w : Wo D cs A s h0 h H locs cells slots) {ls : Array Slot} (hl : lv_has ls 1 [(0, .ref t0)]) : W p l e { frames := 1, cells := mc, slots := ms, locals := 20 } s m args below meth c H locs cells slots (MQ below (Zi D cs A hz rz) args s mc ms A) (F0 m 0 ls []) := by
  obtain ⟨hx, hb, hml, hown, hts, -⟩ := id C
  unfold B_X5_size_0 at hJ
  refine lv_aload_n hx hb dX5_size_0 rfl (lv_at hl 0 rfl) ?_
  refine fg_800 C w hk0 tw_1_75 dX5_size_1 ?_
  obtain ⟨a1, ea1, hka1, hJ⟩ := dr_some hJ
  rw [ea1]
  obtain ⟨⟨h2, r3⟩, e4, hJ⟩ := ob_some hJ
  refine jc_Vi (As := []) C w (cc_Jx4a65c_size_8abf5 N a1 h hka1 e4) (mo_Jx4a65c_size_8abf5 N a1 h e4) (mb_X5_size_7 N t0 _ _ hJ) hz2 hka1 (by decide) rfl (fs := fs2 h a1) rfl rfl ⟨tw_1_182, tw_2_182, tw_1_180, tw_1_181, tw_1_5⟩ cd_Jx4a65c_size_8abf5 ⟨by decide, by decide⟩ hl.1 (by first | exact Nat.le_of_ble_eq_true rfl | simp [rf_cat, cat_i, cat_l, cat_r]) rfl dX5_size_4 (fun H locs w1 => ?_)
  have hk5 := kd_keep w (mo_Jx4a65c_size_8abf5 N a1 h e4) hk0 (by decide)
  have w := w1
  exact sb_X5_size_7 C hz2 N t0 _ _ hJ hk5 w hl
def J_X5_size (N : Nat) (t0 : Nat) (h : Hp) : Option (Hp × Int32) := B_X5_size_0 N t0 h
theorem mo_X5_size (N : Nat) (t0 : Nat) (h : Hp) (hJ : J_X5_size N t0 h = some (hz, rz)) : Mo h hz := mb_X5_size_0 N t0 h hJ
theorem cd_X5_size : Cd yX5_size 0 := ⟨by decide +kernel, by decide +kernel, by decide +kernel⟩
theorem cc_X5_size (N : Nat) (t0 : Nat) (h : Hp) (hk0 : h.kd t0 = 8) (hJ : J_X5_size N t0 h = some (hz, rz)) : Ci l yX5_size cX5_size 1 (some .int) 1 20 D cs h hz [.ref t0] rz := by
  intro mc ms g1 g2
  refine je_any (by decide) (by simp [lg_sl, rf_cat, cat_i, cat_l, cat_r]) ?_
  intro p e s m args below meth c C hin2 w ls hl
  have hl : lv_has ls 1 [(0, .ref t0)] := hl
  exact sb_X5_size_0 C ⟨g1, g2⟩ N t0 h hJ hk0 w hl
end G_X5_size
section G_X5_chainAt
variable {p : Program} {l : Launch} {e : Env} {s : State} {m : MethodId} {args : Array Value} {below : List Frame} {meth : Method} {c : Code} {D : va_G} {cs : C4} {A : Nat → Prop} {h0 hz : Hp} {mc ms : Nat} {rz : Option Nat}
def B_X5_chainAt_30 (N : Nat) (t0 : Nat) (h : Hp) (y0 : Option Nat) : Option (Hp × Option Nat) := some (h, y0)
theorem mb_X5_chainAt_30 (N : Nat) (t0 : Nat) (h : Hp) (y0 : Option Nat) (hJ : B_X5_chainAt_30 N t0 h y0 = some (hz, rz)) : Mo h hz := by
  unfold B_X5_chainAt_30 at hJ
  obtain ⟨rfl, -⟩ := rs2 hJ
  exact ⟨fun _ _ => rfl, Nat.le_refl _, Nat.le_refl _, rfl, fun _ _ => rfl⟩
set_option maxRecDepth 100000 in
set_option maxHeartbeats 4000000 in
theorem sb_X5_chainAt_30 (C : Cx p s m args meth c cX5_chainAt 2 (some (.object "RingKeeper$Chain")) RX5 D cs A h0.se) (hz2 : hz.nx ≤ h0.nx + mc ∧ hz.su ≤ h0.su + ms) (N : Nat) (t0 : Nat) (h : Hp) (y0 : Option Nat) (hJ : B_X5_chainAt_30 N t0 h y0 = some (hz, rz)) (hk0 : h.kd t0 = 8) {H : Heap} {locs : List Loc} {cells slots : Nat} (w : Wo D cs A s h0 h H locs cells slots) {ls : Array Slot} (hl : lv_has ls 2 [(0, .ref t0)]) : W p l e { frames := 3, cells := mc, slots := ms, locals := 90 } s m args below meth c H locs cells slots (MQ below (Zq D cs A hz rz) args s mc ms A) (F0 m 30 ls [va_rf y0]) := by
  obtain ⟨hx, hb, hml, hown, hts, -⟩ := id C
  unfold B_X5_chainAt_30 at hJ
  obtain ⟨rfl, rfl⟩ := rs2 hJ
  exact jr_aret (r := y0) C w (Or.inl ⟨_, rfl⟩) hz2 dX5_chainAt_30
def B_X5_chainAt_23 (N : Nat) (t0 : Nat) (h : Hp) (y0 : Option Nat) : Option (Hp × Option Nat) := dr h 6 y0 (fun a1 => B_X5_chainAt_30 N t0 h (some a1))
theorem mb_X5_chainAt_23 (N : Nat) (t0 : Nat) (h : Hp) (y0 : Option Nat) (hJ : B_X5_chainAt_23 N t0 h y0 = some (hz, rz)) : Mo h hz := by
  unfold B_X5_chainAt_23 at hJ
  obtain ⟨a1, ea1, -, hJ⟩ := dr_some hJ
  exact mb_X5_chainAt_30 N t0 _ _ hJ
set_option maxRecDepth 100000 in
set_option maxHeartbeats 4000000 in
theorem sb_X5_chainAt_23 (C : Cx p s m args meth c cX5_chainAt 2 (some (.object "RingKeeper$Chain")) RX5 D cs A h0.se) (hz2 : hz.nx ≤ h0.nx + mc ∧ hz.su ≤ h0.su + ms) (N : Nat) (t0 : Nat) (h : Hp) (y0 : Option Nat) (hJ : B_X5_chainAt_23 N t0 h y0 = some (hz, rz)) (hk0 : h.kd t0 = 8) {H : Heap} {locs : List Loc} {cells slots : Nat} (w : Wo D cs A s h0 h H locs cells slots) {ls : Array Slot} (hl : lv_has ls 2 [(0, .ref t0)]) : W p l e { frames := 3, cells := mc, slots := ms, locals := 90 } s m args below meth c H locs cells slots (MQ below (Zq D cs A hz rz) args s mc ms A) (F0 m 23 ls [va_rf y0]) := by
  obtain ⟨hx, hb, hml, hown, hts, -⟩ := id C
  unfold B_X5_chainAt_23 at hJ
  obtain ⟨a1, ea1, hka1, hJ⟩ := dr_some hJ
  rw [ea1]
  refine va_castS hx hb hown (hts _ tw_2_208) (C.2.2.2.2.2.1.1 6 _ rfl).2 (recv_at C w hka1 (by decide) rfl (fs := fs6 h a1) rfl) dX5_chainAt_23 ?_
  refine lv_goto (tgt := 30) hx hb dX5_chainAt_26 (by decide) ?_
  exact sb_X5_chainAt_30 C hz2 N t0 _ _ hJ hk0 w hl
def B_X5_chainAt_29 (N : Nat) (t0 : Nat) (h : Hp) : Option (Hp × Option Nat) := B_X5_chainAt_30 N t0 h none
theorem mb_X5_chainAt_29 (N : Nat) (t0 : Nat) (h : Hp) (hJ : B_X5_chainAt_29 N t0 h = some (hz, rz)) : Mo h hz := by
  unfold B_X5_chainAt_29 at hJ
  exact mb_X5_chainAt_30 N t0 _ _ hJ
set_option maxRecDepth 100000 in
set_option maxHeartbeats 4000000 in
theorem sb_X5_chainAt_29 (C : Cx p s m args meth c cX5_chainAt 2 (some (.object "RingKeeper$Chain")) RX5 D cs A h0.se) (hz2 : hz.nx ≤ h0.nx + mc ∧ hz.su ≤ h0.su + ms) (N : Nat) (t0 : Nat) (h : Hp) (hJ : B_X5_chainAt_29 N t0 h = some (hz, rz)) (hk0 : h.kd t0 = 8) {H : Heap} {locs : List Loc} {cells slots : Nat} (w : Wo D cs A s h0 h H locs cells slots) {ls : Array Slot} (hl : lv_has ls 2 [(0, .ref t0)]) : W p l e { frames := 3, cells := mc, slots := ms, locals := 90 } s m args below meth c H locs cells slots (MQ below (Zq D cs A hz rz) args s mc ms A) (F0 m 29 ls []) := by
  obtain ⟨hx, hb, hml, hown, hts, -⟩ := id C
  unfold B_X5_chainAt_29 at hJ
  refine lv_null hx hb dX5_chainAt_29 ?_
  change W _ _ _ _ _ _ _ _ _ _ _ _ _ _ _ (F0 m 30 ls [va_rf none])
  exact sb_X5_chainAt_30 C hz2 N t0 _ _ hJ hk0 w hl
def B_X5_chainAt_12 (N : Nat) (t0 : Nat) (h : Hp) (x1 : Int32) (y0 : Int32) (y1 : Int32) : Option (Hp × Option Nat) := if y1 ≤ y0 then (B_X5_chainAt_29 N t0 h) else (dr h 2 (h.fr 800 t0) (fun a3 => (J_Jx4a65c_get_915e3 N a3 h x1).bind (fun z => B_X5_chainAt_23 N t0 z.1 z.2)))
theorem mb_X5_chainAt_12 (N : Nat) (t0 : Nat) (h : Hp) (x1 : Int32) (y0 : Int32) (y1 : Int32) (hJ : B_X5_chainAt_12 N t0 h x1 y0 y1 = some (hz, rz)) : Mo h hz := by
  unfold B_X5_chainAt_12 at hJ
  by_cases c2 : y1 ≤ y0
  · have hJ := it_pos c2 hJ
    exact mb_X5_chainAt_29 N t0 _ hJ
  · have hJ := it_neg c2 hJ
    obtain ⟨a3, ea3, -, hJ⟩ := dr_some hJ
    obtain ⟨⟨h4, r5⟩, e6, hJ⟩ := ob_some hJ
    exact (mo_Jx4a65c_get_915e3 N a3 h x1 e6).tr (mb_X5_chainAt_23 N t0 _ _ hJ)
set_option maxRecDepth 100000 in
set_option maxHeartbeats 4000000 in
theorem sb_X5_chainAt_12 (C : Cx p s m args meth c cX5_chainAt 2 (some (.object "RingKeeper$Chain")) RX5 D cs A h0.se) (hz2 : hz.nx ≤ h0.nx + mc ∧ hz.su ≤ h0.su + ms) (N : Nat) (t0 : Nat) (h : Hp) (x1 : Int32) (y0 : Int32) (y1 : Int32) (hJ : B_X5_chainAt_12 N t0 h x1 y0 y1 = some (hz, rz)) (hk0 : h.kd t0 = 8) {H : Heap} {locs : List Loc} {cells slots : Nat} (w : Wo D cs A s h0 h H locs cells slots) {ls : Array Slot} (hl : lv_has ls 2 [(0, .ref t0), (1, .int x1)]) : W p l e { frames := 3, cells := mc, slots := ms, locals := 90 } s m args below meth c H locs cells slots (MQ below (Zq D cs A hz rz) args s mc ms A) (F0 m 12 ls [.int y1, .int y0]) := by
  obtain ⟨hx, hb, hml, hown, hts, -⟩ := id C
  unfold B_X5_chainAt_12 at hJ
  refine lv_icmp_ge (tgt := 29) hx hb dX5_chainAt_12 (by decide) (fun c2 => ?_) (fun c2 => ?_)
  · have hJ := it_pos c2 hJ
    exact sb_X5_chainAt_29 C hz2 N t0 _ hJ hk0 w (lv_sub (l' := [(0, .ref t0)]) hl [0] rfl)
  · have hJ := it_neg c2 hJ
    refine lv_aload_n hx hb dX5_chainAt_15 rfl (lv_at hl 0 rfl) ?_
    refine fg_800 C w hk0 tw_1_75 dX5_chainAt_16 ?_
    refine lv_iload_n hx hb dX5_chainAt_19 rfl (lv_at hl 1 rfl) ?_
    obtain ⟨a3, ea3, hka3, hJ⟩ := dr_some hJ
    rw [ea3]
    obtain ⟨⟨h4, r5⟩, e6, hJ⟩ := ob_some hJ
    refine jc_Vq (As := [.int x1]) C w (cc_Jx4a65c_get_915e3 N a3 h x1 hka3 e6) (mo_Jx4a65c_get_915e3 N a3 h x1 e6) (mb_X5_chainAt_23 N t0 _ _ hJ) hz2 hka3 (by decide) rfl (fs := fs2 h a3) rfl rfl ⟨tw_2_65, tw_2_207, tw_2_63, tw_2_64, tw_1_5⟩ cd_Jx4a65c_get_915e3 ⟨by decide, by decide⟩ hl.1 (by first | exact Nat.le_of_ble_eq_true rfl | simp [rf_cat, cat_i, cat_l, cat_r]) rfl dX5_chainAt_20 (fun H locs w1 => ?_)
    have hk7 := kd_keep w (mo_Jx4a65c_get_915e3 N a3 h x1 e6) hk0 (by decide)
    have w := w1
    exact sb_X5_chainAt_23 C hz2 N t0 _ _ hJ hk7 w (lv_sub (l' := [(0, .ref t0)]) hl [0] rfl)
def B_X5_chainAt_0 (N : Nat) (t0 : Nat) (h : Hp) (x1 : Int32) : Option (Hp × Option Nat) := if x1 < 0 then (B_X5_chainAt_29 N t0 h) else (dr h 2 (h.fr 800 t0) (fun a9 => (J_Jx4a65c_size_8abf5 N a9 h).bind (fun z => B_X5_chainAt_12 N t0 z.1 x1 x1 z.2)))
theorem mb_X5_chainAt_0 (N : Nat) (t0 : Nat) (h : Hp) (x1 : Int32) (hJ : B_X5_chainAt_0 N t0 h x1 = some (hz, rz)) : Mo h hz := by
  unfold B_X5_chainAt_0 at hJ
  by_cases c8 : x1 < 0
  · have hJ := it_pos c8 hJ
    exact mb_X5_chainAt_29 N t0 _ hJ
  · have hJ := it_neg c8 hJ
    obtain ⟨a9, ea9, -, hJ⟩ := dr_some hJ
    obtain ⟨⟨h10, r11⟩, e12, hJ⟩ := ob_some hJ
    exact (mo_Jx4a65c_size_8abf5 N a9 h e12).tr (mb_X5_chainAt_12 N t0 _ _ _ _ hJ)
set_option maxRecDepth 100000 in
set_option maxHeartbeats 4000000 in
theorem sb_X5_chainAt_0 (C : Cx p s m args meth c cX5_chainAt 2 (some (.object "RingKeeper$Chain")) RX5 D cs A h0.se) (hz2 : hz.nx ≤ h0.nx + mc ∧ hz.su ≤ h0.su + ms) (N : Nat) (t0 : Nat) (h : Hp) (x1 : Int32) (hJ : B_X5_chainAt_0 N t0 h x1 = some (hz, rz)) (hk0 : h.kd t0 = 8) {H : Heap} {locs : List Loc} {cells slots : Nat} (w : Wo D cs A s h0 h H locs cells slots) {ls : Array Slot} (hl : lv_has ls 2 [(0, .ref t0), (1, .int x1)]) : W p l e { frames := 3, cells := mc, slots := ms, locals := 90 } s m args below meth c H locs cells slots (MQ below (Zq D cs A hz rz) args s mc ms A) (F0 m 0 ls []) := by
  obtain ⟨hx, hb, hml, hown, hts, -⟩ := id C
  unfold B_X5_chainAt_0 at hJ
  refine lv_iload_n hx hb dX5_chainAt_0 rfl (lv_at hl 1 rfl) ?_
  refine lv_if_lt (tgt := 29) hx hb dX5_chainAt_1 (by decide) (fun c8 => ?_) (fun c8 => ?_)
  · have hJ := it_pos c8 hJ
    exact sb_X5_chainAt_29 C hz2 N t0 _ hJ hk0 w (lv_sub (l' := [(0, .ref t0)]) hl [0] rfl)
  · have hJ := it_neg c8 hJ
    refine lv_iload_n hx hb dX5_chainAt_4 rfl (lv_at hl 1 rfl) ?_
    refine lv_aload_n hx hb dX5_chainAt_5 rfl (lv_at hl 0 rfl) ?_
    refine fg_800 C w hk0 tw_1_75 dX5_chainAt_6 ?_
    obtain ⟨a9, ea9, hka9, hJ⟩ := dr_some hJ
    rw [ea9]
    obtain ⟨⟨h10, r11⟩, e12, hJ⟩ := ob_some hJ
    refine jc_Vi (As := []) C w (cc_Jx4a65c_size_8abf5 N a9 h hka9 e12) (mo_Jx4a65c_size_8abf5 N a9 h e12) (mb_X5_chainAt_12 N t0 _ _ _ _ hJ) hz2 hka9 (by decide) rfl (fs := fs2 h a9) rfl rfl ⟨tw_1_182, tw_2_182, tw_1_180, tw_1_181, tw_1_5⟩ cd_Jx4a65c_size_8abf5 ⟨by decide, by decide⟩ hl.1 (by first | exact Nat.le_of_ble_eq_true rfl | simp [rf_cat, cat_i, cat_l, cat_r]) rfl dX5_chainAt_9 (fun H locs w1 => ?_)
    have hk13 := kd_keep w (mo_Jx4a65c_size_8abf5 N a9 h e12) hk0 (by decide)
    have w := w1
    exact sb_X5_chainAt_12 C hz2 N t0 _ _ _ _ hJ hk13 w hl
def J_X5_chainAt (N : Nat) (t0 : Nat) (h : Hp) (x1 : Int32) : Option (Hp × Option Nat) := B_X5_chainAt_0 N t0 h x1
theorem mo_X5_chainAt (N : Nat) (t0 : Nat) (h : Hp) (x1 : Int32) (hJ : J_X5_chainAt N t0 h x1 = some (hz, rz)) : Mo h hz := mb_X5_chainAt_0 N t0 h x1 hJ
theorem cd_X5_chainAt : Cd yX5_chainAt 1 := ⟨by decide +kernel, by decide +kernel, by decide +kernel⟩
theorem cc_X5_chainAt (N : Nat) (t0 : Nat) (h : Hp) (x1 : Int32) (hk0 : h.kd t0 = 8) (hJ : J_X5_chainAt N t0 h x1 = some (hz, rz)) : Cq l yX5_chainAt cX5_chainAt 2 (some (.object "RingKeeper$Chain")) 3 90 D cs h hz [.ref t0, .int x1] rz := by
  intro mc ms g1 g2
  refine je_any (by decide) (by simp [lg_sl, rf_cat, cat_i, cat_l, cat_r]) ?_
  intro p e s m args below meth c C hin2 w ls hl
  have hl : lv_has ls 2 [(0, .ref t0), (1, .int x1)] := hl
  exact sb_X5_chainAt_0 C ⟨g1, g2⟩ N t0 h x1 hJ hk0 w hl
end G_X5_chainAt
section G_X5_indexFrom
variable {p : Program} {l : Launch} {e : Env} {s : State} {m : MethodId} {args : Array Value} {below : List Frame} {meth : Method} {c : Code} {D : va_G} {cs : C4} {A : Nat → Prop} {h0 hz : Hp} {mc ms : Nat} {rz : Int32}
def B_X5_indexFrom_58 (N : Nat) (k11 : Hp → Int64 → Int32 → Int32 → Option (Hp × Int32)) (t0 : Nat) (h : Hp) (x1 : Int64) (x3 : Int32) (x4 : Int32) : Option (Hp × Int32) := k11 h x1 x3 x4
theorem mb_X5_indexFrom_58 (N : Nat) (k11 : Hp → Int64 → Int32 → Int32 → Option (Hp × Int32)) (t0 : Nat) (h : Hp) (x1 : Int64) (x3 : Int32) (x4 : Int32) (m11 : ∀ (h : Hp) (x1 : Int64) (x3 : Int32) (x4 : Int32), k11 h x1 x3 x4 = some (hz, rz) → Mo h hz) (hJ : B_X5_indexFrom_58 N k11 t0 h x1 x3 x4 = some (hz, rz)) : Mo h hz := by
  unfold B_X5_indexFrom_58 at hJ
  exact m11 _ _ _ _ hJ
set_option maxRecDepth 100000 in
set_option maxHeartbeats 4000000 in
theorem sb_X5_indexFrom_58 (C : Cx p s m args meth c cX5_indexFrom 6 (some .int) RX5 D cs A h0.se) (hz2 : hz.nx ≤ h0.nx + mc ∧ hz.su ≤ h0.su + ms) (N : Nat) (k11 : Hp → Int64 → Int32 → Int32 → Option (Hp × Int32)) (t0 : Nat) (m11 : ∀ (h : Hp) (x1 : Int64) (x3 : Int32) (x4 : Int32), k11 h x1 x3 x4 = some (hz, rz) → Mo h hz) (i11 : ∀ (h : Hp) (x1 : Int64) (x3 : Int32) (x4 : Int32) (H : Heap) (locs : List Loc) (cells slots : Nat) (ls : Array Slot), k11 h x1 x3 x4 = some (hz, rz) → h.kd t0 = 8 → Wo D cs A s h0 h H locs cells slots → lv_has ls 6 [(0, .ref t0), (1, .long x1), (3, .int x3), (4, .int x4)] → W p l e { frames := 3, cells := mc, slots := ms, locals := 90 } s m args below meth c H locs cells slots (MQ below (Zi D cs A hz rz) args s mc ms A) (F0 m 11 ls [])) (h : Hp) (x1 : Int64) (x3 : Int32) (x4 : Int32) (hJ : B_X5_indexFrom_58 N k11 t0 h x1 x3 x4 = some (hz, rz)) (hk0 : h.kd t0 = 8) {H : Heap} {locs : List Loc} {cells slots : Nat} (w : Wo D cs A s h0 h H locs cells slots) {ls : Array Slot} (hl : lv_has ls 6 [(0, .ref t0), (1, .long x1), (3, .int x3), (4, .int x4)]) : W p l e { frames := 3, cells := mc, slots := ms, locals := 90 } s m args below meth c H locs cells slots (MQ below (Zi D cs A hz rz) args s mc ms A) (F0 m 58 ls []) := by
  obtain ⟨hx, hb, hml, hown, hts, -⟩ := id C
  unfold B_X5_indexFrom_58 at hJ
  refine lv_goto (tgt := 11) hx hb dX5_indexFrom_58 (by decide) ?_
  exact i11 _ _ _ _ _ _ _ _ _ hJ hk0 w hl
def B_X5_indexFrom_34 (N : Nat) (k11 : Hp → Int64 → Int32 → Int32 → Option (Hp × Int32)) (t0 : Nat) (h : Hp) (x1 : Int64) (x3 : Int32) (x4 : Int32) (x5 : Int32) (y0 : Option Nat) : Option (Hp × Int32) := dr h 6 y0 (fun a1 => if 0 ≤ (lg_cmp ((h.fi 600 a1).toInt64) x1) then (B_X5_indexFrom_58 N k11 t0 h x1 x3 x5) else (B_X5_indexFrom_58 N k11 t0 h x1 (x5 + (1 : Int32)) x4))
theorem mb_X5_indexFrom_34 (N : Nat) (k11 : Hp → Int64 → Int32 → Int32 → Option (Hp × Int32)) (t0 : Nat) (h : Hp) (x1 : Int64) (x3 : Int32) (x4 : Int32) (x5 : Int32) (y0 : Option Nat) (m11 : ∀ (h : Hp) (x1 : Int64) (x3 : Int32) (x4 : Int32), k11 h x1 x3 x4 = some (hz, rz) → Mo h hz) (hJ : B_X5_indexFrom_34 N k11 t0 h x1 x3 x4 x5 y0 = some (hz, rz)) : Mo h hz := by
  unfold B_X5_indexFrom_34 at hJ
  obtain ⟨a1, ea1, -, hJ⟩ := dr_some hJ
  by_cases c2 : 0 ≤ (lg_cmp ((h.fi 600 a1).toInt64) x1)
  · have hJ := it_pos c2 hJ
    exact mb_X5_indexFrom_58 N k11 t0 _ _ _ _ m11 hJ
  · have hJ := it_neg c2 hJ
    exact mb_X5_indexFrom_58 N k11 t0 _ _ _ _ m11 hJ
set_option maxRecDepth 100000 in
set_option maxHeartbeats 4000000 in
theorem sb_X5_indexFrom_34 (C : Cx p s m args meth c cX5_indexFrom 6 (some .int) RX5 D cs A h0.se) (hz2 : hz.nx ≤ h0.nx + mc ∧ hz.su ≤ h0.su + ms) (N : Nat) (k11 : Hp → Int64 → Int32 → Int32 → Option (Hp × Int32)) (t0 : Nat) (m11 : ∀ (h : Hp) (x1 : Int64) (x3 : Int32) (x4 : Int32), k11 h x1 x3 x4 = some (hz, rz) → Mo h hz) (i11 : ∀ (h : Hp) (x1 : Int64) (x3 : Int32) (x4 : Int32) (H : Heap) (locs : List Loc) (cells slots : Nat) (ls : Array Slot), k11 h x1 x3 x4 = some (hz, rz) → h.kd t0 = 8 → Wo D cs A s h0 h H locs cells slots → lv_has ls 6 [(0, .ref t0), (1, .long x1), (3, .int x3), (4, .int x4)] → W p l e { frames := 3, cells := mc, slots := ms, locals := 90 } s m args below meth c H locs cells slots (MQ below (Zi D cs A hz rz) args s mc ms A) (F0 m 11 ls [])) (h : Hp) (x1 : Int64) (x3 : Int32) (x4 : Int32) (x5 : Int32) (y0 : Option Nat) (hJ : B_X5_indexFrom_34 N k11 t0 h x1 x3 x4 x5 y0 = some (hz, rz)) (hk0 : h.kd t0 = 8) {H : Heap} {locs : List Loc} {cells slots : Nat} (w : Wo D cs A s h0 h H locs cells slots) {ls : Array Slot} (hl : lv_has ls 6 [(0, .ref t0), (1, .long x1), (3, .int x3), (4, .int x4), (5, .int x5)]) : W p l e { frames := 3, cells := mc, slots := ms, locals := 90 } s m args below meth c H locs cells slots (MQ below (Zi D cs A hz rz) args s mc ms A) (F0 m 34 ls [va_rf y0]) := by
  obtain ⟨hx, hb, hml, hown, hts, -⟩ := id C
  unfold B_X5_indexFrom_34 at hJ
  obtain ⟨a1, ea1, hka1, hJ⟩ := dr_some hJ
  rw [ea1]
  refine va_castS hx hb hown (hts _ tw_2_208) (C.2.2.2.2.2.1.1 6 _ rfl).2 (recv_at C w hka1 (by decide) rfl (fs := fs6 h a1) rfl) dX5_indexFrom_34 ?_
  refine fg_600 C w hka1 tw_3_148 dX5_indexFrom_37 ?_
  refine lv_i2l hx hb dX5_indexFrom_40 rfl ?_
  refine lv_lload_n hx hb dX5_indexFrom_41 rfl (lv_at hl 1 rfl) ?_
  refine W.lcmp hx hb dX5_indexFrom_42 ?_
  refine lv_if_ge (tgt := 54) hx hb dX5_indexFrom_43 (by decide) (fun c2 => ?_) (fun c2 => ?_)
  · have hJ := it_pos c2 hJ
    refine lv_iload hx hb dX5_indexFrom_54 (lv_at hl 4 rfl) ?_
    refine lv_istore (i := 4) (lv' := [(4, .int x5), (0, .ref t0), (1, .long x1), (3, .int x3), (5, .int x5)]) hx hb dX5_indexFrom_56 hl (by decide) rfl (fun ls hl => ?_)
    exact sb_X5_indexFrom_58 C hz2 N k11 t0 m11 i11 _ _ _ _ hJ hk0 w (lv_sub (l' := [(0, .ref t0), (1, .long x1), (3, .int x3), (4, .int x5)]) hl [1, 2, 3, 0] rfl)
  · have hJ := it_neg c2 hJ
    refine lv_iload hx hb dX5_indexFrom_46 (lv_at hl 4 rfl) ?_
    refine lv_iconst (v := (1 : Int32)) hx hb dX5_indexFrom_48 (by decide) ?_
    refine lv_iadd hx hb dX5_indexFrom_49 ?_
    refine lv_istore_n (i := 3) (lv' := [(3, .int (x5 + (1 : Int32))), (0, .ref t0), (1, .long x1), (4, .int x4), (5, .int x5)]) hx hb dX5_indexFrom_50 rfl hl (by decide) rfl (fun ls hl => ?_)
    refine lv_goto (tgt := 58) hx hb dX5_indexFrom_51 (by decide) ?_
    exact sb_X5_indexFrom_58 C hz2 N k11 t0 m11 i11 _ _ _ _ hJ hk0 w (lv_sub (l' := [(0, .ref t0), (1, .long x1), (3, .int (x5 + (1 : Int32))), (4, .int x4)]) hl [1, 2, 0, 3] rfl)
def B_X5_indexFrom_11 (N : Nat) (k11 : Hp → Int64 → Int32 → Int32 → Option (Hp × Int32)) (t0 : Nat) (h : Hp) (x1 : Int64) (x3 : Int32) (x4 : Int32) : Option (Hp × Int32) := if x4 ≤ x3 then (some (h, x3)) else (dr h 2 (h.fr 800 t0) (fun a4 => (J_Jx4a65c_get_915e3 N a4 h (((x3 + x4).toUInt32 >>> ((1 : Int32).toUInt32 &&& Int32.toUInt32 31)).toInt32)).bind (fun z => B_X5_indexFrom_34 N k11 t0 z.1 x1 x3 x4 (((x3 + x4).toUInt32 >>> ((1 : Int32).toUInt32 &&& Int32.toUInt32 31)).toInt32) z.2)))
theorem mb_X5_indexFrom_11 (N : Nat) (k11 : Hp → Int64 → Int32 → Int32 → Option (Hp × Int32)) (t0 : Nat) (h : Hp) (x1 : Int64) (x3 : Int32) (x4 : Int32) (m11 : ∀ (h : Hp) (x1 : Int64) (x3 : Int32) (x4 : Int32), k11 h x1 x3 x4 = some (hz, rz) → Mo h hz) (hJ : B_X5_indexFrom_11 N k11 t0 h x1 x3 x4 = some (hz, rz)) : Mo h hz := by
  unfold B_X5_indexFrom_11 at hJ
  by_cases c3 : x4 ≤ x3
  · have hJ := it_pos c3 hJ
    obtain ⟨rfl, -⟩ := rs2 hJ
    exact ⟨fun _ _ => rfl, Nat.le_refl _, Nat.le_refl _, rfl, fun _ _ => rfl⟩
  · have hJ := it_neg c3 hJ
    obtain ⟨a4, ea4, -, hJ⟩ := dr_some hJ
    obtain ⟨⟨h5, r6⟩, e7, hJ⟩ := ob_some hJ
    exact (mo_Jx4a65c_get_915e3 N a4 h (((x3 + x4).toUInt32 >>> ((1 : Int32).toUInt32 &&& Int32.toUInt32 31)).toInt32) e7).tr (mb_X5_indexFrom_34 N k11 t0 _ _ _ _ _ _ m11 hJ)
set_option maxRecDepth 100000 in
set_option maxHeartbeats 4000000 in
theorem sb_X5_indexFrom_11 (C : Cx p s m args meth c cX5_indexFrom 6 (some .int) RX5 D cs A h0.se) (hz2 : hz.nx ≤ h0.nx + mc ∧ hz.su ≤ h0.su + ms) (N : Nat) (k11 : Hp → Int64 → Int32 → Int32 → Option (Hp × Int32)) (t0 : Nat) (m11 : ∀ (h : Hp) (x1 : Int64) (x3 : Int32) (x4 : Int32), k11 h x1 x3 x4 = some (hz, rz) → Mo h hz) (i11 : ∀ (h : Hp) (x1 : Int64) (x3 : Int32) (x4 : Int32) (H : Heap) (locs : List Loc) (cells slots : Nat) (ls : Array Slot), k11 h x1 x3 x4 = some (hz, rz) → h.kd t0 = 8 → Wo D cs A s h0 h H locs cells slots → lv_has ls 6 [(0, .ref t0), (1, .long x1), (3, .int x3), (4, .int x4)] → W p l e { frames := 3, cells := mc, slots := ms, locals := 90 } s m args below meth c H locs cells slots (MQ below (Zi D cs A hz rz) args s mc ms A) (F0 m 11 ls [])) (h : Hp) (x1 : Int64) (x3 : Int32) (x4 : Int32) (hJ : B_X5_indexFrom_11 N k11 t0 h x1 x3 x4 = some (hz, rz)) (hk0 : h.kd t0 = 8) {H : Heap} {locs : List Loc} {cells slots : Nat} (w : Wo D cs A s h0 h H locs cells slots) {ls : Array Slot} (hl : lv_has ls 6 [(0, .ref t0), (1, .long x1), (3, .int x3), (4, .int x4)]) : W p l e { frames := 3, cells := mc, slots := ms, locals := 90 } s m args below meth c H locs cells slots (MQ below (Zi D cs A hz rz) args s mc ms A) (F0 m 11 ls []) := by
  obtain ⟨hx, hb, hml, hown, hts, -⟩ := id C
  unfold B_X5_indexFrom_11 at hJ
  refine lv_iload_n hx hb dX5_indexFrom_11 rfl (lv_at hl 2 rfl) ?_
  refine lv_iload hx hb dX5_indexFrom_12 (lv_at hl 3 rfl) ?_
  refine lv_icmp_ge (tgt := 61) hx hb dX5_indexFrom_14 (by decide) (fun c3 => ?_) (fun c3 => ?_)
  · have hJ := it_pos c3 hJ
    refine lv_iload_n hx hb dX5_indexFrom_61 rfl (lv_at hl 2 rfl) ?_
    obtain ⟨rfl, rfl⟩ := rs2 hJ
    exact jr_iret C w hz2 dX5_indexFrom_62
  · have hJ := it_neg c3 hJ
    refine lv_iload_n hx hb dX5_indexFrom_17 rfl (lv_at hl 2 rfl) ?_
    refine lv_iload hx hb dX5_indexFrom_18 (lv_at hl 3 rfl) ?_
    refine lv_iadd hx hb dX5_indexFrom_20 ?_
    refine lv_iconst (v := (1 : Int32)) hx hb dX5_indexFrom_21 (by decide) ?_
    refine lv_iushr hx hb dX5_indexFrom_22 rfl ?_
    refine lv_istore (i := 5) (lv' := [(5, .int (((x3 + x4).toUInt32 >>> ((1 : Int32).toUInt32 &&& Int32.toUInt32 31)).toInt32)), (0, .ref t0), (1, .long x1), (3, .int x3), (4, .int x4)]) hx hb dX5_indexFrom_23 hl (by decide) rfl (fun ls hl => ?_)
    refine lv_aload_n hx hb dX5_indexFrom_25 rfl (lv_at hl 1 rfl) ?_
    refine fg_800 C w hk0 tw_1_75 dX5_indexFrom_26 ?_
    refine lv_iload hx hb dX5_indexFrom_29 (lv_at hl 0 rfl) ?_
    obtain ⟨a4, ea4, hka4, hJ⟩ := dr_some hJ
    rw [ea4]
    obtain ⟨⟨h5, r6⟩, e7, hJ⟩ := ob_some hJ
    refine jc_Vq (As := [.int (((x3 + x4).toUInt32 >>> ((1 : Int32).toUInt32 &&& Int32.toUInt32 31)).toInt32)]) C w (cc_Jx4a65c_get_915e3 N a4 h (((x3 + x4).toUInt32 >>> ((1 : Int32).toUInt32 &&& Int32.toUInt32 31)).toInt32) hka4 e7) (mo_Jx4a65c_get_915e3 N a4 h (((x3 + x4).toUInt32 >>> ((1 : Int32).toUInt32 &&& Int32.toUInt32 31)).toInt32) e7) (mb_X5_indexFrom_34 N k11 t0 _ _ _ _ _ _ m11 hJ) hz2 hka4 (by decide) rfl (fs := fs2 h a4) rfl rfl ⟨tw_2_65, tw_2_207, tw_2_63, tw_2_64, tw_1_5⟩ cd_Jx4a65c_get_915e3 ⟨by decide, by decide⟩ hl.1 (by first | exact Nat.le_of_ble_eq_true rfl | simp [rf_cat, cat_i, cat_l, cat_r]) rfl dX5_indexFrom_31 (fun H locs w1 => ?_)
    have hk8 := kd_keep w (mo_Jx4a65c_get_915e3 N a4 h (((x3 + x4).toUInt32 >>> ((1 : Int32).toUInt32 &&& Int32.toUInt32 31)).toInt32) e7) hk0 (by decide)
    have w := w1
    exact sb_X5_indexFrom_34 C hz2 N k11 t0 m11 i11 _ _ _ _ _ _ hJ hk8 w (lv_sub (l' := [(0, .ref t0), (1, .long x1), (3, .int x3), (4, .int x4), (5, .int (((x3 + x4).toUInt32 >>> ((1 : Int32).toUInt32 &&& Int32.toUInt32 31)).toInt32))]) hl [1, 2, 3, 4, 0] rfl)
def L_X5_indexFrom_11 (N : Nat) (t0 : Nat) : Nat → Hp → Int64 → Int32 → Int32 → Option (Hp × Int32)
  | 0 => fun _ _ _ _ => none
  | n + 1 => fun h x1 x3 x4 => B_X5_indexFrom_11 N (L_X5_indexFrom_11 N t0 n) t0 h x1 x3 x4
theorem ml_X5_indexFrom_11 (N : Nat) (t0 : Nat) : ∀ (n : Nat) (h : Hp) (x1 : Int64) (x3 : Int32) (x4 : Int32), L_X5_indexFrom_11 N t0 n h x1 x3 x4 = some (hz, rz) → Mo h hz := by
  intro n
  induction n with
  | zero => intro h x1 x3 x4 hJ; cases hJ
  | succ n ih => intro h x1 x3 x4 hJ; exact mb_X5_indexFrom_11 N (L_X5_indexFrom_11 N t0 n) t0 h x1 x3 x4 ih hJ
theorem sl_X5_indexFrom_11 (C : Cx p s m args meth c cX5_indexFrom 6 (some .int) RX5 D cs A h0.se) (hz2 : hz.nx ≤ h0.nx + mc ∧ hz.su ≤ h0.su + ms) (N : Nat) (t0 : Nat) : ∀ n : Nat, ∀ (h : Hp) (x1 : Int64) (x3 : Int32) (x4 : Int32) (H : Heap) (locs : List Loc) (cells slots : Nat) (ls : Array Slot), L_X5_indexFrom_11 N t0 n h x1 x3 x4 = some (hz, rz) → h.kd t0 = 8 → Wo D cs A s h0 h H locs cells slots → lv_has ls 6 [(0, .ref t0), (1, .long x1), (3, .int x3), (4, .int x4)] → W p l e { frames := 3, cells := mc, slots := ms, locals := 90 } s m args below meth c H locs cells slots (MQ below (Zi D cs A hz rz) args s mc ms A) (F0 m 11 ls []) := by
  intro n
  induction n with
  | zero => intro h x1 x3 x4 H locs cells slots ls hJ; cases hJ
  | succ n ih =>
    intro h x1 x3 x4 H locs cells slots ls hJ hk0 w hl
    exact sb_X5_indexFrom_11 C hz2 N (L_X5_indexFrom_11 N t0 n) t0 (ml_X5_indexFrom_11 N t0 n) ih h x1 x3 x4 hJ hk0 w hl
def B_X5_indexFrom_9 (N : Nat) (t0 : Nat) (h : Hp) (x1 : Int64) (x3 : Int32) (y0 : Int32) : Option (Hp × Int32) := L_X5_indexFrom_11 N t0 N h x1 x3 y0
theorem mb_X5_indexFrom_9 (N : Nat) (t0 : Nat) (h : Hp) (x1 : Int64) (x3 : Int32) (y0 : Int32) (hJ : B_X5_indexFrom_9 N t0 h x1 x3 y0 = some (hz, rz)) : Mo h hz := by
  unfold B_X5_indexFrom_9 at hJ
  exact ml_X5_indexFrom_11 N t0 N _ _ _ _ hJ
set_option maxRecDepth 100000 in
set_option maxHeartbeats 4000000 in
theorem sb_X5_indexFrom_9 (C : Cx p s m args meth c cX5_indexFrom 6 (some .int) RX5 D cs A h0.se) (hz2 : hz.nx ≤ h0.nx + mc ∧ hz.su ≤ h0.su + ms) (N : Nat) (t0 : Nat) (h : Hp) (x1 : Int64) (x3 : Int32) (y0 : Int32) (hJ : B_X5_indexFrom_9 N t0 h x1 x3 y0 = some (hz, rz)) (hk0 : h.kd t0 = 8) {H : Heap} {locs : List Loc} {cells slots : Nat} (w : Wo D cs A s h0 h H locs cells slots) {ls : Array Slot} (hl : lv_has ls 6 [(0, .ref t0), (1, .long x1), (3, .int x3)]) : W p l e { frames := 3, cells := mc, slots := ms, locals := 90 } s m args below meth c H locs cells slots (MQ below (Zi D cs A hz rz) args s mc ms A) (F0 m 9 ls [.int y0]) := by
  obtain ⟨hx, hb, hml, hown, hts, -⟩ := id C
  unfold B_X5_indexFrom_9 at hJ
  refine lv_istore (i := 4) (lv' := [(4, .int y0), (0, .ref t0), (1, .long x1), (3, .int x3)]) hx hb dX5_indexFrom_9 hl (by decide) rfl (fun ls hl => ?_)
  exact sl_X5_indexFrom_11 C hz2 N t0 N _ _ _ _ _ _ _ _ _ hJ hk0 w (lv_sub (l' := [(0, .ref t0), (1, .long x1), (3, .int x3), (4, .int y0)]) hl [1, 2, 3, 0] rfl)
def B_X5_indexFrom_0 (N : Nat) (t0 : Nat) (h : Hp) (x1 : Int64) : Option (Hp × Int32) := dr h 2 (h.fr 800 t0) (fun a9 => (J_Jx4a65c_size_8abf5 N a9 h).bind (fun z => B_X5_indexFrom_9 N t0 z.1 x1 (0 : Int32) z.2))
theorem mb_X5_indexFrom_0 (N : Nat) (t0 : Nat) (h : Hp) (x1 : Int64) (hJ : B_X5_indexFrom_0 N t0 h x1 = some (hz, rz)) : Mo h hz := by
  unfold B_X5_indexFrom_0 at hJ
  obtain ⟨a9, ea9, -, hJ⟩ := dr_some hJ
  obtain ⟨⟨h10, r11⟩, e12, hJ⟩ := ob_some hJ
  exact (mo_Jx4a65c_size_8abf5 N a9 h e12).tr (mb_X5_indexFrom_9 N t0 _ _ _ _ hJ)
set_option maxRecDepth 100000 in
set_option maxHeartbeats 4000000 in
theorem sb_X5_indexFrom_0 (C : Cx p s m args meth c cX5_indexFrom 6 (some .int) RX5 D cs A h0.se) (hz2 : hz.nx ≤ h0.nx + mc ∧ hz.su ≤ h0.su + ms) (N : Nat) (t0 : Nat) (h : Hp) (x1 : Int64) (hJ : B_X5_indexFrom_0 N t0 h x1 = some (hz, rz)) (hk0 : h.kd t0 = 8) {H : Heap} {locs : List Loc} {cells slots : Nat} (w : Wo D cs A s h0 h H locs cells slots) {ls : Array Slot} (hl : lv_has ls 6 [(0, .ref t0), (1, .long x1)]) : W p l e { frames := 3, cells := mc, slots := ms, locals := 90 } s m args below meth c H locs cells slots (MQ below (Zi D cs A hz rz) args s mc ms A) (F0 m 0 ls []) := by
  obtain ⟨hx, hb, hml, hown, hts, -⟩ := id C
  unfold B_X5_indexFrom_0 at hJ
  refine lv_iconst (v := (0 : Int32)) hx hb dX5_indexFrom_0 (by decide) ?_
  refine lv_istore_n (i := 3) (lv' := [(3, .int (0 : Int32)), (0, .ref t0), (1, .long x1)]) hx hb dX5_indexFrom_1 rfl hl (by decide) rfl (fun ls hl => ?_)
  refine lv_aload_n hx hb dX5_indexFrom_2 rfl (lv_at hl 1 rfl) ?_
  refine fg_800 C w hk0 tw_1_75 dX5_indexFrom_3 ?_
  obtain ⟨a9, ea9, hka9, hJ⟩ := dr_some hJ
  rw [ea9]
  obtain ⟨⟨h10, r11⟩, e12, hJ⟩ := ob_some hJ
  refine jc_Vi (As := []) C w (cc_Jx4a65c_size_8abf5 N a9 h hka9 e12) (mo_Jx4a65c_size_8abf5 N a9 h e12) (mb_X5_indexFrom_9 N t0 _ _ _ _ hJ) hz2 hka9 (by decide) rfl (fs := fs2 h a9) rfl rfl ⟨tw_1_182, tw_2_182, tw_1_180, tw_1_181, tw_1_5⟩ cd_Jx4a65c_size_8abf5 ⟨by decide, by decide⟩ hl.1 (by first | exact Nat.le_of_ble_eq_true rfl | simp [rf_cat, cat_i, cat_l, cat_r]) rfl dX5_indexFrom_6 (fun H locs w1 => ?_)
  have hk13 := kd_keep w (mo_Jx4a65c_size_8abf5 N a9 h e12) hk0 (by decide)
  have w := w1
  exact sb_X5_indexFrom_9 C hz2 N t0 _ _ _ _ hJ hk13 w (lv_sub (l' := [(0, .ref t0), (1, .long x1), (3, .int (0 : Int32))]) hl [1, 2, 0] rfl)
def J_X5_indexFrom (N : Nat) (t0 : Nat) (h : Hp) (x1 : Int64) : Option (Hp × Int32) := B_X5_indexFrom_0 N t0 h x1
theorem mo_X5_indexFrom (N : Nat) (t0 : Nat) (h : Hp) (x1 : Int64) (hJ : J_X5_indexFrom N t0 h x1 = some (hz, rz)) : Mo h hz := mb_X5_indexFrom_0 N t0 h x1 hJ
theorem cd_X5_indexFrom : Cd yX5_indexFrom 1 := ⟨by decide +kernel, by decide +kernel, by decide +kernel⟩
theorem cc_X5_indexFrom (N : Nat) (t0 : Nat) (h : Hp) (x1 : Int64) (hk0 : h.kd t0 = 8) (hJ : J_X5_indexFrom N t0 h x1 = some (hz, rz)) : Ci l yX5_indexFrom cX5_indexFrom 6 (some .int) 3 90 D cs h hz [.ref t0, .long x1] rz := by
  intro mc ms g1 g2
  refine je_any (by decide) (by simp [lg_sl, rf_cat, cat_i, cat_l, cat_r]) ?_
  intro p e s m args below meth c C hin2 w ls hl
  have hl : lv_has ls 6 [(0, .ref t0), (1, .long x1)] := hl
  exact sb_X5_indexFrom_0 C ⟨g1, g2⟩ N t0 h x1 hJ hk0 w hl
end G_X5_indexFrom
section G_X5_find
variable {p : Program} {l : Launch} {e : Env} {s : State} {m : MethodId} {args : Array Value} {below : List Frame} {meth : Method} {c : Code} {D : va_G} {cs : C4} {A : Nat → Prop} {h0 hz : Hp} {mc ms : Nat} {rz : Option Nat}
def B_X5_find_28 (N : Nat) (t0 : Nat) (h : Hp) (y0 : Option Nat) : Option (Hp × Option Nat) := some (h, y0)
theorem mb_X5_find_28 (N : Nat) (t0 : Nat) (h : Hp) (y0 : Option Nat) (hJ : B_X5_find_28 N t0 h y0 = some (hz, rz)) : Mo h hz := by
  unfold B_X5_find_28 at hJ
  obtain ⟨rfl, -⟩ := rs2 hJ
  exact ⟨fun _ _ => rfl, Nat.le_refl _, Nat.le_refl _, rfl, fun _ _ => rfl⟩
set_option maxRecDepth 100000 in
set_option maxHeartbeats 4000000 in
theorem sb_X5_find_28 (C : Cx p s m args meth c cX5_find 3 (some (.object "RingKeeper$Chain")) RX5 D cs A h0.se) (hz2 : hz.nx ≤ h0.nx + mc ∧ hz.su ≤ h0.su + ms) (N : Nat) (t0 : Nat) (h : Hp) (y0 : Option Nat) (hJ : B_X5_find_28 N t0 h y0 = some (hz, rz)) (hk0 : h.kd t0 = 8) {H : Heap} {locs : List Loc} {cells slots : Nat} (w : Wo D cs A s h0 h H locs cells slots) {ls : Array Slot} (hl : lv_has ls 3 [(0, .ref t0)]) : W p l e { frames := 4, cells := mc, slots := ms, locals := 120 } s m args below meth c H locs cells slots (MQ below (Zq D cs A hz rz) args s mc ms A) (F0 m 28 ls [va_rf y0]) := by
  obtain ⟨hx, hb, hml, hown, hts, -⟩ := id C
  unfold B_X5_find_28 at hJ
  obtain ⟨rfl, rfl⟩ := rs2 hJ
  exact jr_aret (r := y0) C w (Or.inl ⟨_, rfl⟩) hz2 dX5_find_28
def B_X5_find_27 (N : Nat) (t0 : Nat) (h : Hp) : Option (Hp × Option Nat) := B_X5_find_28 N t0 h none
theorem mb_X5_find_27 (N : Nat) (t0 : Nat) (h : Hp) (hJ : B_X5_find_27 N t0 h = some (hz, rz)) : Mo h hz := by
  unfold B_X5_find_27 at hJ
  exact mb_X5_find_28 N t0 _ _ hJ
set_option maxRecDepth 100000 in
set_option maxHeartbeats 4000000 in
theorem sb_X5_find_27 (C : Cx p s m args meth c cX5_find 3 (some (.object "RingKeeper$Chain")) RX5 D cs A h0.se) (hz2 : hz.nx ≤ h0.nx + mc ∧ hz.su ≤ h0.su + ms) (N : Nat) (t0 : Nat) (h : Hp) (hJ : B_X5_find_27 N t0 h = some (hz, rz)) (hk0 : h.kd t0 = 8) {H : Heap} {locs : List Loc} {cells slots : Nat} (w : Wo D cs A s h0 h H locs cells slots) {ls : Array Slot} (hl : lv_has ls 3 [(0, .ref t0)]) : W p l e { frames := 4, cells := mc, slots := ms, locals := 120 } s m args below meth c H locs cells slots (MQ below (Zq D cs A hz rz) args s mc ms A) (F0 m 27 ls []) := by
  obtain ⟨hx, hb, hml, hown, hts, -⟩ := id C
  unfold B_X5_find_27 at hJ
  refine lv_null hx hb dX5_find_27 ?_
  change W _ _ _ _ _ _ _ _ _ _ _ _ _ _ _ (F0 m 28 ls [va_rf none])
  exact sb_X5_find_28 C hz2 N t0 _ _ hJ hk0 w hl
def B_X5_find_10 (N : Nat) (t0 : Nat) (h : Hp) (x1 : Int32) (y0 : Option Nat) : Option (Hp × Option Nat) := nl y0 (B_X5_find_27 N t0 h) (fun a1 => ck (h.kd a1 = 6) (if (h.fi 600 a1) = x1 then (B_X5_find_28 N t0 h (some a1)) else (B_X5_find_27 N t0 h)))
theorem mb_X5_find_10 (N : Nat) (t0 : Nat) (h : Hp) (x1 : Int32) (y0 : Option Nat) (hJ : B_X5_find_10 N t0 h x1 y0 = some (hz, rz)) : Mo h hz := by
  unfold B_X5_find_10 at hJ
  cases ea1 : y0 with
  | none =>
    have hJ := nl_none ea1 hJ
    exact mb_X5_find_27 N t0 _ hJ
  | some a1 =>
    have hJ := nl_some ea1 hJ
    obtain ⟨-, hJ⟩ := ck_some hJ
    by_cases c3 : (h.fi 600 a1) = x1
    · have hJ := it_pos c3 hJ
      exact mb_X5_find_28 N t0 _ _ hJ
    · have hJ := it_neg c3 hJ
      exact mb_X5_find_27 N t0 _ hJ
set_option maxRecDepth 100000 in
set_option maxHeartbeats 4000000 in
theorem sb_X5_find_10 (C : Cx p s m args meth c cX5_find 3 (some (.object "RingKeeper$Chain")) RX5 D cs A h0.se) (hz2 : hz.nx ≤ h0.nx + mc ∧ hz.su ≤ h0.su + ms) (N : Nat) (t0 : Nat) (h : Hp) (x1 : Int32) (y0 : Option Nat) (hJ : B_X5_find_10 N t0 h x1 y0 = some (hz, rz)) (hk0 : h.kd t0 = 8) {H : Heap} {locs : List Loc} {cells slots : Nat} (w : Wo D cs A s h0 h H locs cells slots) {ls : Array Slot} (hl : lv_has ls 3 [(0, .ref t0), (1, .int x1)]) : W p l e { frames := 4, cells := mc, slots := ms, locals := 120 } s m args below meth c H locs cells slots (MQ below (Zq D cs A hz rz) args s mc ms A) (F0 m 10 ls [va_rf y0]) := by
  obtain ⟨hx, hb, hml, hown, hts, -⟩ := id C
  unfold B_X5_find_10 at hJ
  refine jv_astore_n (i := 2) (lv' := [(2, va_rf y0), (0, .ref t0), (1, .int x1)]) hx hb dX5_find_10 rfl hl (by decide) rfl (fun ls hl => ?_)
  refine jv_aload_n hx hb dX5_find_11 rfl (lv_at hl 0 rfl) ?_
  refine jv_ifnull (tgt := 27) hx hb dX5_find_12 (by decide) (fun ea1 => ?_) (fun a1 ea1 => ?_)
  · have hJ := nl_none ea1 hJ
    exact sb_X5_find_27 C hz2 N t0 _ hJ hk0 w (lv_sub (l' := [(0, .ref t0)]) hl [1] rfl)
  · have hJ := nl_some ea1 hJ
    rw [ea1] at hl
    refine lv_aload_n hx hb dX5_find_15 rfl (lv_at hl 0 rfl) ?_
    obtain ⟨hk2, hJ⟩ := ck_some hJ
    refine fg_600 C w hk2 tw_3_148 dX5_find_16 ?_
    refine lv_iload_n hx hb dX5_find_19 rfl (lv_at hl 2 rfl) ?_
    refine lv_icmp_ne (tgt := 27) hx hb dX5_find_20 (by decide) (fun c3 => ?_) (fun c3 => ?_)
    · have hJ := it_neg c3 hJ
      exact sb_X5_find_27 C hz2 N t0 _ hJ hk0 w (lv_sub (l' := [(0, .ref t0)]) hl [1] rfl)
    · have hJ := it_pos c3 hJ
      refine lv_aload_n hx hb dX5_find_23 rfl (lv_at hl 0 rfl) ?_
      refine lv_goto (tgt := 28) hx hb dX5_find_24 (by decide) ?_
      exact sb_X5_find_28 C hz2 N t0 _ _ hJ hk0 w (lv_sub (l' := [(0, .ref t0)]) hl [1] rfl)
def B_X5_find_7 (N : Nat) (t0 : Nat) (h : Hp) (x1 : Int32) (y0 : Option Nat) (y1 : Int32) : Option (Hp × Option Nat) := dr h 8 y0 (fun a4 => (J_X5_chainAt N a4 h y1).bind (fun z => B_X5_find_10 N t0 z.1 x1 z.2))
theorem mb_X5_find_7 (N : Nat) (t0 : Nat) (h : Hp) (x1 : Int32) (y0 : Option Nat) (y1 : Int32) (hJ : B_X5_find_7 N t0 h x1 y0 y1 = some (hz, rz)) : Mo h hz := by
  unfold B_X5_find_7 at hJ
  obtain ⟨a4, ea4, -, hJ⟩ := dr_some hJ
  obtain ⟨⟨h5, r6⟩, e7, hJ⟩ := ob_some hJ
  exact (mo_X5_chainAt N a4 h y1 e7).tr (mb_X5_find_10 N t0 _ _ _ hJ)
set_option maxRecDepth 100000 in
set_option maxHeartbeats 4000000 in
theorem sb_X5_find_7 (C : Cx p s m args meth c cX5_find 3 (some (.object "RingKeeper$Chain")) RX5 D cs A h0.se) (hz2 : hz.nx ≤ h0.nx + mc ∧ hz.su ≤ h0.su + ms) (N : Nat) (t0 : Nat) (h : Hp) (x1 : Int32) (y0 : Option Nat) (y1 : Int32) (hJ : B_X5_find_7 N t0 h x1 y0 y1 = some (hz, rz)) (hk0 : h.kd t0 = 8) {H : Heap} {locs : List Loc} {cells slots : Nat} (w : Wo D cs A s h0 h H locs cells slots) {ls : Array Slot} (hl : lv_has ls 3 [(0, .ref t0), (1, .int x1)]) : W p l e { frames := 4, cells := mc, slots := ms, locals := 120 } s m args below meth c H locs cells slots (MQ below (Zq D cs A hz rz) args s mc ms A) (F0 m 7 ls [.int y1, va_rf y0]) := by
  obtain ⟨hx, hb, hml, hown, hts, -⟩ := id C
  unfold B_X5_find_7 at hJ
  obtain ⟨a4, ea4, hka4, hJ⟩ := dr_some hJ
  rw [ea4]
  obtain ⟨⟨h5, r6⟩, e7, hJ⟩ := ob_some hJ
  refine jc_Vq (As := [.int y1]) C w (cc_X5_chainAt N a4 h y1 hka4 e7) (mo_X5_chainAt N a4 h y1 e7) (mb_X5_find_10 N t0 _ _ _ hJ) hz2 hka4 (by decide) rfl (fs := fs8 h a4) rfl rfl ⟨tw_2_212, tw_2_209, tw_2_210, tw_2_211, tw_1_2⟩ cd_X5_chainAt ⟨by decide, by decide⟩ hl.1 (by first | exact Nat.le_of_ble_eq_true rfl | simp [rf_cat, cat_i, cat_l, cat_r]) rfl dX5_find_7 (fun H locs w1 => ?_)
  have hk8 := kd_keep w (mo_X5_chainAt N a4 h y1 e7) hk0 (by decide)
  have w := w1
  exact sb_X5_find_10 C hz2 N t0 _ _ _ hJ hk8 w hl
def B_X5_find_0 (N : Nat) (t0 : Nat) (h : Hp) (x1 : Int32) : Option (Hp × Option Nat) := (J_X5_indexFrom N t0 h x1.toInt64).bind (fun z => B_X5_find_7 N t0 z.1 x1 (some t0) z.2)
theorem mb_X5_find_0 (N : Nat) (t0 : Nat) (h : Hp) (x1 : Int32) (hJ : B_X5_find_0 N t0 h x1 = some (hz, rz)) : Mo h hz := by
  unfold B_X5_find_0 at hJ
  obtain ⟨⟨h9, r10⟩, e11, hJ⟩ := ob_some hJ
  exact (mo_X5_indexFrom N t0 h x1.toInt64 e11).tr (mb_X5_find_7 N t0 _ _ _ _ hJ)
set_option maxRecDepth 100000 in
set_option maxHeartbeats 4000000 in
theorem sb_X5_find_0 (C : Cx p s m args meth c cX5_find 3 (some (.object "RingKeeper$Chain")) RX5 D cs A h0.se) (hz2 : hz.nx ≤ h0.nx + mc ∧ hz.su ≤ h0.su + ms) (N : Nat) (t0 : Nat) (h : Hp) (x1 : Int32) (hJ : B_X5_find_0 N t0 h x1 = some (hz, rz)) (hk0 : h.kd t0 = 8) {H : Heap} {locs : List Loc} {cells slots : Nat} (w : Wo D cs A s h0 h H locs cells slots) {ls : Array Slot} (hl : lv_has ls 3 [(0, .ref t0), (1, .int x1)]) : W p l e { frames := 4, cells := mc, slots := ms, locals := 120 } s m args below meth c H locs cells slots (MQ below (Zq D cs A hz rz) args s mc ms A) (F0 m 0 ls []) := by
  obtain ⟨hx, hb, hml, hown, hts, -⟩ := id C
  unfold B_X5_find_0 at hJ
  refine lv_aload_n hx hb dX5_find_0 rfl (lv_at hl 0 rfl) ?_
  refine lv_aload_n hx hb dX5_find_1 rfl (lv_at hl 0 rfl) ?_
  refine lv_iload_n hx hb dX5_find_2 rfl (lv_at hl 1 rfl) ?_
  refine lv_i2l hx hb dX5_find_3 rfl ?_
  obtain ⟨⟨h9, r10⟩, e11, hJ⟩ := ob_some hJ
  refine jc_Vi (As := [.long x1.toInt64]) C w (cc_X5_indexFrom N t0 h x1.toInt64 hk0 e11) (mo_X5_indexFrom N t0 h x1.toInt64 e11) (mb_X5_find_7 N t0 _ _ _ _ hJ) hz2 hk0 (by decide) rfl (fs := fs8 h t0) rfl rfl ⟨tw_2_206, tw_2_203, tw_2_204, tw_2_205, tw_1_2⟩ cd_X5_indexFrom ⟨by decide, by decide⟩ hl.1 (by first | exact Nat.le_of_ble_eq_true rfl | simp [rf_cat, cat_i, cat_l, cat_r]) rfl dX5_find_4 (fun H locs w1 => ?_)
  have hk12 := kd_keep w (mo_X5_indexFrom N t0 h x1.toInt64 e11) hk0 (by decide)
  have w := w1
  exact sb_X5_find_7 C hz2 N t0 _ _ _ _ hJ hk12 w hl
def J_X5_find (N : Nat) (t0 : Nat) (h : Hp) (x1 : Int32) : Option (Hp × Option Nat) := B_X5_find_0 N t0 h x1
theorem mo_X5_find (N : Nat) (t0 : Nat) (h : Hp) (x1 : Int32) (hJ : J_X5_find N t0 h x1 = some (hz, rz)) : Mo h hz := mb_X5_find_0 N t0 h x1 hJ
theorem cd_X5_find : Cd yX5_find 1 := ⟨by decide +kernel, by decide +kernel, by decide +kernel⟩
theorem cc_X5_find (N : Nat) (t0 : Nat) (h : Hp) (x1 : Int32) (hk0 : h.kd t0 = 8) (hJ : J_X5_find N t0 h x1 = some (hz, rz)) : Cq l yX5_find cX5_find 3 (some (.object "RingKeeper$Chain")) 4 120 D cs h hz [.ref t0, .int x1] rz := by
  intro mc ms g1 g2
  refine je_any (by decide) (by simp [lg_sl, rf_cat, cat_i, cat_l, cat_r]) ?_
  intro p e s m args below meth c C hin2 w ls hl
  have hl : lv_has ls 3 [(0, .ref t0), (1, .int x1)] := hl
  exact sb_X5_find_0 C ⟨g1, g2⟩ N t0 h x1 hJ hk0 w hl
end G_X5_find
section G_X5_nextChain
variable {p : Program} {l : Launch} {e : Env} {s : State} {m : MethodId} {args : Array Value} {below : List Frame} {meth : Method} {c : Code} {D : va_G} {cs : C4} {A : Nat → Prop} {h0 hz : Hp} {mc ms : Nat} {rz : Option Nat}
def B_X5_nextChain_25 (N : Nat) (t0 : Nat) (h : Hp) (y0 : Option Nat) : Option (Hp × Option Nat) := some (h, y0)
theorem mb_X5_nextChain_25 (N : Nat) (t0 : Nat) (h : Hp) (y0 : Option Nat) (hJ : B_X5_nextChain_25 N t0 h y0 = some (hz, rz)) : Mo h hz := by
  unfold B_X5_nextChain_25 at hJ
  obtain ⟨rfl, -⟩ := rs2 hJ
  exact ⟨fun _ _ => rfl, Nat.le_refl _, Nat.le_refl _, rfl, fun _ _ => rfl⟩
set_option maxRecDepth 100000 in
set_option maxHeartbeats 4000000 in
theorem sb_X5_nextChain_25 (C : Cx p s m args meth c cX5_nextChain 4 (some (.object "RingKeeper$Chain")) RX5 D cs A h0.se) (hz2 : hz.nx ≤ h0.nx + mc ∧ hz.su ≤ h0.su + ms) (N : Nat) (t0 : Nat) (h : Hp) (y0 : Option Nat) (hJ : B_X5_nextChain_25 N t0 h y0 = some (hz, rz)) (hk0 : h.kd t0 = 8) {H : Heap} {locs : List Loc} {cells slots : Nat} (w : Wo D cs A s h0 h H locs cells slots) {ls : Array Slot} (hl : lv_has ls 4 [(0, .ref t0)]) : W p l e { frames := 4, cells := mc, slots := ms, locals := 120 } s m args below meth c H locs cells slots (MQ below (Zq D cs A hz rz) args s mc ms A) (F0 m 25 ls [va_rf y0]) := by
  obtain ⟨hx, hb, hml, hown, hts, -⟩ := id C
  unfold B_X5_nextChain_25 at hJ
  obtain ⟨rfl, rfl⟩ := rs2 hJ
  exact jr_aret (r := y0) C w (Or.inl ⟨_, rfl⟩) hz2 dX5_nextChain_25
def B_X5_nextChain_22 (N : Nat) (t0 : Nat) (h : Hp) (y0 : Option Nat) (y1 : Int32) : Option (Hp × Option Nat) := dr h 8 y0 (fun a1 => (J_X5_chainAt N a1 h y1).bind (fun z => B_X5_nextChain_25 N t0 z.1 z.2))
theorem mb_X5_nextChain_22 (N : Nat) (t0 : Nat) (h : Hp) (y0 : Option Nat) (y1 : Int32) (hJ : B_X5_nextChain_22 N t0 h y0 y1 = some (hz, rz)) : Mo h hz := by
  unfold B_X5_nextChain_22 at hJ
  obtain ⟨a1, ea1, -, hJ⟩ := dr_some hJ
  obtain ⟨⟨h2, r3⟩, e4, hJ⟩ := ob_some hJ
  exact (mo_X5_chainAt N a1 h y1 e4).tr (mb_X5_nextChain_25 N t0 _ _ hJ)
set_option maxRecDepth 100000 in
set_option maxHeartbeats 4000000 in
theorem sb_X5_nextChain_22 (C : Cx p s m args meth c cX5_nextChain 4 (some (.object "RingKeeper$Chain")) RX5 D cs A h0.se) (hz2 : hz.nx ≤ h0.nx + mc ∧ hz.su ≤ h0.su + ms) (N : Nat) (t0 : Nat) (h : Hp) (y0 : Option Nat) (y1 : Int32) (hJ : B_X5_nextChain_22 N t0 h y0 y1 = some (hz, rz)) (hk0 : h.kd t0 = 8) {H : Heap} {locs : List Loc} {cells slots : Nat} (w : Wo D cs A s h0 h H locs cells slots) {ls : Array Slot} (hl : lv_has ls 4 [(0, .ref t0)]) : W p l e { frames := 4, cells := mc, slots := ms, locals := 120 } s m args below meth c H locs cells slots (MQ below (Zq D cs A hz rz) args s mc ms A) (F0 m 22 ls [.int y1, va_rf y0]) := by
  obtain ⟨hx, hb, hml, hown, hts, -⟩ := id C
  unfold B_X5_nextChain_22 at hJ
  obtain ⟨a1, ea1, hka1, hJ⟩ := dr_some hJ
  rw [ea1]
  obtain ⟨⟨h2, r3⟩, e4, hJ⟩ := ob_some hJ
  refine jc_Vq (As := [.int y1]) C w (cc_X5_chainAt N a1 h y1 hka1 e4) (mo_X5_chainAt N a1 h y1 e4) (mb_X5_nextChain_25 N t0 _ _ hJ) hz2 hka1 (by decide) rfl (fs := fs8 h a1) rfl rfl ⟨tw_2_212, tw_2_209, tw_2_210, tw_2_211, tw_1_2⟩ cd_X5_chainAt ⟨by decide, by decide⟩ hl.1 (by first | exact Nat.le_of_ble_eq_true rfl | simp [rf_cat, cat_i, cat_l, cat_r]) rfl dX5_nextChain_22 (fun H locs w1 => ?_)
  have hk5 := kd_keep w (mo_X5_chainAt N a1 h y1 e4) hk0 (by decide)
  have w := w1
  exact sb_X5_nextChain_25 C hz2 N t0 _ _ hJ hk5 w hl
def B_X5_nextChain_10 (N : Nat) (t0 : Nat) (h : Hp) (y0 : Option Nat) (y1 : Int32) : Option (Hp × Option Nat) := B_X5_nextChain_22 N t0 h y0 y1
theorem mb_X5_nextChain_10 (N : Nat) (t0 : Nat) (h : Hp) (y0 : Option Nat) (y1 : Int32) (hJ : B_X5_nextChain_10 N t0 h y0 y1 = some (hz, rz)) : Mo h hz := by
  unfold B_X5_nextChain_10 at hJ
  exact mb_X5_nextChain_22 N t0 _ _ _ hJ
set_option maxRecDepth 100000 in
set_option maxHeartbeats 4000000 in
theorem sb_X5_nextChain_10 (C : Cx p s m args meth c cX5_nextChain 4 (some (.object "RingKeeper$Chain")) RX5 D cs A h0.se) (hz2 : hz.nx ≤ h0.nx + mc ∧ hz.su ≤ h0.su + ms) (N : Nat) (t0 : Nat) (h : Hp) (y0 : Option Nat) (y1 : Int32) (hJ : B_X5_nextChain_10 N t0 h y0 y1 = some (hz, rz)) (hk0 : h.kd t0 = 8) {H : Heap} {locs : List Loc} {cells slots : Nat} (w : Wo D cs A s h0 h H locs cells slots) {ls : Array Slot} (hl : lv_has ls 4 [(0, .ref t0)]) : W p l e { frames := 4, cells := mc, slots := ms, locals := 120 } s m args below meth c H locs cells slots (MQ below (Zq D cs A hz rz) args s mc ms A) (F0 m 10 ls [.int y1, va_rf y0]) := by
  obtain ⟨hx, hb, hml, hown, hts, -⟩ := id C
  unfold B_X5_nextChain_10 at hJ
  refine lv_goto (tgt := 22) hx hb dX5_nextChain_10 (by decide) ?_
  exact sb_X5_nextChain_22 C hz2 N t0 _ _ _ hJ hk0 w hl
def B_X5_nextChain_20 (N : Nat) (t0 : Nat) (h : Hp) (y0 : Option Nat) (y1 : Int32) : Option (Hp × Option Nat) := B_X5_nextChain_22 N t0 h y0 (y1 - (1 : Int32))
theorem mb_X5_nextChain_20 (N : Nat) (t0 : Nat) (h : Hp) (y0 : Option Nat) (y1 : Int32) (hJ : B_X5_nextChain_20 N t0 h y0 y1 = some (hz, rz)) : Mo h hz := by
  unfold B_X5_nextChain_20 at hJ
  exact mb_X5_nextChain_22 N t0 _ _ _ hJ
set_option maxRecDepth 100000 in
set_option maxHeartbeats 4000000 in
theorem sb_X5_nextChain_20 (C : Cx p s m args meth c cX5_nextChain 4 (some (.object "RingKeeper$Chain")) RX5 D cs A h0.se) (hz2 : hz.nx ≤ h0.nx + mc ∧ hz.su ≤ h0.su + ms) (N : Nat) (t0 : Nat) (h : Hp) (y0 : Option Nat) (y1 : Int32) (hJ : B_X5_nextChain_20 N t0 h y0 y1 = some (hz, rz)) (hk0 : h.kd t0 = 8) {H : Heap} {locs : List Loc} {cells slots : Nat} (w : Wo D cs A s h0 h H locs cells slots) {ls : Array Slot} (hl : lv_has ls 4 [(0, .ref t0)]) : W p l e { frames := 4, cells := mc, slots := ms, locals := 120 } s m args below meth c H locs cells slots (MQ below (Zq D cs A hz rz) args s mc ms A) (F0 m 20 ls [.int y1, va_rf y0]) := by
  obtain ⟨hx, hb, hml, hown, hts, -⟩ := id C
  unfold B_X5_nextChain_20 at hJ
  refine lv_iconst (v := (1 : Int32)) hx hb dX5_nextChain_20 (by decide) ?_
  refine lv_isub hx hb dX5_nextChain_21 ?_
  exact sb_X5_nextChain_22 C hz2 N t0 _ _ _ hJ hk0 w hl
def B_X5_nextChain_0 (N : Nat) (t0 : Nat) (h : Hp) (x1 : Int64) (x3 : Int32) : Option (Hp × Option Nat) := if x3 = 0 then ((J_X5_indexFrom N t0 h (x1 + (1 : Int64))).bind (fun z => B_X5_nextChain_20 N t0 z.1 (some t0) z.2)) else ((J_X5_indexFrom N t0 h x1).bind (fun z => B_X5_nextChain_10 N t0 z.1 (some t0) z.2))
theorem mb_X5_nextChain_0 (N : Nat) (t0 : Nat) (h : Hp) (x1 : Int64) (x3 : Int32) (hJ : B_X5_nextChain_0 N t0 h x1 x3 = some (hz, rz)) : Mo h hz := by
  unfold B_X5_nextChain_0 at hJ
  by_cases c6 : x3 = 0
  · have hJ := it_pos c6 hJ
    obtain ⟨⟨h7, r8⟩, e9, hJ⟩ := ob_some hJ
    exact (mo_X5_indexFrom N t0 h (x1 + (1 : Int64)) e9).tr (mb_X5_nextChain_20 N t0 _ _ _ hJ)
  · have hJ := it_neg c6 hJ
    obtain ⟨⟨h11, r12⟩, e13, hJ⟩ := ob_some hJ
    exact (mo_X5_indexFrom N t0 h x1 e13).tr (mb_X5_nextChain_10 N t0 _ _ _ hJ)
set_option maxRecDepth 100000 in
set_option maxHeartbeats 4000000 in
theorem sb_X5_nextChain_0 (C : Cx p s m args meth c cX5_nextChain 4 (some (.object "RingKeeper$Chain")) RX5 D cs A h0.se) (hz2 : hz.nx ≤ h0.nx + mc ∧ hz.su ≤ h0.su + ms) (N : Nat) (t0 : Nat) (h : Hp) (x1 : Int64) (x3 : Int32) (hJ : B_X5_nextChain_0 N t0 h x1 x3 = some (hz, rz)) (hk0 : h.kd t0 = 8) {H : Heap} {locs : List Loc} {cells slots : Nat} (w : Wo D cs A s h0 h H locs cells slots) {ls : Array Slot} (hl : lv_has ls 4 [(0, .ref t0), (1, .long x1), (3, .int x3)]) : W p l e { frames := 4, cells := mc, slots := ms, locals := 120 } s m args below meth c H locs cells slots (MQ below (Zq D cs A hz rz) args s mc ms A) (F0 m 0 ls []) := by
  obtain ⟨hx, hb, hml, hown, hts, -⟩ := id C
  unfold B_X5_nextChain_0 at hJ
  refine lv_aload_n hx hb dX5_nextChain_0 rfl (lv_at hl 0 rfl) ?_
  refine lv_iload_n hx hb dX5_nextChain_1 rfl (lv_at hl 2 rfl) ?_
  refine lv_if_eq (tgt := 13) hx hb dX5_nextChain_2 (by decide) (fun c6 => ?_) (fun c6 => ?_)
  · have hJ := it_pos c6 hJ
    refine lv_aload_n hx hb dX5_nextChain_13 rfl (lv_at hl 0 rfl) ?_
    refine lv_lload_n hx hb dX5_nextChain_14 rfl (lv_at hl 1 rfl) ?_
    refine lv_lconst (v := (1 : Int64)) hx hb dX5_nextChain_15 (by decide) ?_
    refine lv_ladd hx hb dX5_nextChain_16 ?_
    obtain ⟨⟨h7, r8⟩, e9, hJ⟩ := ob_some hJ
    refine jc_Vi (As := [.long (x1 + (1 : Int64))]) C w (cc_X5_indexFrom N t0 h (x1 + (1 : Int64)) hk0 e9) (mo_X5_indexFrom N t0 h (x1 + (1 : Int64)) e9) (mb_X5_nextChain_20 N t0 _ _ _ hJ) hz2 hk0 (by decide) rfl (fs := fs8 h t0) rfl rfl ⟨tw_2_206, tw_2_203, tw_2_204, tw_2_205, tw_1_2⟩ cd_X5_indexFrom ⟨by decide, by decide⟩ hl.1 (by first | exact Nat.le_of_ble_eq_true rfl | simp [rf_cat, cat_i, cat_l, cat_r]) rfl dX5_nextChain_17 (fun H locs w1 => ?_)
    have hk10 := kd_keep w (mo_X5_indexFrom N t0 h (x1 + (1 : Int64)) e9) hk0 (by decide)
    have w := w1
    exact sb_X5_nextChain_20 C hz2 N t0 _ _ _ hJ hk10 w (lv_sub (l' := [(0, .ref t0)]) hl [0] rfl)
  · have hJ := it_neg c6 hJ
    refine lv_aload_n hx hb dX5_nextChain_5 rfl (lv_at hl 0 rfl) ?_
    refine lv_lload_n hx hb dX5_nextChain_6 rfl (lv_at hl 1 rfl) ?_
    obtain ⟨⟨h11, r12⟩, e13, hJ⟩ := ob_some hJ
    refine jc_Vi (As := [.long x1]) C w (cc_X5_indexFrom N t0 h x1 hk0 e13) (mo_X5_indexFrom N t0 h x1 e13) (mb_X5_nextChain_10 N t0 _ _ _ hJ) hz2 hk0 (by decide) rfl (fs := fs8 h t0) rfl rfl ⟨tw_2_206, tw_2_203, tw_2_204, tw_2_205, tw_1_2⟩ cd_X5_indexFrom ⟨by decide, by decide⟩ hl.1 (by first | exact Nat.le_of_ble_eq_true rfl | simp [rf_cat, cat_i, cat_l, cat_r]) rfl dX5_nextChain_7 (fun H locs w1 => ?_)
    have hk14 := kd_keep w (mo_X5_indexFrom N t0 h x1 e13) hk0 (by decide)
    have w := w1
    exact sb_X5_nextChain_10 C hz2 N t0 _ _ _ hJ hk14 w (lv_sub (l' := [(0, .ref t0)]) hl [0] rfl)
def J_X5_nextChain (N : Nat) (t0 : Nat) (h : Hp) (x1 : Int64) (x3 : Int32) : Option (Hp × Option Nat) := B_X5_nextChain_0 N t0 h x1 x3
theorem mo_X5_nextChain (N : Nat) (t0 : Nat) (h : Hp) (x1 : Int64) (x3 : Int32) (hJ : J_X5_nextChain N t0 h x1 x3 = some (hz, rz)) : Mo h hz := mb_X5_nextChain_0 N t0 h x1 x3 hJ
theorem cd_X5_nextChain : Cd yX5_nextChain 2 := ⟨by decide +kernel, by decide +kernel, by decide +kernel⟩
theorem cc_X5_nextChain (N : Nat) (t0 : Nat) (h : Hp) (x1 : Int64) (x3 : Int32) (hk0 : h.kd t0 = 8) (hJ : J_X5_nextChain N t0 h x1 x3 = some (hz, rz)) : Cq l yX5_nextChain cX5_nextChain 4 (some (.object "RingKeeper$Chain")) 4 120 D cs h hz [.ref t0, .long x1, .int x3] rz := by
  intro mc ms g1 g2
  refine je_any (by decide) (by simp [lg_sl, rf_cat, cat_i, cat_l, cat_r]) ?_
  intro p e s m args below meth c C hin2 w ls hl
  have hl : lv_has ls 4 [(0, .ref t0), (1, .long x1), (3, .int x3)] := hl
  exact sb_X5_nextChain_0 C ⟨g1, g2⟩ N t0 h x1 x3 hJ hk0 w hl
end G_X5_nextChain
section G_X5_put
variable {p : Program} {l : Launch} {e : Env} {s : State} {m : MethodId} {args : Array Value} {below : List Frame} {meth : Method} {c : Code} {D : va_G} {cs : C4} {A : Nat → Prop} {h0 hz : Hp} {mc ms : Nat}
def B_X5_put_57 (N : Nat) (t0 : Nat) (h : Hp) (y0 : Option Nat) (y1 : Option Nat) : Option (Hp × Unit) := dr h 6 y0 (fun a1 => some (h.sfr 601 a1 y1, ()))
theorem mb_X5_put_57 (N : Nat) (t0 : Nat) (h : Hp) (y0 : Option Nat) (y1 : Option Nat) (hJ : B_X5_put_57 N t0 h y0 y1 = some (hz, ())) : Mo h hz := by
  unfold B_X5_put_57 at hJ
  obtain ⟨a1, ea1, -, hJ⟩ := dr_some hJ
  obtain ⟨rfl, -⟩ := rs2 hJ
  exact ⟨fun _ _ => rfl, Nat.le_refl _, Nat.le_refl _, rfl, fun _ _ => rfl⟩
set_option maxRecDepth 100000 in
set_option maxHeartbeats 4000000 in
theorem sb_X5_put_57 (C : Cx p s m args meth c cX5_put 8 none RX5 D cs A h0.se) (hz2 : hz.nx ≤ h0.nx + mc ∧ hz.su ≤ h0.su + ms) (N : Nat) (t0 : Nat) (h : Hp) (y0 : Option Nat) (y1 : Option Nat) (hJ : B_X5_put_57 N t0 h y0 y1 = some (hz, ())) (hk0 : h.kd t0 = 8) {H : Heap} {locs : List Loc} {cells slots : Nat} (w : Wo D cs A s h0 h H locs cells slots) {ls : Array Slot} (hl : lv_has ls 8 [(0, .ref t0)]) : W p l e { frames := 6, cells := mc, slots := ms, locals := 200 } s m args below meth c H locs cells slots (MQ below (Zv D cs A hz) args s mc ms A) (F0 m 57 ls [va_rf y1, va_rf y0]) := by
  obtain ⟨hx, hb, hml, hown, hts, -⟩ := id C
  unfold B_X5_put_57 at hJ
  obtain ⟨a1, ea1, hka1, hJ⟩ := dr_some hJ
  rw [ea1]
  refine fp_601 (x := y1) C w hka1 tw_3_155 dX5_put_57 (fun H locs w => ?_)
  obtain ⟨rfl, -⟩ := rs2 hJ
  exact jr_vret C w hz2 dX5_put_60
def B_X5_put_42 (N : Nat) (t0 : Nat) (h : Hp) (x2 : Int32) (x3 : Int32) (x4 : Int32) (x5 : Int64) (x7 : Option Nat) (y0 : Option Nat) (y1 : Option Nat) : Option (Hp × Unit) := dr h 6 x7 (fun a2 => dr h 7 y1 (fun a3 => (J_X4_init N a3 h x2 x3 x4 x5 (h.fr 601 a2)).bind (fun z => B_X5_put_57 N t0 z.1 y0 (some a3))))
theorem mb_X5_put_42 (N : Nat) (t0 : Nat) (h : Hp) (x2 : Int32) (x3 : Int32) (x4 : Int32) (x5 : Int64) (x7 : Option Nat) (y0 : Option Nat) (y1 : Option Nat) (hJ : B_X5_put_42 N t0 h x2 x3 x4 x5 x7 y0 y1 = some (hz, ())) : Mo h hz := by
  unfold B_X5_put_42 at hJ
  obtain ⟨a2, ea2, -, hJ⟩ := dr_some hJ
  obtain ⟨a3, ea3, -, hJ⟩ := dr_some hJ
  obtain ⟨⟨h4, r5⟩, e6, hJ⟩ := ob_some hJ
  exact (mo_X4_init N a3 h x2 x3 x4 x5 (h.fr 601 a2) e6).tr (mb_X5_put_57 N t0 _ _ _ hJ)
set_option maxRecDepth 100000 in
set_option maxHeartbeats 4000000 in
theorem sb_X5_put_42 (C : Cx p s m args meth c cX5_put 8 none RX5 D cs A h0.se) (hz2 : hz.nx ≤ h0.nx + mc ∧ hz.su ≤ h0.su + ms) (N : Nat) (t0 : Nat) (h : Hp) (x2 : Int32) (x3 : Int32) (x4 : Int32) (x5 : Int64) (x7 : Option Nat) (y0 : Option Nat) (y1 : Option Nat) (hJ : B_X5_put_42 N t0 h x2 x3 x4 x5 x7 y0 y1 = some (hz, ())) (hk0 : h.kd t0 = 8) {H : Heap} {locs : List Loc} {cells slots : Nat} (w : Wo D cs A s h0 h H locs cells slots) {ls : Array Slot} (hl : lv_has ls 8 [(0, .ref t0), (2, .int x2), (3, .int x3), (4, .int x4), (5, .long x5), (7, va_rf x7)]) : W p l e { frames := 6, cells := mc, slots := ms, locals := 200 } s m args below meth c H locs cells slots (MQ below (Zv D cs A hz) args s mc ms A) (F0 m 42 ls [va_rf y1, va_rf y0]) := by
  obtain ⟨hx, hb, hml, hown, hts, -⟩ := id C
  unfold B_X5_put_42 at hJ
  refine lv_dup hx hb dX5_put_42 (rf_cat _) ?_
  refine lv_iload_n hx hb dX5_put_43 rfl (lv_at hl 1 rfl) ?_
  refine lv_iload_n hx hb dX5_put_44 rfl (lv_at hl 2 rfl) ?_
  refine lv_iload hx hb dX5_put_45 (lv_at hl 3 rfl) ?_
  refine lv_lload hx hb dX5_put_47 (lv_at hl 4 rfl) ?_
  refine jv_aload hx hb dX5_put_49 (lv_at hl 5 rfl) ?_
  obtain ⟨a2, ea2, hka2, hJ⟩ := dr_some hJ
  rw [ea2] at hl
  rw [ea2]
  refine fg_601 C w hka2 tw_3_155 dX5_put_51 ?_
  obtain ⟨a3, ea3, hka3, hJ⟩ := dr_some hJ
  rw [ea3]
  obtain ⟨⟨h4, r5⟩, e6, hJ⟩ := ob_some hJ
  refine jc_I (As := [.int x2, .int x3, .int x4, .long x5, va_rf (h.fr 601 a2)]) C w (cc_X4_init N a3 h x2 x3 x4 x5 (h.fr 601 a2) hka3 e6) (mo_X4_init N a3 h x2 x3 x4 x5 (h.fr 601 a2) e6) (mb_X5_put_57 N t0 _ _ _ hJ) hz2 tw_5_12 tw_5_10 tw_5_11 tw_1_31 rfl cd_X4_init ⟨by decide, by decide⟩ hl.1 (by first | exact Nat.le_of_ble_eq_true rfl | simp [rf_cat, cat_i, cat_l, cat_r]) rfl dX5_put_54 (fun H locs w1 => ?_)
  have hk7 := kd_keep w (mo_X4_init N a3 h x2 x3 x4 x5 (h.fr 601 a2) e6) hk0 (by decide)
  have w := w1
  exact sb_X5_put_57 C hz2 N t0 _ _ _ hJ hk7 w (lv_sub (l' := [(0, .ref t0)]) hl [0] rfl)
def B_X5_put_37 (N : Nat) (t0 : Nat) (h : Hp) (x2 : Int32) (x3 : Int32) (x4 : Int32) (x5 : Int64) (x7 : Option Nat) : Option (Hp × Unit) := B_X5_put_42 N t0 (h.new 7 0 5) x2 x3 x4 x5 x7 x7 (some h.nx)
theorem mb_X5_put_37 (N : Nat) (t0 : Nat) (h : Hp) (x2 : Int32) (x3 : Int32) (x4 : Int32) (x5 : Int64) (x7 : Option Nat) (hJ : B_X5_put_37 N t0 h x2 x3 x4 x5 x7 = some (hz, ())) : Mo h hz := by
  unfold B_X5_put_37 at hJ
  exact (Mo.new h _ _ _).tr (mb_X5_put_42 N t0 _ _ _ _ _ _ _ _ hJ)
set_option maxRecDepth 100000 in
set_option maxHeartbeats 4000000 in
theorem sb_X5_put_37 (C : Cx p s m args meth c cX5_put 8 none RX5 D cs A h0.se) (hz2 : hz.nx ≤ h0.nx + mc ∧ hz.su ≤ h0.su + ms) (N : Nat) (t0 : Nat) (h : Hp) (x2 : Int32) (x3 : Int32) (x4 : Int32) (x5 : Int64) (x7 : Option Nat) (hJ : B_X5_put_37 N t0 h x2 x3 x4 x5 x7 = some (hz, ())) (hk0 : h.kd t0 = 8) {H : Heap} {locs : List Loc} {cells slots : Nat} (w : Wo D cs A s h0 h H locs cells slots) {ls : Array Slot} (hl : lv_has ls 8 [(0, .ref t0), (2, .int x2), (3, .int x3), (4, .int x4), (5, .long x5), (7, va_rf x7)]) : W p l e { frames := 6, cells := mc, slots := ms, locals := 200 } s m args below meth c H locs cells slots (MQ below (Zv D cs A hz) args s mc ms A) (F0 m 37 ls []) := by
  obtain ⟨hx, hb, hml, hown, hts, -⟩ := id C
  unfold B_X5_put_37 at hJ
  refine jv_aload hx hb dX5_put_37 (lv_at hl 5 rfl) ?_
  have w0 := w
  refine fn_7 C w (mb_X5_put_42 N t0 _ _ _ _ _ _ _ _ hJ) hz2 tw_5_8 dX5_put_39 (fun H w => ?_)
  have hk8 := kd_new (k := 7) (n := 0) (sl := 5) w0 hk0 (by decide)
  exact sb_X5_put_42 C hz2 N t0 _ _ _ _ _ _ _ _ hJ hk8 w hl
def B_X5_put_32 (N : Nat) (t0 : Nat) (h : Hp) (x2 : Int32) (x3 : Int32) (x4 : Int32) (x5 : Int64) (x7 : Option Nat) (y0 : Option Nat) (y1 : Int32) : Option (Hp × Unit) := dr h 2 y0 (fun a9 => (J_Jx4a65c_add_7a177 N a9 h y1 x7).bind (fun z => B_X5_put_37 N t0 z.1 x2 x3 x4 x5 x7))
theorem mb_X5_put_32 (N : Nat) (t0 : Nat) (h : Hp) (x2 : Int32) (x3 : Int32) (x4 : Int32) (x5 : Int64) (x7 : Option Nat) (y0 : Option Nat) (y1 : Int32) (hJ : B_X5_put_32 N t0 h x2 x3 x4 x5 x7 y0 y1 = some (hz, ())) : Mo h hz := by
  unfold B_X5_put_32 at hJ
  obtain ⟨a9, ea9, -, hJ⟩ := dr_some hJ
  obtain ⟨⟨h10, r11⟩, e12, hJ⟩ := ob_some hJ
  exact (mo_Jx4a65c_add_7a177 N a9 h y1 x7 e12).tr (mb_X5_put_37 N t0 _ _ _ _ _ _ hJ)
set_option maxRecDepth 100000 in
set_option maxHeartbeats 4000000 in
theorem sb_X5_put_32 (C : Cx p s m args meth c cX5_put 8 none RX5 D cs A h0.se) (hz2 : hz.nx ≤ h0.nx + mc ∧ hz.su ≤ h0.su + ms) (N : Nat) (t0 : Nat) (h : Hp) (x2 : Int32) (x3 : Int32) (x4 : Int32) (x5 : Int64) (x7 : Option Nat) (y0 : Option Nat) (y1 : Int32) (hJ : B_X5_put_32 N t0 h x2 x3 x4 x5 x7 y0 y1 = some (hz, ())) (hk0 : h.kd t0 = 8) {H : Heap} {locs : List Loc} {cells slots : Nat} (w : Wo D cs A s h0 h H locs cells slots) {ls : Array Slot} (hl : lv_has ls 8 [(0, .ref t0), (2, .int x2), (3, .int x3), (4, .int x4), (5, .long x5), (7, va_rf x7)]) : W p l e { frames := 6, cells := mc, slots := ms, locals := 200 } s m args below meth c H locs cells slots (MQ below (Zv D cs A hz) args s mc ms A) (F0 m 32 ls [.int y1, va_rf y0]) := by
  obtain ⟨hx, hb, hml, hown, hts, -⟩ := id C
  unfold B_X5_put_32 at hJ
  refine jv_aload hx hb dX5_put_32 (lv_at hl 5 rfl) ?_
  obtain ⟨a9, ea9, hka9, hJ⟩ := dr_some hJ
  rw [ea9]
  obtain ⟨⟨h10, r11⟩, e12, hJ⟩ := ob_some hJ
  refine jc_Vv (As := [.int y1, va_rf x7]) C w (cc_Jx4a65c_add_7a177 N a9 h y1 x7 hka9 e12) (mo_Jx4a65c_add_7a177 N a9 h y1 x7 e12) (mb_X5_put_37 N t0 _ _ _ _ _ _ hJ) hz2 hka9 (by decide) rfl (fs := fs2 h a9) rfl rfl ⟨tw_3_165, tw_3_162, tw_3_163, tw_3_164, tw_1_5⟩ cd_Jx4a65c_add_7a177 ⟨by decide, by decide⟩ hl.1 (by first | exact Nat.le_of_ble_eq_true rfl | simp [rf_cat, cat_i, cat_l, cat_r]) rfl dX5_put_34 (fun H locs w1 => ?_)
  have hk13 := kd_keep w (mo_Jx4a65c_add_7a177 N a9 h y1 x7 e12) hk0 (by decide)
  have w := w1
  exact sb_X5_put_37 C hz2 N t0 _ _ _ _ _ _ hJ hk13 w hl
def B_X5_put_20 (N : Nat) (t0 : Nat) (h : Hp) (x1 : Int32) (x2 : Int32) (x3 : Int32) (x4 : Int32) (x5 : Int64) (y0 : Option Nat) : Option (Hp × Unit) := (J_X5_indexFrom N t0 h x1.toInt64).bind (fun z => B_X5_put_32 N t0 z.1 x2 x3 x4 x5 y0 (h.fr 800 t0) z.2)
theorem mb_X5_put_20 (N : Nat) (t0 : Nat) (h : Hp) (x1 : Int32) (x2 : Int32) (x3 : Int32) (x4 : Int32) (x5 : Int64) (y0 : Option Nat) (hJ : B_X5_put_20 N t0 h x1 x2 x3 x4 x5 y0 = some (hz, ())) : Mo h hz := by
  unfold B_X5_put_20 at hJ
  obtain ⟨⟨h14, r15⟩, e16, hJ⟩ := ob_some hJ
  exact (mo_X5_indexFrom N t0 h x1.toInt64 e16).tr (mb_X5_put_32 N t0 _ _ _ _ _ _ _ _ hJ)
set_option maxRecDepth 100000 in
set_option maxHeartbeats 4000000 in
theorem sb_X5_put_20 (C : Cx p s m args meth c cX5_put 8 none RX5 D cs A h0.se) (hz2 : hz.nx ≤ h0.nx + mc ∧ hz.su ≤ h0.su + ms) (N : Nat) (t0 : Nat) (h : Hp) (x1 : Int32) (x2 : Int32) (x3 : Int32) (x4 : Int32) (x5 : Int64) (y0 : Option Nat) (hJ : B_X5_put_20 N t0 h x1 x2 x3 x4 x5 y0 = some (hz, ())) (hk0 : h.kd t0 = 8) {H : Heap} {locs : List Loc} {cells slots : Nat} (w : Wo D cs A s h0 h H locs cells slots) {ls : Array Slot} (hl : lv_has ls 8 [(0, .ref t0), (1, .int x1), (2, .int x2), (3, .int x3), (4, .int x4), (5, .long x5)]) : W p l e { frames := 6, cells := mc, slots := ms, locals := 200 } s m args below meth c H locs cells slots (MQ below (Zv D cs A hz) args s mc ms A) (F0 m 20 ls [va_rf y0]) := by
  obtain ⟨hx, hb, hml, hown, hts, -⟩ := id C
  unfold B_X5_put_20 at hJ
  refine jv_astore (i := 7) (lv' := [(7, va_rf y0), (0, .ref t0), (1, .int x1), (2, .int x2), (3, .int x3), (4, .int x4), (5, .long x5)]) hx hb dX5_put_20 hl (by decide) rfl (fun ls hl => ?_)
  refine lv_aload_n hx hb dX5_put_22 rfl (lv_at hl 1 rfl) ?_
  refine fg_800 C w hk0 tw_1_75 dX5_put_23 ?_
  refine lv_aload_n hx hb dX5_put_26 rfl (lv_at hl 1 rfl) ?_
  refine lv_iload_n hx hb dX5_put_27 rfl (lv_at hl 2 rfl) ?_
  refine lv_i2l hx hb dX5_put_28 rfl ?_
  obtain ⟨⟨h14, r15⟩, e16, hJ⟩ := ob_some hJ
  refine jc_Vi (As := [.long x1.toInt64]) C w (cc_X5_indexFrom N t0 h x1.toInt64 hk0 e16) (mo_X5_indexFrom N t0 h x1.toInt64 e16) (mb_X5_put_32 N t0 _ _ _ _ _ _ _ _ hJ) hz2 hk0 (by decide) rfl (fs := fs8 h t0) rfl rfl ⟨tw_2_206, tw_2_203, tw_2_204, tw_2_205, tw_1_2⟩ cd_X5_indexFrom ⟨by decide, by decide⟩ hl.1 (by first | exact Nat.le_of_ble_eq_true rfl | simp [rf_cat, cat_i, cat_l, cat_r]) rfl dX5_put_29 (fun H locs w1 => ?_)
  have hk17 := kd_keep w (mo_X5_indexFrom N t0 h x1.toInt64 e16) hk0 (by decide)
  have w := w1
  exact sb_X5_put_32 C hz2 N t0 _ _ _ _ _ _ _ _ hJ hk17 w (lv_sub (l' := [(0, .ref t0), (2, .int x2), (3, .int x3), (4, .int x4), (5, .long x5), (7, va_rf y0)]) hl [1, 3, 4, 5, 6, 0] rfl)
def B_X5_put_15 (N : Nat) (t0 : Nat) (h : Hp) (x1 : Int32) (x2 : Int32) (x3 : Int32) (x4 : Int32) (x5 : Int64) (y0 : Option Nat) : Option (Hp × Unit) := dr h 6 y0 (fun a18 => (J_X3_init N a18 h x1).bind (fun z => B_X5_put_20 N t0 z.1 x1 x2 x3 x4 x5 (some a18)))
theorem mb_X5_put_15 (N : Nat) (t0 : Nat) (h : Hp) (x1 : Int32) (x2 : Int32) (x3 : Int32) (x4 : Int32) (x5 : Int64) (y0 : Option Nat) (hJ : B_X5_put_15 N t0 h x1 x2 x3 x4 x5 y0 = some (hz, ())) : Mo h hz := by
  unfold B_X5_put_15 at hJ
  obtain ⟨a18, ea18, -, hJ⟩ := dr_some hJ
  obtain ⟨⟨h19, r20⟩, e21, hJ⟩ := ob_some hJ
  exact (mo_X3_init N a18 h x1 e21).tr (mb_X5_put_20 N t0 _ _ _ _ _ _ _ hJ)
set_option maxRecDepth 100000 in
set_option maxHeartbeats 4000000 in
theorem sb_X5_put_15 (C : Cx p s m args meth c cX5_put 8 none RX5 D cs A h0.se) (hz2 : hz.nx ≤ h0.nx + mc ∧ hz.su ≤ h0.su + ms) (N : Nat) (t0 : Nat) (h : Hp) (x1 : Int32) (x2 : Int32) (x3 : Int32) (x4 : Int32) (x5 : Int64) (y0 : Option Nat) (hJ : B_X5_put_15 N t0 h x1 x2 x3 x4 x5 y0 = some (hz, ())) (hk0 : h.kd t0 = 8) {H : Heap} {locs : List Loc} {cells slots : Nat} (w : Wo D cs A s h0 h H locs cells slots) {ls : Array Slot} (hl : lv_has ls 8 [(0, .ref t0), (1, .int x1), (2, .int x2), (3, .int x3), (4, .int x4), (5, .long x5)]) : W p l e { frames := 6, cells := mc, slots := ms, locals := 200 } s m args below meth c H locs cells slots (MQ below (Zv D cs A hz) args s mc ms A) (F0 m 15 ls [va_rf y0]) := by
  obtain ⟨hx, hb, hml, hown, hts, -⟩ := id C
  unfold B_X5_put_15 at hJ
  refine lv_dup hx hb dX5_put_15 (rf_cat _) ?_
  refine lv_iload_n hx hb dX5_put_16 rfl (lv_at hl 1 rfl) ?_
  obtain ⟨a18, ea18, hka18, hJ⟩ := dr_some hJ
  rw [ea18]
  obtain ⟨⟨h19, r20⟩, e21, hJ⟩ := ob_some hJ
  refine jc_I (As := [.int x1]) C w (cc_X3_init N a18 h x1 hka18 e21) (mo_X3_init N a18 h x1 e21) (mb_X5_put_20 N t0 _ _ _ _ _ _ _ hJ) hz2 tw_3_145 tw_3_143 tw_3_144 tw_1_22 rfl cd_X3_init ⟨by decide, by decide⟩ hl.1 (by first | exact Nat.le_of_ble_eq_true rfl | simp [rf_cat, cat_i, cat_l, cat_r]) rfl dX5_put_17 (fun H locs w1 => ?_)
  have hk22 := kd_keep w (mo_X3_init N a18 h x1 e21) hk0 (by decide)
  have w := w1
  exact sb_X5_put_20 C hz2 N t0 _ _ _ _ _ _ _ hJ hk22 w hl
def B_X5_put_5 (N : Nat) (t0 : Nat) (h : Hp) (x1 : Int32) (x2 : Int32) (x3 : Int32) (x4 : Int32) (x5 : Int64) (y0 : Option Nat) : Option (Hp × Unit) := nl y0 (B_X5_put_15 N t0 (h.new 6 0 2) x1 x2 x3 x4 x5 (some h.nx)) (fun a23 => B_X5_put_37 N t0 h x2 x3 x4 x5 (some a23))
theorem mb_X5_put_5 (N : Nat) (t0 : Nat) (h : Hp) (x1 : Int32) (x2 : Int32) (x3 : Int32) (x4 : Int32) (x5 : Int64) (y0 : Option Nat) (hJ : B_X5_put_5 N t0 h x1 x2 x3 x4 x5 y0 = some (hz, ())) : Mo h hz := by
  unfold B_X5_put_5 at hJ
  cases ea23 : y0 with
  | none =>
    have hJ := nl_none ea23 hJ
    exact (Mo.new h _ _ _).tr (mb_X5_put_15 N t0 _ _ _ _ _ _ _ hJ)
  | some a23 =>
    have hJ := nl_some ea23 hJ
    exact mb_X5_put_37 N t0 _ _ _ _ _ _ hJ
set_option maxRecDepth 100000 in
set_option maxHeartbeats 4000000 in
theorem sb_X5_put_5 (C : Cx p s m args meth c cX5_put 8 none RX5 D cs A h0.se) (hz2 : hz.nx ≤ h0.nx + mc ∧ hz.su ≤ h0.su + ms) (N : Nat) (t0 : Nat) (h : Hp) (x1 : Int32) (x2 : Int32) (x3 : Int32) (x4 : Int32) (x5 : Int64) (y0 : Option Nat) (hJ : B_X5_put_5 N t0 h x1 x2 x3 x4 x5 y0 = some (hz, ())) (hk0 : h.kd t0 = 8) {H : Heap} {locs : List Loc} {cells slots : Nat} (w : Wo D cs A s h0 h H locs cells slots) {ls : Array Slot} (hl : lv_has ls 8 [(0, .ref t0), (1, .int x1), (2, .int x2), (3, .int x3), (4, .int x4), (5, .long x5)]) : W p l e { frames := 6, cells := mc, slots := ms, locals := 200 } s m args below meth c H locs cells slots (MQ below (Zv D cs A hz) args s mc ms A) (F0 m 5 ls [va_rf y0]) := by
  obtain ⟨hx, hb, hml, hown, hts, -⟩ := id C
  unfold B_X5_put_5 at hJ
  refine jv_astore (i := 7) (lv' := [(7, va_rf y0), (0, .ref t0), (1, .int x1), (2, .int x2), (3, .int x3), (4, .int x4), (5, .long x5)]) hx hb dX5_put_5 hl (by decide) rfl (fun ls hl => ?_)
  refine jv_aload hx hb dX5_put_7 (lv_at hl 0 rfl) ?_
  refine jv_ifnonnull (tgt := 37) hx hb dX5_put_9 (by decide) (fun a23 ea23 => ?_) (fun ea23 => ?_)
  · have hJ := nl_some ea23 hJ
    rw [ea23] at hl
    exact sb_X5_put_37 C hz2 N t0 _ _ _ _ _ _ hJ hk0 w (lv_sub (l' := [(0, .ref t0), (2, .int x2), (3, .int x3), (4, .int x4), (5, .long x5), (7, .ref a23)]) hl [1, 3, 4, 5, 6, 0] rfl)
  · have hJ := nl_none ea23 hJ
    have w0 := w
    refine fn_6 C w (mb_X5_put_15 N t0 _ _ _ _ _ _ _ hJ) hz2 tw_2_208 dX5_put_12 (fun H w => ?_)
    have hk24 := kd_new (k := 6) (n := 0) (sl := 2) w0 hk0 (by decide)
    exact sb_X5_put_15 C hz2 N t0 _ _ _ _ _ _ _ hJ hk24 w (lv_sub (l' := [(0, .ref t0), (1, .int x1), (2, .int x2), (3, .int x3), (4, .int x4), (5, .long x5)]) hl [1, 2, 3, 4, 5, 6] rfl)
def B_X5_put_0 (N : Nat) (t0 : Nat) (h : Hp) (x1 : Int32) (x2 : Int32) (x3 : Int32) (x4 : Int32) (x5 : Int64) : Option (Hp × Unit) := (J_X5_find N t0 h x1).bind (fun z => B_X5_put_5 N t0 z.1 x1 x2 x3 x4 x5 z.2)
theorem mb_X5_put_0 (N : Nat) (t0 : Nat) (h : Hp) (x1 : Int32) (x2 : Int32) (x3 : Int32) (x4 : Int32) (x5 : Int64) (hJ : B_X5_put_0 N t0 h x1 x2 x3 x4 x5 = some (hz, ())) : Mo h hz := by
  unfold B_X5_put_0 at hJ
  obtain ⟨⟨h25, r26⟩, e27, hJ⟩ := ob_some hJ
  exact (mo_X5_find N t0 h x1 e27).tr (mb_X5_put_5 N t0 _ _ _ _ _ _ _ hJ)
set_option maxRecDepth 100000 in
set_option maxHeartbeats 4000000 in
theorem sb_X5_put_0 (C : Cx p s m args meth c cX5_put 8 none RX5 D cs A h0.se) (hz2 : hz.nx ≤ h0.nx + mc ∧ hz.su ≤ h0.su + ms) (N : Nat) (t0 : Nat) (h : Hp) (x1 : Int32) (x2 : Int32) (x3 : Int32) (x4 : Int32) (x5 : Int64) (hJ : B_X5_put_0 N t0 h x1 x2 x3 x4 x5 = some (hz, ())) (hk0 : h.kd t0 = 8) {H : Heap} {locs : List Loc} {cells slots : Nat} (w : Wo D cs A s h0 h H locs cells slots) {ls : Array Slot} (hl : lv_has ls 8 [(0, .ref t0), (1, .int x1), (2, .int x2), (3, .int x3), (4, .int x4), (5, .long x5)]) : W p l e { frames := 6, cells := mc, slots := ms, locals := 200 } s m args below meth c H locs cells slots (MQ below (Zv D cs A hz) args s mc ms A) (F0 m 0 ls []) := by
  obtain ⟨hx, hb, hml, hown, hts, -⟩ := id C
  unfold B_X5_put_0 at hJ
  refine lv_aload_n hx hb dX5_put_0 rfl (lv_at hl 0 rfl) ?_
  refine lv_iload_n hx hb dX5_put_1 rfl (lv_at hl 1 rfl) ?_
  obtain ⟨⟨h25, r26⟩, e27, hJ⟩ := ob_some hJ
  refine jc_Vq (As := [.int x1]) C w (cc_X5_find N t0 h x1 hk0 e27) (mo_X5_find N t0 h x1 e27) (mb_X5_put_5 N t0 _ _ _ _ _ _ _ hJ) hz2 hk0 (by decide) rfl (fs := fs8 h t0) rfl rfl ⟨tw_2_202, tw_3_141, tw_2_200, tw_2_201, tw_1_2⟩ cd_X5_find ⟨by decide, by decide⟩ hl.1 (by first | exact Nat.le_of_ble_eq_true rfl | simp [rf_cat, cat_i, cat_l, cat_r]) rfl dX5_put_2 (fun H locs w1 => ?_)
  have hk28 := kd_keep w (mo_X5_find N t0 h x1 e27) hk0 (by decide)
  have w := w1
  exact sb_X5_put_5 C hz2 N t0 _ _ _ _ _ _ _ hJ hk28 w hl
def J_X5_put (N : Nat) (t0 : Nat) (h : Hp) (x1 : Int32) (x2 : Int32) (x3 : Int32) (x4 : Int32) (x5 : Int64) : Option (Hp × Unit) := B_X5_put_0 N t0 h x1 x2 x3 x4 x5
theorem mo_X5_put (N : Nat) (t0 : Nat) (h : Hp) (x1 : Int32) (x2 : Int32) (x3 : Int32) (x4 : Int32) (x5 : Int64) (hJ : J_X5_put N t0 h x1 x2 x3 x4 x5 = some (hz, ())) : Mo h hz := mb_X5_put_0 N t0 h x1 x2 x3 x4 x5 hJ
theorem cd_X5_put : Cd yX5_put 5 := ⟨by decide +kernel, by decide +kernel, by decide +kernel⟩
theorem cc_X5_put (N : Nat) (t0 : Nat) (h : Hp) (x1 : Int32) (x2 : Int32) (x3 : Int32) (x4 : Int32) (x5 : Int64) (hk0 : h.kd t0 = 8) (hJ : J_X5_put N t0 h x1 x2 x3 x4 x5 = some (hz, ())) : Cv l yX5_put cX5_put 8 none 6 200 D cs h hz [.ref t0, .int x1, .int x2, .int x3, .int x4, .long x5] := by
  intro mc ms g1 g2
  refine je_any (by decide) (by simp [lg_sl, rf_cat, cat_i, cat_l, cat_r]) ?_
  intro p e s m args below meth c C hin2 w ls hl
  have hl : lv_has ls 8 [(0, .ref t0), (1, .int x1), (2, .int x2), (3, .int x3), (4, .int x4), (5, .long x5)] := hl
  exact sb_X5_put_0 C ⟨g1, g2⟩ N t0 h x1 x2 x3 x4 x5 hJ hk0 w hl
end G_X5_put
section G_X5_dropAfter
variable {p : Program} {l : Launch} {e : Env} {s : State} {m : MethodId} {args : Array Value} {below : List Frame} {meth : Method} {c : Code} {D : va_G} {cs : C4} {A : Nat → Prop} {h0 hz : Hp} {mc ms : Nat}
def B_X5_dropAfter_47 (N : Nat) (k10 : Hp → Int32 → Int32 → Option (Hp × Unit)) (t0 : Nat) (h : Hp) (x1 : Int32) (x2 : Int32) : Option (Hp × Unit) := k10 h x1 (x2 + (-1 : Int32))
theorem mb_X5_dropAfter_47 (N : Nat) (k10 : Hp → Int32 → Int32 → Option (Hp × Unit)) (t0 : Nat) (h : Hp) (x1 : Int32) (x2 : Int32) (m10 : ∀ (h : Hp) (x1 : Int32) (x2 : Int32), k10 h x1 x2 = some (hz, ()) → Mo h hz) (hJ : B_X5_dropAfter_47 N k10 t0 h x1 x2 = some (hz, ())) : Mo h hz := by
  unfold B_X5_dropAfter_47 at hJ
  exact m10 _ _ _ hJ
set_option maxRecDepth 100000 in
set_option maxHeartbeats 4000000 in
theorem sb_X5_dropAfter_47 (C : Cx p s m args meth c cX5_dropAfter 4 none RX5 D cs A h0.se) (hz2 : hz.nx ≤ h0.nx + mc ∧ hz.su ≤ h0.su + ms) (N : Nat) (k10 : Hp → Int32 → Int32 → Option (Hp × Unit)) (t0 : Nat) (m10 : ∀ (h : Hp) (x1 : Int32) (x2 : Int32), k10 h x1 x2 = some (hz, ()) → Mo h hz) (i10 : ∀ (h : Hp) (x1 : Int32) (x2 : Int32) (H : Heap) (locs : List Loc) (cells slots : Nat) (ls : Array Slot), k10 h x1 x2 = some (hz, ()) → h.kd t0 = 8 → Wo D cs A s h0 h H locs cells slots → lv_has ls 4 [(0, .ref t0), (1, .int x1), (2, .int x2)] → W p l e { frames := 3, cells := mc, slots := ms, locals := 120 } s m args below meth c H locs cells slots (MQ below (Zv D cs A hz) args s mc ms A) (F0 m 10 ls [])) (h : Hp) (x1 : Int32) (x2 : Int32) (hJ : B_X5_dropAfter_47 N k10 t0 h x1 x2 = some (hz, ())) (hk0 : h.kd t0 = 8) {H : Heap} {locs : List Loc} {cells slots : Nat} (w : Wo D cs A s h0 h H locs cells slots) {ls : Array Slot} (hl : lv_has ls 4 [(0, .ref t0), (1, .int x1), (2, .int x2)]) : W p l e { frames := 3, cells := mc, slots := ms, locals := 120 } s m args below meth c H locs cells slots (MQ below (Zv D cs A hz) args s mc ms A) (F0 m 47 ls []) := by
  obtain ⟨hx, hb, hml, hown, hts, -⟩ := id C
  unfold B_X5_dropAfter_47 at hJ
  refine lv_iinc (v := x2 + (-1 : Int32)) (lv' := [(2, .int (x2 + (-1 : Int32))), (0, .ref t0), (1, .int x1)]) hx hb dX5_dropAfter_47 hl (k := 2) rfl rfl (by decide) rfl (fun ls hl => ?_)
  refine lv_goto (tgt := 10) hx hb dX5_dropAfter_50 (by decide) ?_
  exact i10 _ _ _ _ _ _ _ _ hJ hk0 w (lv_sub (l' := [(0, .ref t0), (1, .int x1), (2, .int (x2 + (-1 : Int32)))]) hl [1, 2, 0] rfl)
def B_X5_dropAfter_46 (N : Nat) (k10 : Hp → Int32 → Int32 → Option (Hp × Unit)) (t0 : Nat) (h : Hp) (x1 : Int32) (x2 : Int32) (y0 : Option Nat) : Option (Hp × Unit) := B_X5_dropAfter_47 N k10 t0 h x1 x2
theorem mb_X5_dropAfter_46 (N : Nat) (k10 : Hp → Int32 → Int32 → Option (Hp × Unit)) (t0 : Nat) (h : Hp) (x1 : Int32) (x2 : Int32) (y0 : Option Nat) (m10 : ∀ (h : Hp) (x1 : Int32) (x2 : Int32), k10 h x1 x2 = some (hz, ()) → Mo h hz) (hJ : B_X5_dropAfter_46 N k10 t0 h x1 x2 y0 = some (hz, ())) : Mo h hz := by
  unfold B_X5_dropAfter_46 at hJ
  exact mb_X5_dropAfter_47 N k10 t0 _ _ _ m10 hJ
set_option maxRecDepth 100000 in
set_option maxHeartbeats 4000000 in
theorem sb_X5_dropAfter_46 (C : Cx p s m args meth c cX5_dropAfter 4 none RX5 D cs A h0.se) (hz2 : hz.nx ≤ h0.nx + mc ∧ hz.su ≤ h0.su + ms) (N : Nat) (k10 : Hp → Int32 → Int32 → Option (Hp × Unit)) (t0 : Nat) (m10 : ∀ (h : Hp) (x1 : Int32) (x2 : Int32), k10 h x1 x2 = some (hz, ()) → Mo h hz) (i10 : ∀ (h : Hp) (x1 : Int32) (x2 : Int32) (H : Heap) (locs : List Loc) (cells slots : Nat) (ls : Array Slot), k10 h x1 x2 = some (hz, ()) → h.kd t0 = 8 → Wo D cs A s h0 h H locs cells slots → lv_has ls 4 [(0, .ref t0), (1, .int x1), (2, .int x2)] → W p l e { frames := 3, cells := mc, slots := ms, locals := 120 } s m args below meth c H locs cells slots (MQ below (Zv D cs A hz) args s mc ms A) (F0 m 10 ls [])) (h : Hp) (x1 : Int32) (x2 : Int32) (y0 : Option Nat) (hJ : B_X5_dropAfter_46 N k10 t0 h x1 x2 y0 = some (hz, ())) (hk0 : h.kd t0 = 8) {H : Heap} {locs : List Loc} {cells slots : Nat} (w : Wo D cs A s h0 h H locs cells slots) {ls : Array Slot} (hl : lv_has ls 4 [(0, .ref t0), (1, .int x1), (2, .int x2)]) : W p l e { frames := 3, cells := mc, slots := ms, locals := 120 } s m args below meth c H locs cells slots (MQ below (Zv D cs A hz) args s mc ms A) (F0 m 46 ls [va_rf y0]) := by
  obtain ⟨hx, hb, hml, hown, hts, -⟩ := id C
  unfold B_X5_dropAfter_46 at hJ
  refine lv_pop hx hb dX5_dropAfter_46 (rf_cat _) ?_
  exact sb_X5_dropAfter_47 C hz2 N k10 t0 m10 i10 _ _ _ hJ hk0 w hl
def B_X5_dropAfter_31 (N : Nat) (k10 : Hp → Int32 → Int32 → Option (Hp × Unit)) (t0 : Nat) (h : Hp) (x1 : Int32) (x2 : Int32) (x3 : Option Nat) : Option (Hp × Unit) := dr h 6 x3 (fun a1 => nl (h.fr 601 a1) (dr h 2 (h.fr 800 t0) (fun a3 => (J_Jx4a65c_remove_915e3 N a3 h x2).bind (fun z => B_X5_dropAfter_46 N k10 t0 z.1 x1 x2 z.2))) (fun a2 => B_X5_dropAfter_47 N k10 t0 h x1 x2))
theorem mb_X5_dropAfter_31 (N : Nat) (k10 : Hp → Int32 → Int32 → Option (Hp × Unit)) (t0 : Nat) (h : Hp) (x1 : Int32) (x2 : Int32) (x3 : Option Nat) (m10 : ∀ (h : Hp) (x1 : Int32) (x2 : Int32), k10 h x1 x2 = some (hz, ()) → Mo h hz) (hJ : B_X5_dropAfter_31 N k10 t0 h x1 x2 x3 = some (hz, ())) : Mo h hz := by
  unfold B_X5_dropAfter_31 at hJ
  obtain ⟨a1, ea1, -, hJ⟩ := dr_some hJ
  cases ea2 : (h.fr 601 a1) with
  | none =>
    have hJ := nl_none ea2 hJ
    obtain ⟨a3, ea3, -, hJ⟩ := dr_some hJ
    obtain ⟨⟨h4, r5⟩, e6, hJ⟩ := ob_some hJ
    exact (mo_Jx4a65c_remove_915e3 N a3 h x2 e6).tr (mb_X5_dropAfter_46 N k10 t0 _ _ _ _ m10 hJ)
  | some a2 =>
    have hJ := nl_some ea2 hJ
    exact mb_X5_dropAfter_47 N k10 t0 _ _ _ m10 hJ
set_option maxRecDepth 100000 in
set_option maxHeartbeats 4000000 in
theorem sb_X5_dropAfter_31 (C : Cx p s m args meth c cX5_dropAfter 4 none RX5 D cs A h0.se) (hz2 : hz.nx ≤ h0.nx + mc ∧ hz.su ≤ h0.su + ms) (N : Nat) (k10 : Hp → Int32 → Int32 → Option (Hp × Unit)) (t0 : Nat) (m10 : ∀ (h : Hp) (x1 : Int32) (x2 : Int32), k10 h x1 x2 = some (hz, ()) → Mo h hz) (i10 : ∀ (h : Hp) (x1 : Int32) (x2 : Int32) (H : Heap) (locs : List Loc) (cells slots : Nat) (ls : Array Slot), k10 h x1 x2 = some (hz, ()) → h.kd t0 = 8 → Wo D cs A s h0 h H locs cells slots → lv_has ls 4 [(0, .ref t0), (1, .int x1), (2, .int x2)] → W p l e { frames := 3, cells := mc, slots := ms, locals := 120 } s m args below meth c H locs cells slots (MQ below (Zv D cs A hz) args s mc ms A) (F0 m 10 ls [])) (h : Hp) (x1 : Int32) (x2 : Int32) (x3 : Option Nat) (hJ : B_X5_dropAfter_31 N k10 t0 h x1 x2 x3 = some (hz, ())) (hk0 : h.kd t0 = 8) {H : Heap} {locs : List Loc} {cells slots : Nat} (w : Wo D cs A s h0 h H locs cells slots) {ls : Array Slot} (hl : lv_has ls 4 [(0, .ref t0), (1, .int x1), (2, .int x2), (3, va_rf x3)]) : W p l e { frames := 3, cells := mc, slots := ms, locals := 120 } s m args below meth c H locs cells slots (MQ below (Zv D cs A hz) args s mc ms A) (F0 m 31 ls []) := by
  obtain ⟨hx, hb, hml, hown, hts, -⟩ := id C
  unfold B_X5_dropAfter_31 at hJ
  refine jv_aload_n hx hb dX5_dropAfter_31 rfl (lv_at hl 3 rfl) ?_
  obtain ⟨a1, ea1, hka1, hJ⟩ := dr_some hJ
  rw [ea1] at hl
  rw [ea1]
  refine fg_601 C w hka1 tw_3_155 dX5_dropAfter_32 ?_
  refine jv_ifnonnull (tgt := 47) hx hb dX5_dropAfter_35 (by decide) (fun a2 ea2 => ?_) (fun ea2 => ?_)
  · have hJ := nl_some ea2 hJ
    exact sb_X5_dropAfter_47 C hz2 N k10 t0 m10 i10 _ _ _ hJ hk0 w (lv_sub (l' := [(0, .ref t0), (1, .int x1), (2, .int x2)]) hl [0, 1, 2] rfl)
  · have hJ := nl_none ea2 hJ
    refine lv_aload_n hx hb dX5_dropAfter_38 rfl (lv_at hl 0 rfl) ?_
    refine fg_800 C w hk0 tw_1_75 dX5_dropAfter_39 ?_
    refine lv_iload_n hx hb dX5_dropAfter_42 rfl (lv_at hl 2 rfl) ?_
    obtain ⟨a3, ea3, hka3, hJ⟩ := dr_some hJ
    rw [ea3]
    obtain ⟨⟨h4, r5⟩, e6, hJ⟩ := ob_some hJ
    refine jc_Vq (As := [.int x2]) C w (cc_Jx4a65c_remove_915e3 N a3 h x2 hka3 e6) (mo_Jx4a65c_remove_915e3 N a3 h x2 e6) (mb_X5_dropAfter_46 N k10 t0 _ _ _ _ m10 hJ) hz2 hka3 (by decide) rfl (fs := fs2 h a3) rfl rfl ⟨tw_5_68, tw_5_65, tw_5_66, tw_5_67, tw_1_5⟩ cd_Jx4a65c_remove_915e3 ⟨by decide, by decide⟩ hl.1 (by first | exact Nat.le_of_ble_eq_true rfl | simp [rf_cat, cat_i, cat_l, cat_r]) rfl dX5_dropAfter_43 (fun H locs w1 => ?_)
    have hk7 := kd_keep w (mo_Jx4a65c_remove_915e3 N a3 h x2 e6) hk0 (by decide)
    have w := w1
    exact sb_X5_dropAfter_46 C hz2 N k10 t0 m10 i10 _ _ _ _ hJ hk7 w (lv_sub (l' := [(0, .ref t0), (1, .int x1), (2, .int x2)]) hl [0, 1, 2] rfl)
def B_X5_dropAfter_22 (N : Nat) (k10 : Hp → Int32 → Int32 → Option (Hp × Unit)) (t0 : Nat) (h : Hp) (x1 : Int32) (x2 : Int32) (y0 : Option Nat) : Option (Hp × Unit) := dr h 6 y0 (fun a8 => (J_X3_dropAfter N a8 h x1).bind (fun z => B_X5_dropAfter_31 N k10 t0 z.1 x1 x2 (some a8)))
theorem mb_X5_dropAfter_22 (N : Nat) (k10 : Hp → Int32 → Int32 → Option (Hp × Unit)) (t0 : Nat) (h : Hp) (x1 : Int32) (x2 : Int32) (y0 : Option Nat) (m10 : ∀ (h : Hp) (x1 : Int32) (x2 : Int32), k10 h x1 x2 = some (hz, ()) → Mo h hz) (hJ : B_X5_dropAfter_22 N k10 t0 h x1 x2 y0 = some (hz, ())) : Mo h hz := by
  unfold B_X5_dropAfter_22 at hJ
  obtain ⟨a8, ea8, -, hJ⟩ := dr_some hJ
  obtain ⟨⟨h9, r10⟩, e11, hJ⟩ := ob_some hJ
  exact (mo_X3_dropAfter N a8 h x1 e11).tr (mb_X5_dropAfter_31 N k10 t0 _ _ _ _ m10 hJ)
set_option maxRecDepth 100000 in
set_option maxHeartbeats 4000000 in
theorem sb_X5_dropAfter_22 (C : Cx p s m args meth c cX5_dropAfter 4 none RX5 D cs A h0.se) (hz2 : hz.nx ≤ h0.nx + mc ∧ hz.su ≤ h0.su + ms) (N : Nat) (k10 : Hp → Int32 → Int32 → Option (Hp × Unit)) (t0 : Nat) (m10 : ∀ (h : Hp) (x1 : Int32) (x2 : Int32), k10 h x1 x2 = some (hz, ()) → Mo h hz) (i10 : ∀ (h : Hp) (x1 : Int32) (x2 : Int32) (H : Heap) (locs : List Loc) (cells slots : Nat) (ls : Array Slot), k10 h x1 x2 = some (hz, ()) → h.kd t0 = 8 → Wo D cs A s h0 h H locs cells slots → lv_has ls 4 [(0, .ref t0), (1, .int x1), (2, .int x2)] → W p l e { frames := 3, cells := mc, slots := ms, locals := 120 } s m args below meth c H locs cells slots (MQ below (Zv D cs A hz) args s mc ms A) (F0 m 10 ls [])) (h : Hp) (x1 : Int32) (x2 : Int32) (y0 : Option Nat) (hJ : B_X5_dropAfter_22 N k10 t0 h x1 x2 y0 = some (hz, ())) (hk0 : h.kd t0 = 8) {H : Heap} {locs : List Loc} {cells slots : Nat} (w : Wo D cs A s h0 h H locs cells slots) {ls : Array Slot} (hl : lv_has ls 4 [(0, .ref t0), (1, .int x1), (2, .int x2)]) : W p l e { frames := 3, cells := mc, slots := ms, locals := 120 } s m args below meth c H locs cells slots (MQ below (Zv D cs A hz) args s mc ms A) (F0 m 22 ls [va_rf y0]) := by
  obtain ⟨hx, hb, hml, hown, hts, -⟩ := id C
  unfold B_X5_dropAfter_22 at hJ
  obtain ⟨a8, ea8, hka8, hJ⟩ := dr_some hJ
  rw [ea8]
  refine va_castS hx hb hown (hts _ tw_2_208) (C.2.2.2.2.2.1.1 6 _ rfl).2 (recv_at C w hka8 (by decide) rfl (fs := fs6 h a8) rfl) dX5_dropAfter_22 ?_
  refine lv_astore_n (i := 3) (lv' := [(3, .ref a8), (0, .ref t0), (1, .int x1), (2, .int x2)]) hx hb dX5_dropAfter_25 rfl hl (by decide) rfl (fun ls hl => ?_)
  refine lv_aload_n hx hb dX5_dropAfter_26 rfl (lv_at hl 0 rfl) ?_
  refine lv_iload_n hx hb dX5_dropAfter_27 rfl (lv_at hl 2 rfl) ?_
  obtain ⟨⟨h9, r10⟩, e11, hJ⟩ := ob_some hJ
  refine jc_Vv (As := [.int x1]) C w (cc_X3_dropAfter N a8 h x1 hka8 e11) (mo_X3_dropAfter N a8 h x1 e11) (mb_X5_dropAfter_31 N k10 t0 _ _ _ _ m10 hJ) hz2 hka8 (by decide) rfl (fs := fs6 h a8) rfl rfl ⟨tw_5_63, tw_5_60, tw_5_61, tw_5_62, tw_1_22⟩ cd_X3_dropAfter ⟨by decide, by decide⟩ hl.1 (by first | exact Nat.le_of_ble_eq_true rfl | simp [rf_cat, cat_i, cat_l, cat_r]) rfl dX5_dropAfter_28 (fun H locs w1 => ?_)
  have hk12 := kd_keep w (mo_X3_dropAfter N a8 h x1 e11) hk0 (by decide)
  have w := w1
  exact sb_X5_dropAfter_31 C hz2 N k10 t0 m10 i10 _ _ _ _ hJ hk12 w (lv_sub (l' := [(0, .ref t0), (1, .int x1), (2, .int x2), (3, .ref a8)]) hl [1, 2, 3, 0] rfl)
def B_X5_dropAfter_10 (N : Nat) (k10 : Hp → Int32 → Int32 → Option (Hp × Unit)) (t0 : Nat) (h : Hp) (x1 : Int32) (x2 : Int32) : Option (Hp × Unit) := if x2 < 0 then (some (h, ())) else (dr h 2 (h.fr 800 t0) (fun a14 => (J_Jx4a65c_get_915e3 N a14 h x2).bind (fun z => B_X5_dropAfter_22 N k10 t0 z.1 x1 x2 z.2)))
theorem mb_X5_dropAfter_10 (N : Nat) (k10 : Hp → Int32 → Int32 → Option (Hp × Unit)) (t0 : Nat) (h : Hp) (x1 : Int32) (x2 : Int32) (m10 : ∀ (h : Hp) (x1 : Int32) (x2 : Int32), k10 h x1 x2 = some (hz, ()) → Mo h hz) (hJ : B_X5_dropAfter_10 N k10 t0 h x1 x2 = some (hz, ())) : Mo h hz := by
  unfold B_X5_dropAfter_10 at hJ
  by_cases c13 : x2 < 0
  · have hJ := it_pos c13 hJ
    obtain ⟨rfl, -⟩ := rs2 hJ
    exact ⟨fun _ _ => rfl, Nat.le_refl _, Nat.le_refl _, rfl, fun _ _ => rfl⟩
  · have hJ := it_neg c13 hJ
    obtain ⟨a14, ea14, -, hJ⟩ := dr_some hJ
    obtain ⟨⟨h15, r16⟩, e17, hJ⟩ := ob_some hJ
    exact (mo_Jx4a65c_get_915e3 N a14 h x2 e17).tr (mb_X5_dropAfter_22 N k10 t0 _ _ _ _ m10 hJ)
set_option maxRecDepth 100000 in
set_option maxHeartbeats 4000000 in
theorem sb_X5_dropAfter_10 (C : Cx p s m args meth c cX5_dropAfter 4 none RX5 D cs A h0.se) (hz2 : hz.nx ≤ h0.nx + mc ∧ hz.su ≤ h0.su + ms) (N : Nat) (k10 : Hp → Int32 → Int32 → Option (Hp × Unit)) (t0 : Nat) (m10 : ∀ (h : Hp) (x1 : Int32) (x2 : Int32), k10 h x1 x2 = some (hz, ()) → Mo h hz) (i10 : ∀ (h : Hp) (x1 : Int32) (x2 : Int32) (H : Heap) (locs : List Loc) (cells slots : Nat) (ls : Array Slot), k10 h x1 x2 = some (hz, ()) → h.kd t0 = 8 → Wo D cs A s h0 h H locs cells slots → lv_has ls 4 [(0, .ref t0), (1, .int x1), (2, .int x2)] → W p l e { frames := 3, cells := mc, slots := ms, locals := 120 } s m args below meth c H locs cells slots (MQ below (Zv D cs A hz) args s mc ms A) (F0 m 10 ls [])) (h : Hp) (x1 : Int32) (x2 : Int32) (hJ : B_X5_dropAfter_10 N k10 t0 h x1 x2 = some (hz, ())) (hk0 : h.kd t0 = 8) {H : Heap} {locs : List Loc} {cells slots : Nat} (w : Wo D cs A s h0 h H locs cells slots) {ls : Array Slot} (hl : lv_has ls 4 [(0, .ref t0), (1, .int x1), (2, .int x2)]) : W p l e { frames := 3, cells := mc, slots := ms, locals := 120 } s m args below meth c H locs cells slots (MQ below (Zv D cs A hz) args s mc ms A) (F0 m 10 ls []) := by
  obtain ⟨hx, hb, hml, hown, hts, -⟩ := id C
  unfold B_X5_dropAfter_10 at hJ
  refine lv_iload_n hx hb dX5_dropAfter_10 rfl (lv_at hl 2 rfl) ?_
  refine lv_if_lt (tgt := 53) hx hb dX5_dropAfter_11 (by decide) (fun c13 => ?_) (fun c13 => ?_)
  · have hJ := it_pos c13 hJ
    obtain ⟨rfl, -⟩ := rs2 hJ
    exact jr_vret C w hz2 dX5_dropAfter_53
  · have hJ := it_neg c13 hJ
    refine lv_aload_n hx hb dX5_dropAfter_14 rfl (lv_at hl 0 rfl) ?_
    refine fg_800 C w hk0 tw_1_75 dX5_dropAfter_15 ?_
    refine lv_iload_n hx hb dX5_dropAfter_18 rfl (lv_at hl 2 rfl) ?_
    obtain ⟨a14, ea14, hka14, hJ⟩ := dr_some hJ
    rw [ea14]
    obtain ⟨⟨h15, r16⟩, e17, hJ⟩ := ob_some hJ
    refine jc_Vq (As := [.int x2]) C w (cc_Jx4a65c_get_915e3 N a14 h x2 hka14 e17) (mo_Jx4a65c_get_915e3 N a14 h x2 e17) (mb_X5_dropAfter_22 N k10 t0 _ _ _ _ m10 hJ) hz2 hka14 (by decide) rfl (fs := fs2 h a14) rfl rfl ⟨tw_2_65, tw_2_207, tw_2_63, tw_2_64, tw_1_5⟩ cd_Jx4a65c_get_915e3 ⟨by decide, by decide⟩ hl.1 (by first | exact Nat.le_of_ble_eq_true rfl | simp [rf_cat, cat_i, cat_l, cat_r]) rfl dX5_dropAfter_19 (fun H locs w1 => ?_)
    have hk18 := kd_keep w (mo_Jx4a65c_get_915e3 N a14 h x2 e17) hk0 (by decide)
    have w := w1
    exact sb_X5_dropAfter_22 C hz2 N k10 t0 m10 i10 _ _ _ _ hJ hk18 w hl
def L_X5_dropAfter_10 (N : Nat) (t0 : Nat) : Nat → Hp → Int32 → Int32 → Option (Hp × Unit)
  | 0 => fun _ _ _ => none
  | n + 1 => fun h x1 x2 => B_X5_dropAfter_10 N (L_X5_dropAfter_10 N t0 n) t0 h x1 x2
theorem ml_X5_dropAfter_10 (N : Nat) (t0 : Nat) : ∀ (n : Nat) (h : Hp) (x1 : Int32) (x2 : Int32), L_X5_dropAfter_10 N t0 n h x1 x2 = some (hz, ()) → Mo h hz := by
  intro n
  induction n with
  | zero => intro h x1 x2 hJ; cases hJ
  | succ n ih => intro h x1 x2 hJ; exact mb_X5_dropAfter_10 N (L_X5_dropAfter_10 N t0 n) t0 h x1 x2 ih hJ
theorem sl_X5_dropAfter_10 (C : Cx p s m args meth c cX5_dropAfter 4 none RX5 D cs A h0.se) (hz2 : hz.nx ≤ h0.nx + mc ∧ hz.su ≤ h0.su + ms) (N : Nat) (t0 : Nat) : ∀ n : Nat, ∀ (h : Hp) (x1 : Int32) (x2 : Int32) (H : Heap) (locs : List Loc) (cells slots : Nat) (ls : Array Slot), L_X5_dropAfter_10 N t0 n h x1 x2 = some (hz, ()) → h.kd t0 = 8 → Wo D cs A s h0 h H locs cells slots → lv_has ls 4 [(0, .ref t0), (1, .int x1), (2, .int x2)] → W p l e { frames := 3, cells := mc, slots := ms, locals := 120 } s m args below meth c H locs cells slots (MQ below (Zv D cs A hz) args s mc ms A) (F0 m 10 ls []) := by
  intro n
  induction n with
  | zero => intro h x1 x2 H locs cells slots ls hJ; cases hJ
  | succ n ih =>
    intro h x1 x2 H locs cells slots ls hJ hk0 w hl
    exact sb_X5_dropAfter_10 C hz2 N (L_X5_dropAfter_10 N t0 n) t0 (ml_X5_dropAfter_10 N t0 n) ih h x1 x2 hJ hk0 w hl
def B_X5_dropAfter_7 (N : Nat) (t0 : Nat) (h : Hp) (x1 : Int32) (y0 : Int32) : Option (Hp × Unit) := L_X5_dropAfter_10 N t0 N h x1 (y0 - (1 : Int32))
theorem mb_X5_dropAfter_7 (N : Nat) (t0 : Nat) (h : Hp) (x1 : Int32) (y0 : Int32) (hJ : B_X5_dropAfter_7 N t0 h x1 y0 = some (hz, ())) : Mo h hz := by
  unfold B_X5_dropAfter_7 at hJ
  exact ml_X5_dropAfter_10 N t0 N _ _ _ hJ
set_option maxRecDepth 100000 in
set_option maxHeartbeats 4000000 in
theorem sb_X5_dropAfter_7 (C : Cx p s m args meth c cX5_dropAfter 4 none RX5 D cs A h0.se) (hz2 : hz.nx ≤ h0.nx + mc ∧ hz.su ≤ h0.su + ms) (N : Nat) (t0 : Nat) (h : Hp) (x1 : Int32) (y0 : Int32) (hJ : B_X5_dropAfter_7 N t0 h x1 y0 = some (hz, ())) (hk0 : h.kd t0 = 8) {H : Heap} {locs : List Loc} {cells slots : Nat} (w : Wo D cs A s h0 h H locs cells slots) {ls : Array Slot} (hl : lv_has ls 4 [(0, .ref t0), (1, .int x1)]) : W p l e { frames := 3, cells := mc, slots := ms, locals := 120 } s m args below meth c H locs cells slots (MQ below (Zv D cs A hz) args s mc ms A) (F0 m 7 ls [.int y0]) := by
  obtain ⟨hx, hb, hml, hown, hts, -⟩ := id C
  unfold B_X5_dropAfter_7 at hJ
  refine lv_iconst (v := (1 : Int32)) hx hb dX5_dropAfter_7 (by decide) ?_
  refine lv_isub hx hb dX5_dropAfter_8 ?_
  refine lv_istore_n (i := 2) (lv' := [(2, .int (y0 - (1 : Int32))), (0, .ref t0), (1, .int x1)]) hx hb dX5_dropAfter_9 rfl hl (by decide) rfl (fun ls hl => ?_)
  exact sl_X5_dropAfter_10 C hz2 N t0 N _ _ _ _ _ _ _ _ hJ hk0 w (lv_sub (l' := [(0, .ref t0), (1, .int x1), (2, .int (y0 - (1 : Int32)))]) hl [1, 2, 0] rfl)
def B_X5_dropAfter_0 (N : Nat) (t0 : Nat) (h : Hp) (x1 : Int32) : Option (Hp × Unit) := dr h 2 (h.fr 800 t0) (fun a19 => (J_Jx4a65c_size_8abf5 N a19 h).bind (fun z => B_X5_dropAfter_7 N t0 z.1 x1 z.2))
theorem mb_X5_dropAfter_0 (N : Nat) (t0 : Nat) (h : Hp) (x1 : Int32) (hJ : B_X5_dropAfter_0 N t0 h x1 = some (hz, ())) : Mo h hz := by
  unfold B_X5_dropAfter_0 at hJ
  obtain ⟨a19, ea19, -, hJ⟩ := dr_some hJ
  obtain ⟨⟨h20, r21⟩, e22, hJ⟩ := ob_some hJ
  exact (mo_Jx4a65c_size_8abf5 N a19 h e22).tr (mb_X5_dropAfter_7 N t0 _ _ _ hJ)
set_option maxRecDepth 100000 in
set_option maxHeartbeats 4000000 in
theorem sb_X5_dropAfter_0 (C : Cx p s m args meth c cX5_dropAfter 4 none RX5 D cs A h0.se) (hz2 : hz.nx ≤ h0.nx + mc ∧ hz.su ≤ h0.su + ms) (N : Nat) (t0 : Nat) (h : Hp) (x1 : Int32) (hJ : B_X5_dropAfter_0 N t0 h x1 = some (hz, ())) (hk0 : h.kd t0 = 8) {H : Heap} {locs : List Loc} {cells slots : Nat} (w : Wo D cs A s h0 h H locs cells slots) {ls : Array Slot} (hl : lv_has ls 4 [(0, .ref t0), (1, .int x1)]) : W p l e { frames := 3, cells := mc, slots := ms, locals := 120 } s m args below meth c H locs cells slots (MQ below (Zv D cs A hz) args s mc ms A) (F0 m 0 ls []) := by
  obtain ⟨hx, hb, hml, hown, hts, -⟩ := id C
  unfold B_X5_dropAfter_0 at hJ
  refine lv_aload_n hx hb dX5_dropAfter_0 rfl (lv_at hl 0 rfl) ?_
  refine fg_800 C w hk0 tw_1_75 dX5_dropAfter_1 ?_
  obtain ⟨a19, ea19, hka19, hJ⟩ := dr_some hJ
  rw [ea19]
  obtain ⟨⟨h20, r21⟩, e22, hJ⟩ := ob_some hJ
  refine jc_Vi (As := []) C w (cc_Jx4a65c_size_8abf5 N a19 h hka19 e22) (mo_Jx4a65c_size_8abf5 N a19 h e22) (mb_X5_dropAfter_7 N t0 _ _ _ hJ) hz2 hka19 (by decide) rfl (fs := fs2 h a19) rfl rfl ⟨tw_1_182, tw_2_182, tw_1_180, tw_1_181, tw_1_5⟩ cd_Jx4a65c_size_8abf5 ⟨by decide, by decide⟩ hl.1 (by first | exact Nat.le_of_ble_eq_true rfl | simp [rf_cat, cat_i, cat_l, cat_r]) rfl dX5_dropAfter_4 (fun H locs w1 => ?_)
  have hk23 := kd_keep w (mo_Jx4a65c_size_8abf5 N a19 h e22) hk0 (by decide)
  have w := w1
  exact sb_X5_dropAfter_7 C hz2 N t0 _ _ _ hJ hk23 w hl
def J_X5_dropAfter (N : Nat) (t0 : Nat) (h : Hp) (x1 : Int32) : Option (Hp × Unit) := B_X5_dropAfter_0 N t0 h x1
theorem mo_X5_dropAfter (N : Nat) (t0 : Nat) (h : Hp) (x1 : Int32) (hJ : J_X5_dropAfter N t0 h x1 = some (hz, ())) : Mo h hz := mb_X5_dropAfter_0 N t0 h x1 hJ
theorem cd_X5_dropAfter : Cd yX5_dropAfter 1 := ⟨by decide +kernel, by decide +kernel, by decide +kernel⟩
theorem cc_X5_dropAfter (N : Nat) (t0 : Nat) (h : Hp) (x1 : Int32) (hk0 : h.kd t0 = 8) (hJ : J_X5_dropAfter N t0 h x1 = some (hz, ())) : Cv l yX5_dropAfter cX5_dropAfter 4 none 3 120 D cs h hz [.ref t0, .int x1] := by
  intro mc ms g1 g2
  refine je_any (by decide) (by simp [lg_sl, rf_cat, cat_i, cat_l, cat_r]) ?_
  intro p e s m args below meth c C hin2 w ls hl
  have hl : lv_has ls 4 [(0, .ref t0), (1, .int x1)] := hl
  exact sb_X5_dropAfter_0 C ⟨g1, g2⟩ N t0 h x1 hJ hk0 w hl
end G_X5_dropAfter
