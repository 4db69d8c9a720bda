section G_X10_horizon
variable {p : Program} {l : Launch} {e : Env} {s : State} {m : MethodId} {args : Array Value} {below : List Frame} {meth : Method} {c : Code} {D : va_G} {cs : C4} {A : Nat → Prop} {h0 hz : Hp} {mc ms : Nat} {rz : Int32}
def B_X10_horizon_42 (N : Nat) (k7 : Hp → Int32 → Int32 → Option (Hp × Int32)) (t0 : Nat) (h : Hp) (x1 : Int32) (x2 : Int32) : Option (Hp × Int32) := k7 h x1 (x2 + (1 : Int32))
theorem mb_X10_horizon_42 (N : Nat) (k7 : Hp → Int32 → Int32 → Option (Hp × Int32)) (t0 : Nat) (h : Hp) (x1 : Int32) (x2 : Int32) (m7 : ∀ (h : Hp) (x1 : Int32) (x2 : Int32), k7 h x1 x2 = some (hz, rz) → Mo h hz) (hJ : B_X10_horizon_42 N k7 t0 h x1 x2 = some (hz, rz)) : Mo h hz := by
  unfold B_X10_horizon_42 at hJ
  exact m7 _ _ _ hJ
set_option maxRecDepth 100000 in
set_option maxHeartbeats 4000000 in
theorem sb_X10_horizon_42 (C : Cx p s m args meth c cX10_horizon 3 (some .int) RX10 D cs A h0.se) (hz2 : hz.nx ≤ h0.nx + mc ∧ hz.su ≤ h0.su + ms) (N : Nat) (k7 : Hp → Int32 → Int32 → Option (Hp × Int32)) (t0 : Nat) (m7 : ∀ (h : Hp) (x1 : Int32) (x2 : Int32), k7 h x1 x2 = some (hz, rz) → Mo h hz) (i7 : ∀ (h : Hp) (x1 : Int32) (x2 : Int32) (H : Heap) (locs : List Loc) (cells slots : Nat) (ls : Array Slot), k7 h x1 x2 = some (hz, rz) → h.kd t0 = 13 → Wo D cs A s h0 h H locs cells slots → lv_has ls 3 [(0, .ref t0), (1, .int x1), (2, .int x2)] → W p l e { frames := 0, cells := mc, slots := ms, locals := 0 } s m args below meth c H locs cells slots (MQ below (Zi D cs A hz rz) args s mc ms A) (F0 m 7 ls [])) (h : Hp) (x1 : Int32) (x2 : Int32) (hJ : B_X10_horizon_42 N k7 t0 h x1 x2 = some (hz, rz)) (hk0 : h.kd t0 = 13) {H : Heap} {locs : List Loc} {cells slots : Nat} (w : Wo D cs A s h0 h H locs cells slots) {ls : Array Slot} (hl : lv_has ls 3 [(0, .ref t0), (1, .int x1), (2, .int x2)]) : W p l e { frames := 0, cells := mc, slots := ms, locals := 0 } s m args below meth c H locs cells slots (MQ below (Zi D cs A hz rz) args s mc ms A) (F0 m 42 ls []) := by
  obtain ⟨hx, hb, hml, hown, hts, -⟩ := id C
  unfold B_X10_horizon_42 at hJ
  refine lv_iinc (v := x2 + (1 : Int32)) (lv' := [(2, .int (x2 + (1 : Int32))), (0, .ref t0), (1, .int x1)]) hx hb dX10_horizon_42 hl (k := 2) rfl rfl (by decide) rfl (fun ls hl => ?_)
  refine lv_goto (tgt := 7) hx hb dX10_horizon_45 (by decide) ?_
  exact i7 _ _ _ _ _ _ _ _ hJ hk0 w (lv_sub (l' := [(0, .ref t0), (1, .int x1), (2, .int (x2 + (1 : Int32)))]) hl [1, 2, 0] rfl)
def B_X10_horizon_7 (N : Nat) (k7 : Hp → Int32 → Int32 → Option (Hp × Int32)) (t0 : Nat) (h : Hp) (x1 : Int32) (x2 : Int32) : Option (Hp × Int32) := if (h.gi 1311 t0) < x2 then (some (h, x1)) else (dr h 30 (h.gr 1301 t0) (fun a2 => ck (¬ (x2 < 0 ∨ h.al a2 ≤ x2.toNatClampNeg)) (if (h.bi a2 x2.toNatClampNeg) = (1 : Int32) then (dr h 30 (h.gr 1303 t0) (fun a5 => ck (¬ (x2 < 0 ∨ h.al a5 ≤ x2.toNatClampNeg)) (if x1 ≤ (h.bi a5 x2.toNatClampNeg) then (B_X10_horizon_42 N k7 t0 h x1 x2) else (dr h 30 (h.gr 1303 t0) (fun a8 => ck (¬ (x2 < 0 ∨ h.al a8 ≤ x2.toNatClampNeg)) (B_X10_horizon_42 N k7 t0 h (h.bi a8 x2.toNatClampNeg) x2)))))) else (B_X10_horizon_42 N k7 t0 h x1 x2))))
theorem mb_X10_horizon_7 (N : Nat) (k7 : Hp → Int32 → Int32 → Option (Hp × Int32)) (t0 : Nat) (h : Hp) (x1 : Int32) (x2 : Int32) (m7 : ∀ (h : Hp) (x1 : Int32) (x2 : Int32), k7 h x1 x2 = some (hz, rz) → Mo h hz) (hJ : B_X10_horizon_7 N k7 t0 h x1 x2 = some (hz, rz)) : Mo h hz := by
  unfold B_X10_horizon_7 at hJ
  by_cases c1 : (h.gi 1311 t0) < x2
  · have hJ := it_pos c1 hJ
    obtain ⟨rfl, -⟩ := rs2 hJ
    exact ⟨fun _ _ => rfl, Nat.le_refl _, Nat.le_refl _, rfl, fun _ _ => rfl⟩
  · have hJ := it_neg c1 hJ
    obtain ⟨a2, ea2, -, hJ⟩ := dr_some hJ
    obtain ⟨-, hJ⟩ := ck_some hJ
    by_cases c4 : (h.bi a2 x2.toNatClampNeg) = (1 : Int32)
    · have hJ := it_pos c4 hJ
      obtain ⟨a5, ea5, -, hJ⟩ := dr_some hJ
      obtain ⟨-, hJ⟩ := ck_some hJ
      by_cases c7 : x1 ≤ (h.bi a5 x2.toNatClampNeg)
      · have hJ := it_pos c7 hJ
        exact mb_X10_horizon_42 N k7 t0 _ _ _ m7 hJ
      · have hJ := it_neg c7 hJ
        obtain ⟨a8, ea8, -, hJ⟩ := dr_some hJ
        obtain ⟨-, hJ⟩ := ck_some hJ
        exact mb_X10_horizon_42 N k7 t0 _ _ _ m7 hJ
    · have hJ := it_neg c4 hJ
      exact mb_X10_horizon_42 N k7 t0 _ _ _ m7 hJ
set_option maxRecDepth 100000 in
set_option maxHeartbeats 4000000 in
theorem sb_X10_horizon_7 (C : Cx p s m args meth c cX10_horizon 3 (some .int) RX10 D cs A h0.se) (hz2 : hz.nx ≤ h0.nx + mc ∧ hz.su ≤ h0.su + ms) (N : Nat) (k7 : Hp → Int32 → Int32 → Option (Hp × Int32)) (t0 : Nat) (m7 : ∀ (h : Hp) (x1 : Int32) (x2 : Int32), k7 h x1 x2 = some (hz, rz) → Mo h hz) (i7 : ∀ (h : Hp) (x1 : Int32) (x2 : Int32) (H : Heap) (locs : List Loc) (cells slots : Nat) (ls : Array Slot), k7 h x1 x2 = some (hz, rz) → h.kd t0 = 13 → Wo D cs A s h0 h H locs cells slots → lv_has ls 3 [(0, .ref t0), (1, .int x1), (2, .int x2)] → W p l e { frames := 0, cells := mc, slots := ms, locals := 0 } s m args below meth c H locs cells slots (MQ below (Zi D cs A hz rz) args s mc ms A) (F0 m 7 ls [])) (h : Hp) (x1 : Int32) (x2 : Int32) (hJ : B_X10_horizon_7 N k7 t0 h x1 x2 = some (hz, rz)) (hk0 : h.kd t0 = 13) {H : Heap} {locs : List Loc} {cells slots : Nat} (w : Wo D cs A s h0 h H locs cells slots) {ls : Array Slot} (hl : lv_has ls 3 [(0, .ref t0), (1, .int x1), (2, .int x2)]) : W p l e { frames := 0, cells := mc, slots := ms, locals := 0 } s m args below meth c H locs cells slots (MQ below (Zi D cs A hz rz) args s mc ms A) (F0 m 7 ls []) := by
  obtain ⟨hx, hb, hml, hown, hts, -⟩ := id C
  unfold B_X10_horizon_7 at hJ
  refine lv_iload_n hx hb dX10_horizon_7 rfl (lv_at hl 2 rfl) ?_
  refine lv_aload_n hx hb dX10_horizon_8 rfl (lv_at hl 0 rfl) ?_
  refine fg_1311 C w hk0 tw_6_174 dX10_horizon_9 ?_
  refine lv_icmp_gt (tgt := 48) hx hb dX10_horizon_12 (by decide) (fun c1 => ?_) (fun c1 => ?_)
  · have hJ := it_pos c1 hJ
    refine lv_iload_n hx hb dX10_horizon_48 rfl (lv_at hl 1 rfl) ?_
    obtain ⟨rfl, rfl⟩ := rs2 hJ
    exact jr_iret C w hz2 dX10_horizon_49
  · have hJ := it_neg c1 hJ
    refine lv_aload_n hx hb dX10_horizon_15 rfl (lv_at hl 0 rfl) ?_
    refine fg_1301 C w hk0 tw_6_164 dX10_horizon_16 ?_
    refine lv_iload_n hx hb dX10_horizon_19 rfl (lv_at hl 2 rfl) ?_
    obtain ⟨a2, ea2, hka2, hJ⟩ := dr_some hJ
    rw [ea2]
    obtain ⟨hi3, hJ⟩ := ck_some hJ
    refine jr_ialdM C w hka2 hi3 dX10_horizon_20 ?_
    refine lv_iconst (v := (1 : Int32)) hx hb dX10_horizon_21 (by decide) ?_
    refine lv_icmp_ne (tgt := 42) hx hb dX10_horizon_22 (by decide) (fun c4 => ?_) (fun c4 => ?_)
    · have hJ := it_neg c4 hJ
      exact sb_X10_horizon_42 C hz2 N k7 t0 m7 i7 _ _ _ hJ hk0 w hl
    · have hJ := it_pos c4 hJ
      refine lv_aload_n hx hb dX10_horizon_25 rfl (lv_at hl 0 rfl) ?_
      refine fg_1303 C w hk0 tw_6_166 dX10_horizon_26 ?_
      refine lv_iload_n hx hb dX10_horizon_29 rfl (lv_at hl 2 rfl) ?_
      obtain ⟨a5, ea5, hka5, hJ⟩ := dr_some hJ
      rw [ea5]
      obtain ⟨hi6, hJ⟩ := ck_some hJ
      refine jr_ialdM C w hka5 hi6 dX10_horizon_30 ?_
      refine lv_iload_n hx hb dX10_horizon_31 rfl (lv_at hl 1 rfl) ?_
      refine lv_icmp_ge (tgt := 42) hx hb dX10_horizon_32 (by decide) (fun c7 => ?_) (fun c7 => ?_)
      · have hJ := it_pos c7 hJ
        exact sb_X10_horizon_42 C hz2 N k7 t0 m7 i7 _ _ _ hJ hk0 w hl
      · have hJ := it_neg c7 hJ
        refine lv_aload_n hx hb dX10_horizon_35 rfl (lv_at hl 0 rfl) ?_
        refine fg_1303 C w hk0 tw_6_166 dX10_horizon_36 ?_
        refine lv_iload_n hx hb dX10_horizon_39 rfl (lv_at hl 2 rfl) ?_
        obtain ⟨a8, ea8, hka8, hJ⟩ := dr_some hJ
        rw [ea8]
        obtain ⟨hi9, hJ⟩ := ck_some hJ
        refine jr_ialdM C w hka8 hi9 dX10_horizon_40 ?_
        refine lv_istore_n (i := 1) (lv' := [(1, .int (h.bi a8 x2.toNatClampNeg)), (0, .ref t0), (2, .int x2)]) hx hb dX10_horizon_41 rfl hl (by decide) rfl (fun ls hl => ?_)
        exact sb_X10_horizon_42 C hz2 N k7 t0 m7 i7 _ _ _ hJ hk0 w (lv_sub (l' := [(0, .ref t0), (1, .int (h.bi a8 x2.toNatClampNeg)), (2, .int x2)]) hl [1, 0, 2] rfl)
def L_X10_horizon_7 (N : Nat) (t0 : Nat) : Nat → Hp → Int32 → Int32 → Option (Hp × Int32)
  | 0 => fun _ _ _ => none
  | n + 1 => fun h x1 x2 => B_X10_horizon_7 N (L_X10_horizon_7 N t0 n) t0 h x1 x2
theorem ml_X10_horizon_7 (N : Nat) (t0 : Nat) : ∀ (n : Nat) (h : Hp) (x1 : Int32) (x2 : Int32), L_X10_horizon_7 N t0 n h x1 x2 = some (hz, rz) → Mo h hz := by
  intro n
  induction n with
  | zero => intro h x1 x2 hJ; cases hJ
  | succ n ih => intro h x1 x2 hJ; exact mb_X10_horizon_7 N (L_X10_horizon_7 N t0 n) t0 h x1 x2 ih hJ
theorem sl_X10_horizon_7 (C : Cx p s m args meth c cX10_horizon 3 (some .int) RX10 D cs A h0.se) (hz2 : hz.nx ≤ h0.nx + mc ∧ hz.su ≤ h0.su + ms) (N : Nat) (t0 : Nat) : ∀ n : Nat, ∀ (h : Hp) (x1 : Int32) (x2 : Int32) (H : Heap) (locs : List Loc) (cells slots : Nat) (ls : Array Slot), L_X10_horizon_7 N t0 n h x1 x2 = some (hz, rz) → h.kd t0 = 13 → Wo D cs A s h0 h H locs cells slots → lv_has ls 3 [(0, .ref t0), (1, .int x1), (2, .int x2)] → W p l e { frames := 0, cells := mc, slots := ms, locals := 0 } s m args below meth c H locs cells slots (MQ below (Zi D cs A hz rz) args s mc ms A) (F0 m 7 ls []) := by
  intro n
  induction n with
  | zero => intro h x1 x2 H locs cells slots ls hJ; cases hJ
  | succ n ih =>
    intro h x1 x2 H locs cells slots ls hJ hk0 w hl
    exact sb_X10_horizon_7 C hz2 N (L_X10_horizon_7 N t0 n) t0 (ml_X10_horizon_7 N t0 n) ih h x1 x2 hJ hk0 w hl
def B_X10_horizon_0 (N : Nat) (t0 : Nat) (h : Hp) : Option (Hp × Int32) := L_X10_horizon_7 N t0 N h (h.gi 1312 t0) (1 : Int32)
theorem mb_X10_horizon_0 (N : Nat) (t0 : Nat) (h : Hp) (hJ : B_X10_horizon_0 N t0 h = some (hz, rz)) : Mo h hz := by
  unfold B_X10_horizon_0 at hJ
  exact ml_X10_horizon_7 N t0 N _ _ _ hJ
set_option maxRecDepth 100000 in
set_option maxHeartbeats 4000000 in
theorem sb_X10_horizon_0 (C : Cx p s m args meth c cX10_horizon 3 (some .int) RX10 D cs A h0.se) (hz2 : hz.nx ≤ h0.nx + mc ∧ hz.su ≤ h0.su + ms) (N : Nat) (t0 : Nat) (h : Hp) (hJ : B_X10_horizon_0 N t0 h = some (hz, rz)) (hk0 : h.kd t0 = 13) {H : Heap} {locs : List Loc} {cells slots : Nat} (w : Wo D cs A s h0 h H locs cells slots) {ls : Array Slot} (hl : lv_has ls 3 [(0, .ref t0)]) : W p l e { frames := 0, cells := mc, slots := ms, locals := 0 } s m args below meth c H locs cells slots (MQ below (Zi D cs A hz rz) args s mc ms A) (F0 m 0 ls []) := by
  obtain ⟨hx, hb, hml, hown, hts, -⟩ := id C
  unfold B_X10_horizon_0 at hJ
  refine lv_aload_n hx hb dX10_horizon_0 rfl (lv_at hl 0 rfl) ?_
  refine fg_1312 C w hk0 tw_6_175 dX10_horizon_1 ?_
  refine lv_istore_n (i := 1) (lv' := [(1, .int (h.gi 1312 t0)), (0, .ref t0)]) hx hb dX10_horizon_4 rfl hl (by decide) rfl (fun ls hl => ?_)
  refine lv_iconst (v := (1 : Int32)) hx hb dX10_horizon_5 (by decide) ?_
  refine lv_istore_n (i := 2) (lv' := [(2, .int (1 : Int32)), (1, .int (h.gi 1312 t0)), (0, .ref t0)]) hx hb dX10_horizon_6 rfl hl (by decide) rfl (fun ls hl => ?_)
  exact sl_X10_horizon_7 C hz2 N t0 N _ _ _ _ _ _ _ _ hJ hk0 w (lv_sub (l' := [(0, .ref t0), (1, .int (h.gi 1312 t0)), (2, .int (1 : Int32))]) hl [2, 1, 0] rfl)
def J_X10_horizon (N : Nat) (t0 : Nat) (h : Hp) : Option (Hp × Int32) := B_X10_horizon_0 N t0 h
theorem mo_X10_horizon (N : Nat) (t0 : Nat) (h : Hp) (hJ : J_X10_horizon N t0 h = some (hz, rz)) : Mo h hz := mb_X10_horizon_0 N t0 h hJ
theorem cd_X10_horizon : Cd yX10_horizon 0 := ⟨by decide +kernel, by decide +kernel, by decide +kernel⟩
theorem cc_X10_horizon (N : Nat) (t0 : Nat) (h : Hp) (hk0 : h.kd t0 = 13) (hJ : J_X10_horizon N t0 h = some (hz, rz)) : Ci l yX10_horizon cX10_horizon 3 (some .int) 0 0 D cs h hz [.ref t0] rz := by
  intro mc ms g1 g2
  refine je_any (by decide) (by simp [lg_sl, rf_cat, cat_i, cat_l, cat_r]) ?_
  intro p e s m args below meth c C hin2 w ls hl
  have hl : lv_has ls 3 [(0, .ref t0)] := hl
  exact sb_X10_horizon_0 C ⟨g1, g2⟩ N t0 h hJ hk0 w hl
end G_X10_horizon
section G_X10_isKept
variable {p : Program} {l : Launch} {e : Env} {s : State} {m : MethodId} {args : Array Value} {below : List Frame} {meth : Method} {c : Code} {D : va_G} {cs : C4} {A : Nat → Prop} {h0 hz : Hp} {mc ms : Nat} {rz : Int32}
def B_X10_isKept_28 (N : Nat) (t0 : Nat) (h : Hp) (y0 : Int32) : Option (Hp × Int32) := ck (y0 = 0 ∨ y0 = 1) (some (h, y0))
theorem mb_X10_isKept_28 (N : Nat) (t0 : Nat) (h : Hp) (y0 : Int32) (hJ : B_X10_isKept_28 N t0 h y0 = some (hz, rz)) : Mo h hz := by
  unfold B_X10_isKept_28 at hJ
  obtain ⟨-, hJ⟩ := ck_some hJ
  obtain ⟨rfl, -⟩ := rs2 hJ
  exact ⟨fun _ _ => rfl, Nat.le_refl _, Nat.le_refl _, rfl, fun _ _ => rfl⟩
set_option maxRecDepth 100000 in
set_option maxHeartbeats 4000000 in
theorem sb_X10_isKept_28 (C : Cx p s m args meth c cX10_isKept 2 (some .boolean) RX10 D cs A h0.se) (hz2 : hz.nx ≤ h0.nx + mc ∧ hz.su ≤ h0.su + ms) (N : Nat) (t0 : Nat) (h : Hp) (y0 : Int32) (hJ : B_X10_isKept_28 N t0 h y0 = some (hz, rz)) (hk0 : h.kd t0 = 13) {H : Heap} {locs : List Loc} {cells slots : Nat} (w : Wo D cs A s h0 h H locs cells slots) {ls : Array Slot} (hl : lv_has ls 2 [(0, .ref t0)]) : W p l e { frames := 1, cells := mc, slots := ms, locals := 30 } s m args below meth c H locs cells slots (MQ below (Zi D cs A hz rz) args s mc ms A) (F0 m 28 ls [.int y0]) := by
  obtain ⟨hx, hb, hml, hown, hts, -⟩ := id C
  unfold B_X10_isKept_28 at hJ
  obtain ⟨hzo1, hJ⟩ := ck_some hJ
  obtain ⟨rfl, rfl⟩ := rs2 hJ
  exact jr_zret C w hzo1 hz2 dX10_isKept_28
def B_X10_isKept_27 (N : Nat) (t0 : Nat) (h : Hp) : Option (Hp × Int32) := B_X10_isKept_28 N t0 h (0 : Int32)
theorem mb_X10_isKept_27 (N : Nat) (t0 : Nat) (h : Hp) (hJ : B_X10_isKept_27 N t0 h = some (hz, rz)) : Mo h hz := by
  unfold B_X10_isKept_27 at hJ
  exact mb_X10_isKept_28 N t0 _ _ hJ
set_option maxRecDepth 100000 in
set_option maxHeartbeats 4000000 in
theorem sb_X10_isKept_27 (C : Cx p s m args meth c cX10_isKept 2 (some .boolean) RX10 D cs A h0.se) (hz2 : hz.nx ≤ h0.nx + mc ∧ hz.su ≤ h0.su + ms) (N : Nat) (t0 : Nat) (h : Hp) (hJ : B_X10_isKept_27 N t0 h = some (hz, rz)) (hk0 : h.kd t0 = 13) {H : Heap} {locs : List Loc} {cells slots : Nat} (w : Wo D cs A s h0 h H locs cells slots) {ls : Array Slot} (hl : lv_has ls 2 [(0, .ref t0)]) : W p l e { frames := 1, cells := mc, slots := ms, locals := 30 } s m args below meth c H locs cells slots (MQ below (Zi D cs A hz rz) args s mc ms A) (F0 m 27 ls []) := by
  obtain ⟨hx, hb, hml, hown, hts, -⟩ := id C
  unfold B_X10_isKept_27 at hJ
  refine lv_iconst (v := (0 : Int32)) hx hb dX10_isKept_27 (by decide) ?_
  exact sb_X10_isKept_28 C hz2 N t0 _ _ hJ hk0 w hl
def B_X10_isKept_20 (N : Nat) (t0 : Nat) (h : Hp) (y0 : Int32) (y1 : Int32) : Option (Hp × Int32) := if y0 ≤ y1 then (B_X10_isKept_27 N t0 h) else (B_X10_isKept_28 N t0 h (1 : Int32))
theorem mb_X10_isKept_20 (N : Nat) (t0 : Nat) (h : Hp) (y0 : Int32) (y1 : Int32) (hJ : B_X10_isKept_20 N t0 h y0 y1 = some (hz, rz)) : Mo h hz := by
  unfold B_X10_isKept_20 at hJ
  by_cases c2 : y0 ≤ y1
  · have hJ := it_pos c2 hJ
    exact mb_X10_isKept_27 N t0 _ hJ
  · have hJ := it_neg c2 hJ
    exact mb_X10_isKept_28 N t0 _ _ hJ
set_option maxRecDepth 100000 in
set_option maxHeartbeats 4000000 in
theorem sb_X10_isKept_20 (C : Cx p s m args meth c cX10_isKept 2 (some .boolean) RX10 D cs A h0.se) (hz2 : hz.nx ≤ h0.nx + mc ∧ hz.su ≤ h0.su + ms) (N : Nat) (t0 : Nat) (h : Hp) (y0 : Int32) (y1 : Int32) (hJ : B_X10_isKept_20 N t0 h y0 y1 = some (hz, rz)) (hk0 : h.kd t0 = 13) {H : Heap} {locs : List Loc} {cells slots : Nat} (w : Wo D cs A s h0 h H locs cells slots) {ls : Array Slot} (hl : lv_has ls 2 [(0, .ref t0)]) : W p l e { frames := 1, cells := mc, slots := ms, locals := 30 } s m args below meth c H locs cells slots (MQ below (Zi D cs A hz rz) args s mc ms A) (F0 m 20 ls [.int y1, .int y0]) := by
  obtain ⟨hx, hb, hml, hown, hts, -⟩ := id C
  unfold B_X10_isKept_20 at hJ
  refine lv_icmp_le (tgt := 27) hx hb dX10_isKept_20 (by decide) (fun c2 => ?_) (fun c2 => ?_)
  · have hJ := it_pos c2 hJ
    exact sb_X10_isKept_27 C hz2 N t0 _ hJ hk0 w hl
  · have hJ := it_neg c2 hJ
    refine lv_iconst (v := (1 : Int32)) hx hb dX10_isKept_23 (by decide) ?_
    refine lv_goto (tgt := 28) hx hb dX10_isKept_24 (by decide) ?_
    exact sb_X10_isKept_28 C hz2 N t0 _ _ hJ hk0 w hl
def B_X10_isKept_0 (N : Nat) (t0 : Nat) (h : Hp) (x1 : Int32) : Option (Hp × Int32) := dr h 30 (h.gr 1301 t0) (fun a3 => ck (¬ (x1 < 0 ∨ h.al a3 ≤ x1.toNatClampNeg)) (if (h.bi a3 x1.toNatClampNeg) = (2 : Int32) then (dr h 30 (h.gr 1304 t0) (fun a6 => ck (¬ (x1 < 0 ∨ h.al a6 ≤ x1.toNatClampNeg)) ((J_X10_horizon N t0 h).bind (fun z => B_X10_isKept_20 N t0 z.1 (h.bi a6 x1.toNatClampNeg) z.2)))) else (B_X10_isKept_27 N t0 h)))
theorem mb_X10_isKept_0 (N : Nat) (t0 : Nat) (h : Hp) (x1 : Int32) (hJ : B_X10_isKept_0 N t0 h x1 = some (hz, rz)) : Mo h hz := by
  unfold B_X10_isKept_0 at hJ
  obtain ⟨a3, ea3, -, hJ⟩ := dr_some hJ
  obtain ⟨-, hJ⟩ := ck_some hJ
  by_cases c5 : (h.bi a3 x1.toNatClampNeg) = (2 : Int32)
  · have hJ := it_pos c5 hJ
    obtain ⟨a6, ea6, -, hJ⟩ := dr_some hJ
    obtain ⟨-, hJ⟩ := ck_some hJ
    obtain ⟨⟨h8, r9⟩, e10, hJ⟩ := ob_some hJ
    exact (mo_X10_horizon N t0 h e10).tr (mb_X10_isKept_20 N t0 _ _ _ hJ)
  · have hJ := it_neg c5 hJ
    exact mb_X10_isKept_27 N t0 _ hJ
set_option maxRecDepth 100000 in
set_option maxHeartbeats 4000000 in
theorem sb_X10_isKept_0 (C : Cx p s m args meth c cX10_isKept 2 (some .boolean) RX10 D cs A h0.se) (hz2 : hz.nx ≤ h0.nx + mc ∧ hz.su ≤ h0.su + ms) (N : Nat) (t0 : Nat) (h : Hp) (x1 : Int32) (hJ : B_X10_isKept_0 N t0 h x1 = some (hz, rz)) (hk0 : h.kd t0 = 13) {H : Heap} {locs : List Loc} {cells slots : Nat} (w : Wo D cs A s h0 h H locs cells slots) {ls : Array Slot} (hl : lv_has ls 2 [(0, .ref t0), (1, .int x1)]) : W p l e { frames := 1, cells := mc, slots := ms, locals := 30 } s m args below meth c H locs cells slots (MQ below (Zi D cs A hz rz) args s mc ms A) (F0 m 0 ls []) := by
  obtain ⟨hx, hb, hml, hown, hts, -⟩ := id C
  unfold B_X10_isKept_0 at hJ
  refine lv_aload_n hx hb dX10_isKept_0 rfl (lv_at hl 0 rfl) ?_
  refine fg_1301 C w hk0 tw_6_164 dX10_isKept_1 ?_
  refine lv_iload_n hx hb dX10_isKept_4 rfl (lv_at hl 1 rfl) ?_
  obtain ⟨a3, ea3, hka3, hJ⟩ := dr_some hJ
  rw [ea3]
  obtain ⟨hi4, hJ⟩ := ck_some hJ
  refine jr_ialdM C w hka3 hi4 dX10_isKept_5 ?_
  refine lv_iconst (v := (2 : Int32)) hx hb dX10_isKept_6 (by decide) ?_
  refine lv_icmp_ne (tgt := 27) hx hb dX10_isKept_7 (by decide) (fun c5 => ?_) (fun c5 => ?_)
  · have hJ := it_neg c5 hJ
    exact sb_X10_isKept_27 C hz2 N t0 _ hJ hk0 w (lv_sub (l' := [(0, .ref t0)]) hl [0] rfl)
  · have hJ := it_pos c5 hJ
    refine lv_aload_n hx hb dX10_isKept_10 rfl (lv_at hl 0 rfl) ?_
    refine fg_1304 C w hk0 tw_6_167 dX10_isKept_11 ?_
    refine lv_iload_n hx hb dX10_isKept_14 rfl (lv_at hl 1 rfl) ?_
    obtain ⟨a6, ea6, hka6, hJ⟩ := dr_some hJ
    rw [ea6]
    obtain ⟨hi7, hJ⟩ := ck_some hJ
    refine jr_ialdM C w hka6 hi7 dX10_isKept_15 ?_
    refine lv_aload_n hx hb dX10_isKept_16 rfl (lv_at hl 0 rfl) ?_
    obtain ⟨⟨h8, r9⟩, e10, hJ⟩ := ob_some hJ
    refine jc_Vi (As := []) C w (cc_X10_horizon N t0 h hk0 e10) (mo_X10_horizon N t0 h e10) (mb_X10_isKept_20 N t0 _ _ _ hJ) hz2 hk0 (by decide) rfl (fs := fs13 h t0) rfl rfl ⟨tw_8_63, tw_8_60, tw_8_62, ts_58, tw_1_7⟩ cd_X10_horizon ⟨by decide, by decide⟩ hl.1 (by first | exact Nat.le_of_ble_eq_true rfl | simp [rf_cat, cat_i, cat_l, cat_r]) rfl dX10_isKept_17 (fun H locs w1 => ?_)
    have hk11 := kd_keep w (mo_X10_horizon N t0 h e10) hk0 (by decide)
    have w := w1
    exact sb_X10_isKept_20 C hz2 N t0 _ _ _ hJ hk11 w (lv_sub (l' := [(0, .ref t0)]) hl [0] rfl)
def J_X10_isKept (N : Nat) (t0 : Nat) (h : Hp) (x1 : Int32) : Option (Hp × Int32) := B_X10_isKept_0 N t0 h x1
theorem mo_X10_isKept (N : Nat) (t0 : Nat) (h : Hp) (x1 : Int32) (hJ : J_X10_isKept N t0 h x1 = some (hz, rz)) : Mo h hz := mb_X10_isKept_0 N t0 h x1 hJ
theorem cd_X10_isKept : Cd yX10_isKept 1 := ⟨by decide +kernel, by decide +kernel, by decide +kernel⟩
theorem cc_X10_isKept (N : Nat) (t0 : Nat) (h : Hp) (x1 : Int32) (hk0 : h.kd t0 = 13) (hJ : J_X10_isKept N t0 h x1 = some (hz, rz)) : Ci l yX10_isKept cX10_isKept 2 (some .boolean) 1 30 D cs h hz [.ref t0, .int x1] rz := by
  intro mc ms g1 g2
  refine je_any (by decide) (by simp [lg_sl, rf_cat, cat_i, cat_l, cat_r]) ?_
  intro p e s m args below meth c C hin2 w ls hl
  have hl : lv_has ls 2 [(0, .ref t0), (1, .int x1)] := hl
  exact sb_X10_isKept_0 C ⟨g1, g2⟩ N t0 h x1 hJ hk0 w hl
end G_X10_isKept
section G_X10_runsOf
variable {p : Program} {l : Launch} {e : Env} {s : State} {m : MethodId} {args : Array Value} {below : List Frame} {meth : Method} {c : Code} {D : va_G} {cs : C4} {A : Nat → Prop} {h0 hz : Hp} {mc ms : Nat} {rz : Int32}
def B_X10_runsOf_128 (N : Nat) (k4 : Hp → Int32 → Int32 → Int32 → Option (Hp × Int32)) (t0 : Nat) (h : Hp) (x1 : Int32) (x2 : Int32) (x3 : Int32) : Option (Hp × Int32) := k4 h x1 x2 (x3 + (1 : Int32))
theorem mb_X10_runsOf_128 (N : Nat) (k4 : Hp → Int32 → Int32 → Int32 → Option (Hp × Int32)) (t0 : Nat) (h : Hp) (x1 : Int32) (x2 : Int32) (x3 : Int32) (m4 : ∀ (h : Hp) (x1 : Int32) (x2 : Int32) (x3 : Int32), k4 h x1 x2 x3 = some (hz, rz) → Mo h hz) (hJ : B_X10_runsOf_128 N k4 t0 h x1 x2 x3 = some (hz, rz)) : Mo h hz := by
  unfold B_X10_runsOf_128 at hJ
  exact m4 _ _ _ _ hJ
set_option maxRecDepth 100000 in
set_option maxHeartbeats 4000000 in
theorem sb_X10_runsOf_128 (C : Cx p s m args meth c cX10_runsOf 7 (some .int) RX10 D cs A h0.se) (hz2 : hz.nx ≤ h0.nx + mc ∧ hz.su ≤ h0.su + ms) (N : Nat) (k4 : Hp → Int32 → Int32 → Int32 → Option (Hp × Int32)) (t0 : Nat) (m4 : ∀ (h : Hp) (x1 : Int32) (x2 : Int32) (x3 : Int32), k4 h x1 x2 x3 = some (hz, rz) → Mo h hz) (i4 : ∀ (h : Hp) (x1 : Int32) (x2 : Int32) (x3 : Int32) (H : Heap) (locs : List Loc) (cells slots : Nat) (ls : Array Slot), k4 h x1 x2 x3 = some (hz, rz) → h.kd t0 = 13 → Wo D cs A s h0 h H locs cells slots → lv_has ls 7 [(0, .ref t0), (1, .int x1), (2, .int x2), (3, .int x3)] → W p l e { frames := 0, cells := mc, slots := ms, locals := 0 } s m args below meth c H locs cells slots (MQ below (Zi D cs A hz rz) args s mc ms A) (F0 m 4 ls [])) (h : Hp) (x1 : Int32) (x2 : Int32) (x3 : Int32) (hJ : B_X10_runsOf_128 N k4 t0 h x1 x2 x3 = some (hz, rz)) (hk0 : h.kd t0 = 13) {H : Heap} {locs : List Loc} {cells slots : Nat} (w : Wo D cs A s h0 h H locs cells slots) {ls : Array Slot} (hl : lv_has ls 7 [(0, .ref t0), (1, .int x1), (2, .int x2), (3, .int x3)]) : W p l e { frames := 0, cells := mc, slots := ms, locals := 0 } s m args below meth c H locs cells slots (MQ below (Zi D cs A hz rz) args s mc ms A) (F0 m 128 ls []) := by
  obtain ⟨hx, hb, hml, hown, hts, -⟩ := id C
  unfold B_X10_runsOf_128 at hJ
  refine lv_iinc (v := x3 + (1 : Int32)) (lv' := [(3, .int (x3 + (1 : Int32))), (0, .ref t0), (1, .int x1), (2, .int x2)]) hx hb dX10_runsOf_128 hl (k := 3) rfl rfl (by decide) rfl (fun ls hl => ?_)
  refine lv_goto (tgt := 4) hx hb dX10_runsOf_131 (by decide) ?_
  exact i4 _ _ _ _ _ _ _ _ _ hJ hk0 w (lv_sub (l' := [(0, .ref t0), (1, .int x1), (2, .int x2), (3, .int (x3 + (1 : Int32)))]) hl [1, 2, 3, 0] rfl)
def B_X10_runsOf_99 (N : Nat) (k4 : Hp → Int32 → Int32 → Int32 → Option (Hp × Int32)) (t0 : Nat) (h : Hp) (x1 : Int32) (x2 : Int32) (x3 : Int32) (x4 : Int32) : Option (Hp × Int32) := dr h 30 (h.gr 1321 t0) (fun a1 => ck (¬ (x3 < 0 ∨ h.al a1 ≤ x3.toNatClampNeg)) (dr h 30 (h.gr 1354 t0) (fun a3 => ck (¬ (x4 < 0 ∨ h.al a3 ≤ x4.toNatClampNeg)) (dr (h.sbi a3 x4.toNatClampNeg (h.bi a1 x3.toNatClampNeg)) 30 ((h.sbi a3 x4.toNatClampNeg (h.bi a1 x3.toNatClampNeg)).gr 1322 t0) (fun a5 => ck (¬ (x3 < 0 ∨ (h.sbi a3 x4.toNatClampNeg (h.bi a1 x3.toNatClampNeg)).al a5 ≤ x3.toNatClampNeg)) (dr (h.sbi a3 x4.toNatClampNeg (h.bi a1 x3.toNatClampNeg)) 30 ((h.sbi a3 x4.toNatClampNeg (h.bi a1 x3.toNatClampNeg)).gr 1355 t0) (fun a7 => ck (¬ (x4 < 0 ∨ (h.sbi a3 x4.toNatClampNeg (h.bi a1 x3.toNatClampNeg)).al a7 ≤ x4.toNatClampNeg)) (B_X10_runsOf_128 N k4 t0 ((h.sbi a3 x4.toNatClampNeg (h.bi a1 x3.toNatClampNeg)).sbi a7 x4.toNatClampNeg ((h.sbi a3 x4.toNatClampNeg (h.bi a1 x3.toNatClampNeg)).bi a5 x3.toNatClampNeg)) x1 (x2 + (1 : Int32)) x3))))))))
theorem mb_X10_runsOf_99 (N : Nat) (k4 : Hp → Int32 → Int32 → Int32 → Option (Hp × Int32)) (t0 : Nat) (h : Hp) (x1 : Int32) (x2 : Int32) (x3 : Int32) (x4 : Int32) (m4 : ∀ (h : Hp) (x1 : Int32) (x2 : Int32) (x3 : Int32), k4 h x1 x2 x3 = some (hz, rz) → Mo h hz) (hJ : B_X10_runsOf_99 N k4 t0 h x1 x2 x3 x4 = some (hz, rz)) : Mo h hz := by
  unfold B_X10_runsOf_99 at hJ
  obtain ⟨a1, ea1, -, hJ⟩ := dr_some hJ
  obtain ⟨-, hJ⟩ := ck_some hJ
  obtain ⟨a3, ea3, -, hJ⟩ := dr_some hJ
  obtain ⟨-, hJ⟩ := ck_some hJ
  obtain ⟨a5, ea5, -, hJ⟩ := dr_some hJ
  obtain ⟨-, hJ⟩ := ck_some hJ
  obtain ⟨a7, ea7, -, hJ⟩ := dr_some hJ
  obtain ⟨-, hJ⟩ := ck_some hJ
  exact (Mo.tr (show Mo h ((h.sbi a3 x4.toNatClampNeg (h.bi a1 x3.toNatClampNeg)).sbi a7 x4.toNatClampNeg ((h.sbi a3 x4.toNatClampNeg (h.bi a1 x3.toNatClampNeg)).bi a5 x3.toNatClampNeg)) from ⟨fun _ _ => rfl, Nat.le_refl _, Nat.le_refl _, rfl, fun _ _ => rfl⟩) (mb_X10_runsOf_128 N k4 t0 _ _ _ _ m4 hJ))
set_option maxRecDepth 100000 in
set_option maxHeartbeats 4000000 in
theorem sb_X10_runsOf_99 (C : Cx p s m args meth c cX10_runsOf 7 (some .int) RX10 D cs A h0.se) (hz2 : hz.nx ≤ h0.nx + mc ∧ hz.su ≤ h0.su + ms) (N : Nat) (k4 : Hp → Int32 → Int32 → Int32 → Option (Hp × Int32)) (t0 : Nat) (m4 : ∀ (h : Hp) (x1 : Int32) (x2 : Int32) (x3 : Int32), k4 h x1 x2 x3 = some (hz, rz) → Mo h hz) (i4 : ∀ (h : Hp) (x1 : Int32) (x2 : Int32) (x3 : Int32) (H : Heap) (locs : List Loc) (cells slots : Nat) (ls : Array Slot), k4 h x1 x2 x3 = some (hz, rz) → h.kd t0 = 13 → Wo D cs A s h0 h H locs cells slots → lv_has ls 7 [(0, .ref t0), (1, .int x1), (2, .int x2), (3, .int x3)] → W p l e { frames := 0, cells := mc, slots := ms, locals := 0 } s m args below meth c H locs cells slots (MQ below (Zi D cs A hz rz) args s mc ms A) (F0 m 4 ls [])) (h : Hp) (x1 : Int32) (x2 : Int32) (x3 : Int32) (x4 : Int32) (hJ : B_X10_runsOf_99 N k4 t0 h x1 x2 x3 x4 = some (hz, rz)) (hk0 : h.kd t0 = 13) {H : Heap} {locs : List Loc} {cells slots : Nat} (w : Wo D cs A s h0 h H locs cells slots) {ls : Array Slot} (hl : lv_has ls 7 [(0, .ref t0), (1, .int x1), (2, .int x2), (3, .int x3), (4, .int x4)]) : W p l e { frames := 0, cells := mc, slots := ms, locals := 0 } s m args below meth c H locs cells slots (MQ below (Zi D cs A hz rz) args s mc ms A) (F0 m 99 ls []) := by
  obtain ⟨hx, hb, hml, hown, hts, -⟩ := id C
  unfold B_X10_runsOf_99 at hJ
  refine lv_aload_n hx hb dX10_runsOf_99 rfl (lv_at hl 0 rfl) ?_
  refine fg_1354 C w hk0 tw_6_217 dX10_runsOf_100 ?_
  refine lv_iload hx hb dX10_runsOf_103 (lv_at hl 4 rfl) ?_
  refine lv_aload_n hx hb dX10_runsOf_105 rfl (lv_at hl 0 rfl) ?_
  refine fg_1321 C w hk0 tw_6_184 dX10_runsOf_106 ?_
  refine lv_iload_n hx hb dX10_runsOf_109 rfl (lv_at hl 3 rfl) ?_
  obtain ⟨a1, ea1, hka1, hJ⟩ := dr_some hJ
  rw [ea1]
  obtain ⟨hi2, hJ⟩ := ck_some hJ
  refine jr_ialdM C w hka1 hi2 dX10_runsOf_110 ?_
  obtain ⟨a3, ea3, hka3, hJ⟩ := dr_some hJ
  rw [ea3]
  obtain ⟨hi4, hJ⟩ := ck_some hJ
  refine jr_iastM C w hka3 hi4 dX10_runsOf_111 (fun H locs w => ?_)
  refine lv_aload_n hx hb dX10_runsOf_112 rfl (lv_at hl 0 rfl) ?_
  refine fg_1355 C w hk0 tw_6_218 dX10_runsOf_113 ?_
  refine lv_iload hx hb dX10_runsOf_116 (lv_at hl 4 rfl) ?_
  refine lv_aload_n hx hb dX10_runsOf_118 rfl (lv_at hl 0 rfl) ?_
  refine fg_1322 C w hk0 tw_6_185 dX10_runsOf_119 ?_
  refine lv_iload_n hx hb dX10_runsOf_122 rfl (lv_at hl 3 rfl) ?_
  obtain ⟨a5, ea5, hka5, hJ⟩ := dr_some hJ
  rw [ea5]
  obtain ⟨hi6, hJ⟩ := ck_some hJ
  refine jr_ialdM C w hka5 hi6 dX10_runsOf_123 ?_
  obtain ⟨a7, ea7, hka7, hJ⟩ := dr_some hJ
  rw [ea7]
  obtain ⟨hi8, hJ⟩ := ck_some hJ
  refine jr_iastM C w hka7 hi8 dX10_runsOf_124 (fun H locs w => ?_)
  refine lv_iinc (v := x2 + (1 : Int32)) (lv' := [(2, .int (x2 + (1 : Int32))), (0, .ref t0), (1, .int x1), (3, .int x3), (4, .int x4)]) hx hb dX10_runsOf_125 hl (k := 2) rfl rfl (by decide) rfl (fun ls hl => ?_)
  exact sb_X10_runsOf_128 C hz2 N k4 t0 m4 i4 _ _ _ _ hJ hk0 w (lv_sub (l' := [(0, .ref t0), (1, .int x1), (2, .int (x2 + (1 : Int32))), (3, .int x3)]) hl [1, 2, 0, 3] rfl)
def B_X10_runsOf_38 (N : Nat) (k4 : Hp → Int32 → Int32 → Int32 → Option (Hp × Int32)) (k38 : Hp → Int32 → Int32 → Int32 → Int32 → Option (Hp × Int32)) (t0 : Nat) (h : Hp) (x1 : Int32) (x2 : Int32) (x3 : Int32) (x4 : Int32) : Option (Hp × Int32) := if x4 ≤ 0 then (B_X10_runsOf_99 N k4 t0 h x1 x2 x3 x4) else (dr h 30 (h.gr 1354 t0) (fun a10 => ck (¬ (x4 - (1 : Int32) < 0 ∨ h.al a10 ≤ (x4 - (1 : Int32)).toNatClampNeg)) (dr h 30 (h.gr 1321 t0) (fun a12 => ck (¬ (x3 < 0 ∨ h.al a12 ≤ x3.toNatClampNeg)) (if (h.bi a10 (x4 - (1 : Int32)).toNatClampNeg) ≤ (h.bi a12 x3.toNatClampNeg) then (B_X10_runsOf_99 N k4 t0 h x1 x2 x3 x4) else (dr h 30 (h.gr 1354 t0) (fun a15 => ck (¬ (x4 - (1 : Int32) < 0 ∨ h.al a15 ≤ (x4 - (1 : Int32)).toNatClampNeg)) (ck (¬ (x4 < 0 ∨ h.al a15 ≤ x4.toNatClampNeg)) (dr (h.sbi a15 x4.toNatClampNeg (h.bi a15 (x4 - (1 : Int32)).toNatClampNeg)) 30 ((h.sbi a15 x4.toNatClampNeg (h.bi a15 (x4 - (1 : Int32)).toNatClampNeg)).gr 1355 t0) (fun a18 => ck (¬ (x4 - (1 : Int32) < 0 ∨ (h.sbi a15 x4.toNatClampNeg (h.bi a15 (x4 - (1 : Int32)).toNatClampNeg)).al a18 ≤ (x4 - (1 : Int32)).toNatClampNeg)) (ck (¬ (x4 < 0 ∨ (h.sbi a15 x4.toNatClampNeg (h.bi a15 (x4 - (1 : Int32)).toNatClampNeg)).al a18 ≤ x4.toNatClampNeg)) (k38 ((h.sbi a15 x4.toNatClampNeg (h.bi a15 (x4 - (1 : Int32)).toNatClampNeg)).sbi a18 x4.toNatClampNeg ((h.sbi a15 x4.toNatClampNeg (h.bi a15 (x4 - (1 : Int32)).toNatClampNeg)).bi a18 (x4 - (1 : Int32)).toNatClampNeg)) x1 x2 x3 (x4 + (-1 : Int32))))))))))))))
theorem mb_X10_runsOf_38 (N : Nat) (k4 : Hp → Int32 → Int32 → Int32 → Option (Hp × Int32)) (k38 : Hp → Int32 → Int32 → Int32 → Int32 → Option (Hp × Int32)) (t0 : Nat) (h : Hp) (x1 : Int32) (x2 : Int32) (x3 : Int32) (x4 : Int32) (m4 : ∀ (h : Hp) (x1 : Int32) (x2 : Int32) (x3 : Int32), k4 h x1 x2 x3 = some (hz, rz) → Mo h hz) (m38 : ∀ (h : Hp) (x1 : Int32) (x2 : Int32) (x3 : Int32) (x4 : Int32), k38 h x1 x2 x3 x4 = some (hz, rz) → Mo h hz) (hJ : B_X10_runsOf_38 N k4 k38 t0 h x1 x2 x3 x4 = some (hz, rz)) : Mo h hz := by
  unfold B_X10_runsOf_38 at hJ
  by_cases c9 : x4 ≤ 0
  · have hJ := it_pos c9 hJ
    exact mb_X10_runsOf_99 N k4 t0 _ _ _ _ _ m4 hJ
  · have hJ := it_neg c9 hJ
    obtain ⟨a10, ea10, -, hJ⟩ := dr_some hJ
    obtain ⟨-, hJ⟩ := ck_some hJ
    obtain ⟨a12, ea12, -, hJ⟩ := dr_some hJ
    obtain ⟨-, hJ⟩ := ck_some hJ
    by_cases c14 : (h.bi a10 (x4 - (1 : Int32)).toNatClampNeg) ≤ (h.bi a12 x3.toNatClampNeg)
    · have hJ := it_pos c14 hJ
      exact mb_X10_runsOf_99 N k4 t0 _ _ _ _ _ m4 hJ
    · have hJ := it_neg c14 hJ
      obtain ⟨a15, ea15, -, hJ⟩ := dr_some hJ
      obtain ⟨-, hJ⟩ := ck_some hJ
      obtain ⟨-, hJ⟩ := ck_some hJ
      obtain ⟨a18, ea18, -, hJ⟩ := dr_some hJ
      obtain ⟨-, hJ⟩ := ck_some hJ
      obtain ⟨-, hJ⟩ := ck_some hJ
      exact (Mo.tr (show Mo h ((h.sbi a15 x4.toNatClampNeg (h.bi a15 (x4 - (1 : Int32)).toNatClampNeg)).sbi a18 x4.toNatClampNeg ((h.sbi a15 x4.toNatClampNeg (h.bi a15 (x4 - (1 : Int32)).toNatClampNeg)).bi a18 (x4 - (1 : Int32)).toNatClampNeg)) from ⟨fun _ _ => rfl, Nat.le_refl _, Nat.le_refl _, rfl, fun _ _ => rfl⟩) (m38 _ _ _ _ _ hJ))
set_option maxRecDepth 100000 in
set_option maxHeartbeats 4000000 in
theorem sb_X10_runsOf_38 (C : Cx p s m args meth c cX10_runsOf 7 (some .int) RX10 D cs A h0.se) (hz2 : hz.nx ≤ h0.nx + mc ∧ hz.su ≤ h0.su + ms) (N : Nat) (k4 : Hp → Int32 → Int32 → Int32 → Option (Hp × Int32)) (k38 : Hp → Int32 → Int32 → Int32 → Int32 → Option (Hp × Int32)) (t0 : Nat) (m4 : ∀ (h : Hp) (x1 : Int32) (x2 : Int32) (x3 : Int32), k4 h x1 x2 x3 = some (hz, rz) → Mo h hz) (m38 : ∀ (h : Hp) (x1 : Int32) (x2 : Int32) (x3 : Int32) (x4 : Int32), k38 h x1 x2 x3 x4 = some (hz, rz) → Mo h hz) (i4 : ∀ (h : Hp) (x1 : Int32) (x2 : Int32) (x3 : Int32) (H : Heap) (locs : List Loc) (cells slots : Nat) (ls : Array Slot), k4 h x1 x2 x3 = some (hz, rz) → h.kd t0 = 13 → Wo D cs A s h0 h H locs cells slots → lv_has ls 7 [(0, .ref t0), (1, .int x1), (2, .int x2), (3, .int x3)] → W p l e { frames := 0, cells := mc, slots := ms, locals := 0 } s m args below meth c H locs cells slots (MQ below (Zi D cs A hz rz) args s mc ms A) (F0 m 4 ls [])) (i38 : ∀ (h : Hp) (x1 : Int32) (x2 : Int32) (x3 : Int32) (x4 : Int32) (H : Heap) (locs : List Loc) (cells slots : Nat) (ls : Array Slot), k38 h x1 x2 x3 x4 = some (hz, rz) → h.kd t0 = 13 → Wo D cs A s h0 h H locs cells slots → lv_has ls 7 [(0, .ref t0), (1, .int x1), (2, .int x2), (3, .int x3), (4, .int x4)] → W p l e { frames := 0, cells := mc, slots := ms, locals := 0 } s m args below meth c H locs cells slots (MQ below (Zi D cs A hz rz) args s mc ms A) (F0 m 38 ls [])) (h : Hp) (x1 : Int32) (x2 : Int32) (x3 : Int32) (x4 : Int32) (hJ : B_X10_runsOf_38 N k4 k38 t0 h x1 x2 x3 x4 = some (hz, rz)) (hk0 : h.kd t0 = 13) {H : Heap} {locs : List Loc} {cells slots : Nat} (w : Wo D cs A s h0 h H locs cells slots) {ls : Array Slot} (hl : lv_has ls 7 [(0, .ref t0), (1, .int x1), (2, .int x2), (3, .int x3), (4, .int x4)]) : W p l e { frames := 0, cells := mc, slots := ms, locals := 0 } s m args below meth c H locs cells slots (MQ below (Zi D cs A hz rz) args s mc ms A) (F0 m 38 ls []) := by
  obtain ⟨hx, hb, hml, hown, hts, -⟩ := id C
  unfold B_X10_runsOf_38 at hJ
  refine lv_iload hx hb dX10_runsOf_38 (lv_at hl 4 rfl) ?_
  refine lv_if_le (tgt := 99) hx hb dX10_runsOf_40 (by decide) (fun c9 => ?_) (fun c9 => ?_)
  · have hJ := it_pos c9 hJ
    exact sb_X10_runsOf_99 C hz2 N k4 t0 m4 i4 _ _ _ _ _ hJ hk0 w hl
  · have hJ := it_neg c9 hJ
    refine lv_aload_n hx hb dX10_runsOf_43 rfl (lv_at hl 0 rfl) ?_
    refine fg_1354 C w hk0 tw_6_217 dX10_runsOf_44 ?_
    refine lv_iload hx hb dX10_runsOf_47 (lv_at hl 4 rfl) ?_
    refine lv_iconst (v := (1 : Int32)) hx hb dX10_runsOf_49 (by decide) ?_
    refine lv_isub hx hb dX10_runsOf_50 ?_
    obtain ⟨a10, ea10, hka10, hJ⟩ := dr_some hJ
    rw [ea10]
    obtain ⟨hi11, hJ⟩ := ck_some hJ
    refine jr_ialdM C w hka10 hi11 dX10_runsOf_51 ?_
    refine lv_aload_n hx hb dX10_runsOf_52 rfl (lv_at hl 0 rfl) ?_
    refine fg_1321 C w hk0 tw_6_184 dX10_runsOf_53 ?_
    refine lv_iload_n hx hb dX10_runsOf_56 rfl (lv_at hl 3 rfl) ?_
    obtain ⟨a12, ea12, hka12, hJ⟩ := dr_some hJ
    rw [ea12]
    obtain ⟨hi13, hJ⟩ := ck_some hJ
    refine jr_ialdM C w hka12 hi13 dX10_runsOf_57 ?_
    refine lv_icmp_le (tgt := 99) hx hb dX10_runsOf_58 (by decide) (fun c14 => ?_) (fun c14 => ?_)
    · have hJ := it_pos c14 hJ
      exact sb_X10_runsOf_99 C hz2 N k4 t0 m4 i4 _ _ _ _ _ hJ hk0 w hl
    · have hJ := it_neg c14 hJ
      refine lv_aload_n hx hb dX10_runsOf_61 rfl (lv_at hl 0 rfl) ?_
      refine fg_1354 C w hk0 tw_6_217 dX10_runsOf_62 ?_
      refine lv_iload hx hb dX10_runsOf_65 (lv_at hl 4 rfl) ?_
      refine lv_aload_n hx hb dX10_runsOf_67 rfl (lv_at hl 0 rfl) ?_
      refine fg_1354 C w hk0 tw_6_217 dX10_runsOf_68 ?_
      refine lv_iload hx hb dX10_runsOf_71 (lv_at hl 4 rfl) ?_
      refine lv_iconst (v := (1 : Int32)) hx hb dX10_runsOf_73 (by decide) ?_
      refine lv_isub hx hb dX10_runsOf_74 ?_
      obtain ⟨a15, ea15, hka15, hJ⟩ := dr_some hJ
      rw [ea15]
      obtain ⟨hi16, hJ⟩ := ck_some hJ
      refine jr_ialdM C w hka15 hi16 dX10_runsOf_75 ?_
      obtain ⟨hi17, hJ⟩ := ck_some hJ
      refine jr_iastM C w hka15 hi17 dX10_runsOf_76 (fun H locs w => ?_)
      refine lv_aload_n hx hb dX10_runsOf_77 rfl (lv_at hl 0 rfl) ?_
      refine fg_1355 C w hk0 tw_6_218 dX10_runsOf_78 ?_
      refine lv_iload hx hb dX10_runsOf_81 (lv_at hl 4 rfl) ?_
      refine lv_aload_n hx hb dX10_runsOf_83 rfl (lv_at hl 0 rfl) ?_
      refine fg_1355 C w hk0 tw_6_218 dX10_runsOf_84 ?_
      refine lv_iload hx hb dX10_runsOf_87 (lv_at hl 4 rfl) ?_
      refine lv_iconst (v := (1 : Int32)) hx hb dX10_runsOf_89 (by decide) ?_
      refine lv_isub hx hb dX10_runsOf_90 ?_
      obtain ⟨a18, ea18, hka18, hJ⟩ := dr_some hJ
      rw [ea18]
      obtain ⟨hi19, hJ⟩ := ck_some hJ
      refine jr_ialdM C w hka18 hi19 dX10_runsOf_91 ?_
      obtain ⟨hi20, hJ⟩ := ck_some hJ
      refine jr_iastM C w hka18 hi20 dX10_runsOf_92 (fun H locs w => ?_)
      refine lv_iinc (v := x4 + (-1 : Int32)) (lv' := [(4, .int (x4 + (-1 : Int32))), (0, .ref t0), (1, .int x1), (2, .int x2), (3, .int x3)]) hx hb dX10_runsOf_93 hl (k := 4) rfl rfl (by decide) rfl (fun ls hl => ?_)
      refine lv_goto (tgt := 38) hx hb dX10_runsOf_96 (by decide) ?_
      exact i38 _ _ _ _ _ _ _ _ _ _ hJ hk0 w (lv_sub (l' := [(0, .ref t0), (1, .int x1), (2, .int x2), (3, .int x3), (4, .int (x4 + (-1 : Int32)))]) hl [1, 2, 3, 4, 0] rfl)
def L_X10_runsOf_38 (N : Nat) (k4 : Hp → Int32 → Int32 → Int32 → Option (Hp × Int32)) (t0 : Nat) : Nat → Hp → Int32 → Int32 → Int32 → Int32 → Option (Hp × Int32)
  | 0 => fun _ _ _ _ _ => none
  | n + 1 => fun h x1 x2 x3 x4 => B_X10_runsOf_38 N k4 (L_X10_runsOf_38 N k4 t0 n) t0 h x1 x2 x3 x4
theorem ml_X10_runsOf_38 (N : Nat) (k4 : Hp → Int32 → Int32 → Int32 → Option (Hp × Int32)) (t0 : Nat) (m4 : ∀ (h : Hp) (x1 : Int32) (x2 : Int32) (x3 : Int32), k4 h x1 x2 x3 = some (hz, rz) → Mo h hz) : ∀ (n : Nat) (h : Hp) (x1 : Int32) (x2 : Int32) (x3 : Int32) (x4 : Int32), L_X10_runsOf_38 N k4 t0 n h x1 x2 x3 x4 = some (hz, rz) → Mo h hz := by
  intro n
  induction n with
  | zero => intro h x1 x2 x3 x4 hJ; cases hJ
  | succ n ih => intro h x1 x2 x3 x4 hJ; exact mb_X10_runsOf_38 N k4 (L_X10_runsOf_38 N k4 t0 n) t0 h x1 x2 x3 x4 m4 ih hJ
theorem sl_X10_runsOf_38 (C : Cx p s m args meth c cX10_runsOf 7 (some .int) RX10 D cs A h0.se) (hz2 : hz.nx ≤ h0.nx + mc ∧ hz.su ≤ h0.su + ms) (N : Nat) (k4 : Hp → Int32 → Int32 → Int32 → Option (Hp × Int32)) (t0 : Nat) (m4 : ∀ (h : Hp) (x1 : Int32) (x2 : Int32) (x3 : Int32), k4 h x1 x2 x3 = some (hz, rz) → Mo h hz) (i4 : ∀ (h : Hp) (x1 : Int32) (x2 : Int32) (x3 : Int32) (H : Heap) (locs : List Loc) (cells slots : Nat) (ls : Array Slot), k4 h x1 x2 x3 = some (hz, rz) → h.kd t0 = 13 → Wo D cs A s h0 h H locs cells slots → lv_has ls 7 [(0, .ref t0), (1, .int x1), (2, .int x2), (3, .int x3)] → W p l e { frames := 0, cells := mc, slots := ms, locals := 0 } s m args below meth c H locs cells slots (MQ below (Zi D cs A hz rz) args s mc ms A) (F0 m 4 ls [])) : ∀ n : Nat, ∀ (h : Hp) (x1 : Int32) (x2 : Int32) (x3 : Int32) (x4 : Int32) (H : Heap) (locs : List Loc) (cells slots : Nat) (ls : Array Slot), L_X10_runsOf_38 N k4 t0 n h x1 x2 x3 x4 = some (hz, rz) → h.kd t0 = 13 → Wo D cs A s h0 h H locs cells slots → lv_has ls 7 [(0, .ref t0), (1, .int x1), (2, .int x2), (3, .int x3), (4, .int x4)] → W p l e { frames := 0, cells := mc, slots := ms, locals := 0 } s m args below meth c H locs cells slots (MQ below (Zi D cs A hz rz) args s mc ms A) (F0 m 38 ls []) := by
  intro n
  induction n with
  | zero => intro h x1 x2 x3 x4 H locs cells slots ls hJ; cases hJ
  | succ n ih =>
    intro h x1 x2 x3 x4 H locs cells slots ls hJ hk0 w hl
    exact sb_X10_runsOf_38 C hz2 N k4 (L_X10_runsOf_38 N k4 t0 n) t0 m4 (ml_X10_runsOf_38 N k4 t0 m4 n) i4 ih h x1 x2 x3 x4 hJ hk0 w hl
def B_X10_runsOf_211 (N : Nat) (k144 : Hp → Int32 → Int32 → Int64 → Int32 → Option (Hp × Int32)) (t0 : Nat) (h : Hp) (x2 : Int32) (x3 : Int32) (x6 : Int32) (y0 : Int64) : Option (Hp × Int32) := k144 h x2 x3 y0 (x6 + (1 : Int32))
theorem mb_X10_runsOf_211 (N : Nat) (k144 : Hp → Int32 → Int32 → Int64 → Int32 → Option (Hp × Int32)) (t0 : Nat) (h : Hp) (x2 : Int32) (x3 : Int32) (x6 : Int32) (y0 : Int64) (m144 : ∀ (h : Hp) (x2 : Int32) (x3 : Int32) (x4 : Int64) (x6 : Int32), k144 h x2 x3 x4 x6 = some (hz, rz) → Mo h hz) (hJ : B_X10_runsOf_211 N k144 t0 h x2 x3 x6 y0 = some (hz, rz)) : Mo h hz := by
  unfold B_X10_runsOf_211 at hJ
  exact m144 _ _ _ _ _ hJ
set_option maxRecDepth 100000 in
set_option maxHeartbeats 4000000 in
theorem sb_X10_runsOf_211 (C : Cx p s m args meth c cX10_runsOf 7 (some .int) RX10 D cs A h0.se) (hz2 : hz.nx ≤ h0.nx + mc ∧ hz.su ≤ h0.su + ms) (N : Nat) (k144 : Hp → Int32 → Int32 → Int64 → Int32 → Option (Hp × Int32)) (t0 : Nat) (m144 : ∀ (h : Hp) (x2 : Int32) (x3 : Int32) (x4 : Int64) (x6 : Int32), k144 h x2 x3 x4 x6 = some (hz, rz) → Mo h hz) (i144 : ∀ (h : Hp) (x2 : Int32) (x3 : Int32) (x4 : Int64) (x6 : Int32) (H : Heap) (locs : List Loc) (cells slots : Nat) (ls : Array Slot), k144 h x2 x3 x4 x6 = some (hz, rz) → h.kd t0 = 13 → Wo D cs A s h0 h H locs cells slots → lv_has ls 7 [(0, .ref t0), (2, .int x2), (3, .int x3), (4, .long x4), (6, .int x6)] → W p l e { frames := 0, cells := mc, slots := ms, locals := 0 } s m args below meth c H locs cells slots (MQ below (Zi D cs A hz rz) args s mc ms A) (F0 m 144 ls [])) (h : Hp) (x2 : Int32) (x3 : Int32) (x6 : Int32) (y0 : Int64) (hJ : B_X10_runsOf_211 N k144 t0 h x2 x3 x6 y0 = some (hz, rz)) (hk0 : h.kd t0 = 13) {H : Heap} {locs : List Loc} {cells slots : Nat} (w : Wo D cs A s h0 h H locs cells slots) {ls : Array Slot} (hl : lv_has ls 7 [(0, .ref t0), (2, .int x2), (3, .int x3), (6, .int x6)]) : W p l e { frames := 0, cells := mc, slots := ms, locals := 0 } s m args below meth c H locs cells slots (MQ below (Zi D cs A hz rz) args s mc ms A) (F0 m 211 ls [.long y0]) := by
  obtain ⟨hx, hb, hml, hown, hts, -⟩ := id C
  unfold B_X10_runsOf_211 at hJ
  refine lv_lstore (i := 4) (lv' := [(4, .long y0), (0, .ref t0), (2, .int x2), (3, .int x3), (6, .int x6)]) hx hb dX10_runsOf_211 hl (by decide) rfl (fun ls hl => ?_)
  refine lv_iinc (v := x6 + (1 : Int32)) (lv' := [(6, .int (x6 + (1 : Int32))), (4, .long y0), (0, .ref t0), (2, .int x2), (3, .int x3)]) hx hb dX10_runsOf_213 hl (k := 4) rfl rfl (by decide) rfl (fun ls hl => ?_)
  refine lv_goto (tgt := 144) hx hb dX10_runsOf_216 (by decide) ?_
  exact i144 _ _ _ _ _ _ _ _ _ _ hJ hk0 w (lv_sub (l' := [(0, .ref t0), (2, .int x2), (3, .int x3), (4, .long y0), (6, .int (x6 + (1 : Int32)))]) hl [2, 3, 4, 1, 0] rfl)
def B_X10_runsOf_184 (N : Nat) (k144 : Hp → Int32 → Int32 → Int64 → Int32 → Option (Hp × Int32)) (t0 : Nat) (h : Hp) (x2 : Int32) (x3 : Int32) (x4 : Int64) (x6 : Int32) : Option (Hp × Int32) := dr h 30 (h.gr 1355 t0) (fun a21 => ck (¬ (x6 < 0 ∨ h.al a21 ≤ x6.toNatClampNeg)) (if (lg_cmp ((h.bi a21 x6.toNatClampNeg).toInt64) x4) ≤ 0 then (B_X10_runsOf_211 N k144 t0 h x2 x3 x6 x4) else (dr h 30 (h.gr 1355 t0) (fun a24 => ck (¬ (x6 < 0 ∨ h.al a24 ≤ x6.toNatClampNeg)) (B_X10_runsOf_211 N k144 t0 h x2 x3 x6 ((h.bi a24 x6.toNatClampNeg).toInt64))))))
theorem mb_X10_runsOf_184 (N : Nat) (k144 : Hp → Int32 → Int32 → Int64 → Int32 → Option (Hp × Int32)) (t0 : Nat) (h : Hp) (x2 : Int32) (x3 : Int32) (x4 : Int64) (x6 : Int32) (m144 : ∀ (h : Hp) (x2 : Int32) (x3 : Int32) (x4 : Int64) (x6 : Int32), k144 h x2 x3 x4 x6 = some (hz, rz) → Mo h hz) (hJ : B_X10_runsOf_184 N k144 t0 h x2 x3 x4 x6 = some (hz, rz)) : Mo h hz := by
  unfold B_X10_runsOf_184 at hJ
  obtain ⟨a21, ea21, -, hJ⟩ := dr_some hJ
  obtain ⟨-, hJ⟩ := ck_some hJ
  by_cases c23 : (lg_cmp ((h.bi a21 x6.toNatClampNeg).toInt64) x4) ≤ 0
  · have hJ := it_pos c23 hJ
    exact mb_X10_runsOf_211 N k144 t0 _ _ _ _ _ m144 hJ
  · have hJ := it_neg c23 hJ
    obtain ⟨a24, ea24, -, hJ⟩ := dr_some hJ
    obtain ⟨-, hJ⟩ := ck_some hJ
    exact mb_X10_runsOf_211 N k144 t0 _ _ _ _ _ m144 hJ
set_option maxRecDepth 100000 in
set_option maxHeartbeats 4000000 in
theorem sb_X10_runsOf_184 (C : Cx p s m args meth c cX10_runsOf 7 (some .int) RX10 D cs A h0.se) (hz2 : hz.nx ≤ h0.nx + mc ∧ hz.su ≤ h0.su + ms) (N : Nat) (k144 : Hp → Int32 → Int32 → Int64 → Int32 → Option (Hp × Int32)) (t0 : Nat) (m144 : ∀ (h : Hp) (x2 : Int32) (x3 : Int32) (x4 : Int64) (x6 : Int32), k144 h x2 x3 x4 x6 = some (hz, rz) → Mo h hz) (i144 : ∀ (h : Hp) (x2 : Int32) (x3 : Int32) (x4 : Int64) (x6 : Int32) (H : Heap) (locs : List Loc) (cells slots : Nat) (ls : Array Slot), k144 h x2 x3 x4 x6 = some (hz, rz) → h.kd t0 = 13 → Wo D cs A s h0 h H locs cells slots → lv_has ls 7 [(0, .ref t0), (2, .int x2), (3, .int x3), (4, .long x4), (6, .int x6)] → W p l e { frames := 0, cells := mc, slots := ms, locals := 0 } s m args below meth c H locs cells slots (MQ below (Zi D cs A hz rz) args s mc ms A) (F0 m 144 ls [])) (h : Hp) (x2 : Int32) (x3 : Int32) (x4 : Int64) (x6 : Int32) (hJ : B_X10_runsOf_184 N k144 t0 h x2 x3 x4 x6 = some (hz, rz)) (hk0 : h.kd t0 = 13) {H : Heap} {locs : List Loc} {cells slots : Nat} (w : Wo D cs A s h0 h H locs cells slots) {ls : Array Slot} (hl : lv_has ls 7 [(0, .ref t0), (2, .int x2), (3, .int x3), (4, .long x4), (6, .int x6)]) : W p l e { frames := 0, cells := mc, slots := ms, locals := 0 } s m args below meth c H locs cells slots (MQ below (Zi D cs A hz rz) args s mc ms A) (F0 m 184 ls []) := by
  obtain ⟨hx, hb, hml, hown, hts, -⟩ := id C
  unfold B_X10_runsOf_184 at hJ
  refine lv_aload_n hx hb dX10_runsOf_184 rfl (lv_at hl 0 rfl) ?_
  refine fg_1355 C w hk0 tw_6_218 dX10_runsOf_185 ?_
  refine lv_iload hx hb dX10_runsOf_188 (lv_at hl 4 rfl) ?_
  obtain ⟨a21, ea21, hka21, hJ⟩ := dr_some hJ
  rw [ea21]
  obtain ⟨hi22, hJ⟩ := ck_some hJ
  refine jr_ialdM C w hka21 hi22 dX10_runsOf_190 ?_
  refine lv_i2l hx hb dX10_runsOf_191 rfl ?_
  refine lv_lload hx hb dX10_runsOf_192 (lv_at hl 3 rfl) ?_
  refine W.lcmp hx hb dX10_runsOf_194 ?_
  refine lv_if_le (tgt := 209) hx hb dX10_runsOf_195 (by decide) (fun c23 => ?_) (fun c23 => ?_)
  · have hJ := it_pos c23 hJ
    refine lv_lload hx hb dX10_runsOf_209 (lv_at hl 3 rfl) ?_
    exact sb_X10_runsOf_211 C hz2 N k144 t0 m144 i144 _ _ _ _ _ hJ hk0 w (lv_sub (l' := [(0, .ref t0), (2, .int x2), (3, .int x3), (6, .int x6)]) hl [0, 1, 2, 4] rfl)
  · have hJ := it_neg c23 hJ
    refine lv_aload_n hx hb dX10_runsOf_198 rfl (lv_at hl 0 rfl) ?_
    refine fg_1355 C w hk0 tw_6_218 dX10_runsOf_199 ?_
    refine lv_iload hx hb dX10_runsOf_202 (lv_at hl 4 rfl) ?_
    obtain ⟨a24, ea24, hka24, hJ⟩ := dr_some hJ
    rw [ea24]
    obtain ⟨hi25, hJ⟩ := ck_some hJ
    refine jr_ialdM C w hka24 hi25 dX10_runsOf_204 ?_
    refine lv_i2l hx hb dX10_runsOf_205 rfl ?_
    refine lv_goto (tgt := 211) hx hb dX10_runsOf_206 (by decide) ?_
    exact sb_X10_runsOf_211 C hz2 N k144 t0 m144 i144 _ _ _ _ _ hJ hk0 w (lv_sub (l' := [(0, .ref t0), (2, .int x2), (3, .int x3), (6, .int x6)]) hl [0, 1, 2, 4] rfl)
def B_X10_runsOf_171 (N : Nat) (k144 : Hp → Int32 → Int32 → Int64 → Int32 → Option (Hp × Int32)) (t0 : Nat) (h : Hp) (x2 : Int32) (x3 : Int32) (x6 : Int32) : Option (Hp × Int32) := dr h 30 (h.gr 1355 t0) (fun a26 => ck (¬ (x6 < 0 ∨ h.al a26 ≤ x6.toNatClampNeg)) (B_X10_runsOf_184 N k144 t0 h x2 (x3 + (1 : Int32)) ((h.bi a26 x6.toNatClampNeg).toInt64) x6))
theorem mb_X10_runsOf_171 (N : Nat) (k144 : Hp → Int32 → Int32 → Int64 → Int32 → Option (Hp × Int32)) (t0 : Nat) (h : Hp) (x2 : Int32) (x3 : Int32) (x6 : Int32) (m144 : ∀ (h : Hp) (x2 : Int32) (x3 : Int32) (x4 : Int64) (x6 : Int32), k144 h x2 x3 x4 x6 = some (hz, rz) → Mo h hz) (hJ : B_X10_runsOf_171 N k144 t0 h x2 x3 x6 = some (hz, rz)) : Mo h hz := by
  unfold B_X10_runsOf_171 at hJ
  obtain ⟨a26, ea26, -, hJ⟩ := dr_some hJ
  obtain ⟨-, hJ⟩ := ck_some hJ
  exact mb_X10_runsOf_184 N k144 t0 _ _ _ _ _ m144 hJ
set_option maxRecDepth 100000 in
set_option maxHeartbeats 4000000 in
theorem sb_X10_runsOf_171 (C : Cx p s m args meth c cX10_runsOf 7 (some .int) RX10 D cs A h0.se) (hz2 : hz.nx ≤ h0.nx + mc ∧ hz.su ≤ h0.su + ms) (N : Nat) (k144 : Hp → Int32 → Int32 → Int64 → Int32 → Option (Hp × Int32)) (t0 : Nat) (m144 : ∀ (h : Hp) (x2 : Int32) (x3 : Int32) (x4 : Int64) (x6 : Int32), k144 h x2 x3 x4 x6 = some (hz, rz) → Mo h hz) (i144 : ∀ (h : Hp) (x2 : Int32) (x3 : Int32) (x4 : Int64) (x6 : Int32) (H : Heap) (locs : List Loc) (cells slots : Nat) (ls : Array Slot), k144 h x2 x3 x4 x6 = some (hz, rz) → h.kd t0 = 13 → Wo D cs A s h0 h H locs cells slots → lv_has ls 7 [(0, .ref t0), (2, .int x2), (3, .int x3), (4, .long x4), (6, .int x6)] → W p l e { frames := 0, cells := mc, slots := ms, locals := 0 } s m args below meth c H locs cells slots (MQ below (Zi D cs A hz rz) args s mc ms A) (F0 m 144 ls [])) (h : Hp) (x2 : Int32) (x3 : Int32) (x6 : Int32) (hJ : B_X10_runsOf_171 N k144 t0 h x2 x3 x6 = some (hz, rz)) (hk0 : h.kd t0 = 13) {H : Heap} {locs : List Loc} {cells slots : Nat} (w : Wo D cs A s h0 h H locs cells slots) {ls : Array Slot} (hl : lv_has ls 7 [(0, .ref t0), (2, .int x2), (3, .int x3), (6, .int x6)]) : W p l e { frames := 0, cells := mc, slots := ms, locals := 0 } s m args below meth c H locs cells slots (MQ below (Zi D cs A hz rz) args s mc ms A) (F0 m 171 ls []) := by
  obtain ⟨hx, hb, hml, hown, hts, -⟩ := id C
  unfold B_X10_runsOf_171 at hJ
  refine lv_iinc (v := x3 + (1 : Int32)) (lv' := [(3, .int (x3 + (1 : Int32))), (0, .ref t0), (2, .int x2), (6, .int x6)]) hx hb dX10_runsOf_171 hl (k := 2) rfl rfl (by decide) rfl (fun ls hl => ?_)
  refine lv_aload_n hx hb dX10_runsOf_174 rfl (lv_at hl 1 rfl) ?_
  refine fg_1355 C w hk0 tw_6_218 dX10_runsOf_175 ?_
  refine lv_iload hx hb dX10_runsOf_178 (lv_at hl 3 rfl) ?_
  obtain ⟨a26, ea26, hka26, hJ⟩ := dr_some hJ
  rw [ea26]
  obtain ⟨hi27, hJ⟩ := ck_some hJ
  refine jr_ialdM C w hka26 hi27 dX10_runsOf_180 ?_
  refine lv_i2l hx hb dX10_runsOf_181 rfl ?_
  refine lv_lstore (i := 4) (lv' := [(4, .long ((h.bi a26 x6.toNatClampNeg).toInt64)), (3, .int (x3 + (1 : Int32))), (0, .ref t0), (2, .int x2), (6, .int x6)]) hx hb dX10_runsOf_182 hl (by decide) rfl (fun ls hl => ?_)
  exact sb_X10_runsOf_184 C hz2 N k144 t0 m144 i144 _ _ _ _ _ hJ hk0 w (lv_sub (l' := [(0, .ref t0), (2, .int x2), (3, .int (x3 + (1 : Int32))), (4, .long ((h.bi a26 x6.toNatClampNeg).toInt64)), (6, .int x6)]) hl [2, 3, 1, 0, 4] rfl)
def B_X10_runsOf_144 (N : Nat) (k144 : Hp → Int32 → Int32 → Int64 → Int32 → Option (Hp × Int32)) (t0 : Nat) (h : Hp) (x2 : Int32) (x3 : Int32) (x4 : Int64) (x6 : Int32) : Option (Hp × Int32) := if x2 ≤ x6 then (some (h, x3)) else (if x6 = 0 then (B_X10_runsOf_171 N k144 t0 h x2 x3 x6) else (dr h 30 (h.gr 1354 t0) (fun a30 => ck (¬ (x6 < 0 ∨ h.al a30 ≤ x6.toNatClampNeg)) (if (lg_cmp ((h.bi a30 x6.toNatClampNeg).toInt64) (x4 + (1 : Int64))) ≤ 0 then (B_X10_runsOf_184 N k144 t0 h x2 x3 x4 x6) else (B_X10_runsOf_171 N k144 t0 h x2 x3 x6)))))
theorem mb_X10_runsOf_144 (N : Nat) (k144 : Hp → Int32 → Int32 → Int64 → Int32 → Option (Hp × Int32)) (t0 : Nat) (h : Hp) (x2 : Int32) (x3 : Int32) (x4 : Int64) (x6 : Int32) (m144 : ∀ (h : Hp) (x2 : Int32) (x3 : Int32) (x4 : Int64) (x6 : Int32), k144 h x2 x3 x4 x6 = some (hz, rz) → Mo h hz) (hJ : B_X10_runsOf_144 N k144 t0 h x2 x3 x4 x6 = some (hz, rz)) : Mo h hz := by
  unfold B_X10_runsOf_144 at hJ
  by_cases c28 : x2 ≤ x6
  · have hJ := it_pos c28 hJ
    obtain ⟨rfl, -⟩ := rs2 hJ
    exact ⟨fun _ _ => rfl, Nat.le_refl _, Nat.le_refl _, rfl, fun _ _ => rfl⟩
  · have hJ := it_neg c28 hJ
    by_cases c29 : x6 = 0
    · have hJ := it_pos c29 hJ
      exact mb_X10_runsOf_171 N k144 t0 _ _ _ _ m144 hJ
    · have hJ := it_neg c29 hJ
      obtain ⟨a30, ea30, -, hJ⟩ := dr_some hJ
      obtain ⟨-, hJ⟩ := ck_some hJ
      by_cases c32 : (lg_cmp ((h.bi a30 x6.toNatClampNeg).toInt64) (x4 + (1 : Int64))) ≤ 0
      · have hJ := it_pos c32 hJ
        exact mb_X10_runsOf_184 N k144 t0 _ _ _ _ _ m144 hJ
      · have hJ := it_neg c32 hJ
        exact mb_X10_runsOf_171 N k144 t0 _ _ _ _ m144 hJ
set_option maxRecDepth 100000 in
set_option maxHeartbeats 4000000 in
theorem sb_X10_runsOf_144 (C : Cx p s m args meth c cX10_runsOf 7 (some .int) RX10 D cs A h0.se) (hz2 : hz.nx ≤ h0.nx + mc ∧ hz.su ≤ h0.su + ms) (N : Nat) (k144 : Hp → Int32 → Int32 → Int64 → Int32 → Option (Hp × Int32)) (t0 : Nat) (m144 : ∀ (h : Hp) (x2 : Int32) (x3 : Int32) (x4 : Int64) (x6 : Int32), k144 h x2 x3 x4 x6 = some (hz, rz) → Mo h hz) (i144 : ∀ (h : Hp) (x2 : Int32) (x3 : Int32) (x4 : Int64) (x6 : Int32) (H : Heap) (locs : List Loc) (cells slots : Nat) (ls : Array Slot), k144 h x2 x3 x4 x6 = some (hz, rz) → h.kd t0 = 13 → Wo D cs A s h0 h H locs cells slots → lv_has ls 7 [(0, .ref t0), (2, .int x2), (3, .int x3), (4, .long x4), (6, .int x6)] → W p l e { frames := 0, cells := mc, slots := ms, locals := 0 } s m args below meth c H locs cells slots (MQ below (Zi D cs A hz rz) args s mc ms A) (F0 m 144 ls [])) (h : Hp) (x2 : Int32) (x3 : Int32) (x4 : Int64) (x6 : Int32) (hJ : B_X10_runsOf_144 N k144 t0 h x2 x3 x4 x6 = some (hz, rz)) (hk0 : h.kd t0 = 13) {H : Heap} {locs : List Loc} {cells slots : Nat} (w : Wo D cs A s h0 h H locs cells slots) {ls : Array Slot} (hl : lv_has ls 7 [(0, .ref t0), (2, .int x2), (3, .int x3), (4, .long x4), (6, .int x6)]) : W p l e { frames := 0, cells := mc, slots := ms, locals := 0 } s m args below meth c H locs cells slots (MQ below (Zi D cs A hz rz) args s mc ms A) (F0 m 144 ls []) := by
  obtain ⟨hx, hb, hml, hown, hts, -⟩ := id C
  unfold B_X10_runsOf_144 at hJ
  refine lv_iload hx hb dX10_runsOf_144 (lv_at hl 4 rfl) ?_
  refine lv_iload_n hx hb dX10_runsOf_146 rfl (lv_at hl 1 rfl) ?_
  refine lv_icmp_ge (tgt := 219) hx hb dX10_runsOf_147 (by decide) (fun c28 => ?_) (fun c28 => ?_)
  · have hJ := it_pos c28 hJ
    refine lv_iload_n hx hb dX10_runsOf_219 rfl (lv_at hl 2 rfl) ?_
    obtain ⟨rfl, rfl⟩ := rs2 hJ
    exact jr_iret C w hz2 dX10_runsOf_220
  · have hJ := it_neg c28 hJ
    refine lv_iload hx hb dX10_runsOf_150 (lv_at hl 4 rfl) ?_
    refine lv_if_eq (tgt := 171) hx hb dX10_runsOf_152 (by decide) (fun c29 => ?_) (fun c29 => ?_)
    · have hJ := it_pos c29 hJ
      exact sb_X10_runsOf_171 C hz2 N k144 t0 m144 i144 _ _ _ _ hJ hk0 w (lv_sub (l' := [(0, .ref t0), (2, .int x2), (3, .int x3), (6, .int x6)]) hl [0, 1, 2, 4] rfl)
    · have hJ := it_neg c29 hJ
      refine lv_aload_n hx hb dX10_runsOf_155 rfl (lv_at hl 0 rfl) ?_
      refine fg_1354 C w hk0 tw_6_217 dX10_runsOf_156 ?_
      refine lv_iload hx hb dX10_runsOf_159 (lv_at hl 4 rfl) ?_
      obtain ⟨a30, ea30, hka30, hJ⟩ := dr_some hJ
      rw [ea30]
      obtain ⟨hi31, hJ⟩ := ck_some hJ
      refine jr_ialdM C w hka30 hi31 dX10_runsOf_161 ?_
      refine lv_i2l hx hb dX10_runsOf_162 rfl ?_
      refine lv_lload hx hb dX10_runsOf_163 (lv_at hl 3 rfl) ?_
      refine lv_lconst (v := (1 : Int64)) hx hb dX10_runsOf_165 (by decide) ?_
      refine lv_ladd hx hb dX10_runsOf_166 ?_
      refine W.lcmp hx hb dX10_runsOf_167 ?_
      refine lv_if_le (tgt := 184) hx hb dX10_runsOf_168 (by decide) (fun c32 => ?_) (fun c32 => ?_)
      · have hJ := it_pos c32 hJ
        exact sb_X10_runsOf_184 C hz2 N k144 t0 m144 i144 _ _ _ _ _ hJ hk0 w hl
      · have hJ := it_neg c32 hJ
        exact sb_X10_runsOf_171 C hz2 N k144 t0 m144 i144 _ _ _ _ hJ hk0 w (lv_sub (l' := [(0, .ref t0), (2, .int x2), (3, .int x3), (6, .int x6)]) hl [0, 1, 2, 4] rfl)
def L_X10_runsOf_144 (N : Nat) (t0 : Nat) : Nat → Hp → Int32 → Int32 → Int64 → Int32 → Option (Hp × Int32)
  | 0 => fun _ _ _ _ _ => none
  | n + 1 => fun h x2 x3 x4 x6 => B_X10_runsOf_144 N (L_X10_runsOf_144 N t0 n) t0 h x2 x3 x4 x6
theorem ml_X10_runsOf_144 (N : Nat) (t0 : Nat) : ∀ (n : Nat) (h : Hp) (x2 : Int32) (x3 : Int32) (x4 : Int64) (x6 : Int32), L_X10_runsOf_144 N t0 n h x2 x3 x4 x6 = some (hz, rz) → Mo h hz := by
  intro n
  induction n with
  | zero => intro h x2 x3 x4 x6 hJ; cases hJ
  | succ n ih => intro h x2 x3 x4 x6 hJ; exact mb_X10_runsOf_144 N (L_X10_runsOf_144 N t0 n) t0 h x2 x3 x4 x6 ih hJ
theorem sl_X10_runsOf_144 (C : Cx p s m args meth c cX10_runsOf 7 (some .int) RX10 D cs A h0.se) (hz2 : hz.nx ≤ h0.nx + mc ∧ hz.su ≤ h0.su + ms) (N : Nat) (t0 : Nat) : ∀ n : Nat, ∀ (h : Hp) (x2 : Int32) (x3 : Int32) (x4 : Int64) (x6 : Int32) (H : Heap) (locs : List Loc) (cells slots : Nat) (ls : Array Slot), L_X10_runsOf_144 N t0 n h x2 x3 x4 x6 = some (hz, rz) → h.kd t0 = 13 → Wo D cs A s h0 h H locs cells slots → lv_has ls 7 [(0, .ref t0), (2, .int x2), (3, .int x3), (4, .long x4), (6, .int x6)] → W p l e { frames := 0, cells := mc, slots := ms, locals := 0 } s m args below meth c H locs cells slots (MQ below (Zi D cs A hz rz) args s mc ms A) (F0 m 144 ls []) := by
  intro n
  induction n with
  | zero => intro h x2 x3 x4 x6 H locs cells slots ls hJ; cases hJ
  | succ n ih =>
    intro h x2 x3 x4 x6 H locs cells slots ls hJ hk0 w hl
    exact sb_X10_runsOf_144 C hz2 N (L_X10_runsOf_144 N t0 n) t0 (ml_X10_runsOf_144 N t0 n) ih h x2 x3 x4 x6 hJ hk0 w hl
def B_X10_runsOf_134 (N : Nat) (t0 : Nat) (h : Hp) (x2 : Int32) : Option (Hp × Int32) := L_X10_runsOf_144 N t0 N h x2 (0 : Int32) (-9223372036854775808 : Int64) (0 : Int32)
theorem mb_X10_runsOf_134 (N : Nat) (t0 : Nat) (h : Hp) (x2 : Int32) (hJ : B_X10_runsOf_134 N t0 h x2 = some (hz, rz)) : Mo h hz := by
  unfold B_X10_runsOf_134 at hJ
  exact ml_X10_runsOf_144 N t0 N _ _ _ _ _ hJ
set_option maxRecDepth 100000 in
set_option maxHeartbeats 4000000 in
theorem sb_X10_runsOf_134 (C : Cx p s m args meth c cX10_runsOf 7 (some .int) RX10 D cs A h0.se) (hz2 : hz.nx ≤ h0.nx + mc ∧ hz.su ≤ h0.su + ms) (N : Nat) (t0 : Nat) (h : Hp) (x2 : Int32) (hJ : B_X10_runsOf_134 N t0 h x2 = some (hz, rz)) (hk0 : h.kd t0 = 13) {H : Heap} {locs : List Loc} {cells slots : Nat} (w : Wo D cs A s h0 h H locs cells slots) {ls : Array Slot} (hl : lv_has ls 7 [(0, .ref t0), (2, .int x2)]) : W p l e { frames := 0, cells := mc, slots := ms, locals := 0 } s m args below meth c H locs cells slots (MQ below (Zi D cs A hz rz) args s mc ms A) (F0 m 134 ls []) := by
  obtain ⟨hx, hb, hml, hown, hts, -⟩ := id C
  unfold B_X10_runsOf_134 at hJ
  refine lv_iconst (v := (0 : Int32)) hx hb dX10_runsOf_134 (by decide) ?_
  refine lv_istore_n (i := 3) (lv' := [(3, .int (0 : Int32)), (0, .ref t0), (2, .int x2)]) hx hb dX10_runsOf_135 rfl hl (by decide) rfl (fun ls hl => ?_)
  refine lv_ldc2 (v := (-9223372036854775808 : Int64)) hx hb hown (hts _ tw_8_68) dX10_runsOf_136 ?_
  refine lv_lstore (i := 4) (lv' := [(4, .long (-9223372036854775808 : Int64)), (3, .int (0 : Int32)), (0, .ref t0), (2, .int x2)]) hx hb dX10_runsOf_139 hl (by decide) rfl (fun ls hl => ?_)
  refine lv_iconst (v := (0 : Int32)) hx hb dX10_runsOf_141 (by decide) ?_
  refine lv_istore (i := 6) (lv' := [(6, .int (0 : Int32)), (4, .long (-9223372036854775808 : Int64)), (3, .int (0 : Int32)), (0, .ref t0), (2, .int x2)]) hx hb dX10_runsOf_142 hl (by decide) rfl (fun ls hl => ?_)
  exact sl_X10_runsOf_144 C hz2 N t0 N _ _ _ _ _ _ _ _ _ _ hJ hk0 w (lv_sub (l' := [(0, .ref t0), (2, .int x2), (3, .int (0 : Int32)), (4, .long (-9223372036854775808 : Int64)), (6, .int (0 : Int32))]) hl [3, 4, 2, 1, 0] rfl)
def B_X10_runsOf_4 (N : Nat) (k4 : Hp → Int32 → Int32 → Int32 → Option (Hp × Int32)) (t0 : Nat) (h : Hp) (x1 : Int32) (x2 : Int32) (x3 : Int32) : Option (Hp × Int32) := if (h.gi 1323 t0) ≤ x3 then (B_X10_runsOf_134 N t0 h x2) else (dr h 30 (h.gr 1307 t0) (fun a34 => ck (¬ (x1 < 0 ∨ h.al a34 ≤ x1.toNatClampNeg)) (if (h.bi a34 x1.toNatClampNeg) = (1 : Int32) then (B_X10_runsOf_134 N t0 h x2) else (dr h 30 (h.gr 1320 t0) (fun a37 => ck (¬ (x3 < 0 ∨ h.al a37 ≤ x3.toNatClampNeg)) (if (h.bi a37 x3.toNatClampNeg) = x1 then (L_X10_runsOf_38 N k4 t0 N h x1 x2 x3 x2) else (B_X10_runsOf_128 N k4 t0 h x1 x2 x3)))))))
theorem mb_X10_runsOf_4 (N : Nat) (k4 : Hp → Int32 → Int32 → Int32 → Option (Hp × Int32)) (t0 : Nat) (h : Hp) (x1 : Int32) (x2 : Int32) (x3 : Int32) (m4 : ∀ (h : Hp) (x1 : Int32) (x2 : Int32) (x3 : Int32), k4 h x1 x2 x3 = some (hz, rz) → Mo h hz) (hJ : B_X10_runsOf_4 N k4 t0 h x1 x2 x3 = some (hz, rz)) : Mo h hz := by
  unfold B_X10_runsOf_4 at hJ
  by_cases c33 : (h.gi 1323 t0) ≤ x3
  · have hJ := it_pos c33 hJ
    exact mb_X10_runsOf_134 N t0 _ _ hJ
  · have hJ := it_neg c33 hJ
    obtain ⟨a34, ea34, -, hJ⟩ := dr_some hJ
    obtain ⟨-, hJ⟩ := ck_some hJ
    by_cases c36 : (h.bi a34 x1.toNatClampNeg) = (1 : Int32)
    · have hJ := it_pos c36 hJ
      exact mb_X10_runsOf_134 N t0 _ _ hJ
    · have hJ := it_neg c36 hJ
      obtain ⟨a37, ea37, -, hJ⟩ := dr_some hJ
      obtain ⟨-, hJ⟩ := ck_some hJ
      by_cases c39 : (h.bi a37 x3.toNatClampNeg) = x1
      · have hJ := it_pos c39 hJ
        exact ml_X10_runsOf_38 N k4 t0 m4 N _ _ _ _ _ hJ
      · have hJ := it_neg c39 hJ
        exact mb_X10_runsOf_128 N k4 t0 _ _ _ _ m4 hJ
set_option maxRecDepth 100000 in
set_option maxHeartbeats 4000000 in
theorem sb_X10_runsOf_4 (C : Cx p s m args meth c cX10_runsOf 7 (some .int) RX10 D cs A h0.se) (hz2 : hz.nx ≤ h0.nx + mc ∧ hz.su ≤ h0.su + ms) (N : Nat) (k4 : Hp → Int32 → Int32 → Int32 → Option (Hp × Int32)) (t0 : Nat) (m4 : ∀ (h : Hp) (x1 : Int32) (x2 : Int32) (x3 : Int32), k4 h x1 x2 x3 = some (hz, rz) → Mo h hz) (i4 : ∀ (h : Hp) (x1 : Int32) (x2 : Int32) (x3 : Int32) (H : Heap) (locs : List Loc) (cells slots : Nat) (ls : Array Slot), k4 h x1 x2 x3 = some (hz, rz) → h.kd t0 = 13 → Wo D cs A s h0 h H locs cells slots → lv_has ls 7 [(0, .ref t0), (1, .int x1), (2, .int x2), (3, .int x3)] → W p l e { frames := 0, cells := mc, slots := ms, locals := 0 } s m args below meth c H locs cells slots (MQ below (Zi D cs A hz rz) args s mc ms A) (F0 m 4 ls [])) (h : Hp) (x1 : Int32) (x2 : Int32) (x3 : Int32) (hJ : B_X10_runsOf_4 N k4 t0 h x1 x2 x3 = some (hz, rz)) (hk0 : h.kd t0 = 13) {H : Heap} {locs : List Loc} {cells slots : Nat} (w : Wo D cs A s h0 h H locs cells slots) {ls : Array Slot} (hl : lv_has ls 7 [(0, .ref t0), (1, .int x1), (2, .int x2), (3, .int x3)]) : W p l e { frames := 0, cells := mc, slots := ms, locals := 0 } s m args below meth c H locs cells slots (MQ below (Zi D cs A hz rz) args s mc ms A) (F0 m 4 ls []) := by
  obtain ⟨hx, hb, hml, hown, hts, -⟩ := id C
  unfold B_X10_runsOf_4 at hJ
  refine lv_iload_n hx hb dX10_runsOf_4 rfl (lv_at hl 3 rfl) ?_
  refine lv_aload_n hx hb dX10_runsOf_5 rfl (lv_at hl 0 rfl) ?_
  refine fg_1323 C w hk0 tw_6_186 dX10_runsOf_6 ?_
  refine lv_icmp_ge (tgt := 134) hx hb dX10_runsOf_9 (by decide) (fun c33 => ?_) (fun c33 => ?_)
  · have hJ := it_pos c33 hJ
    exact sb_X10_runsOf_134 C hz2 N t0 _ _ hJ hk0 w (lv_sub (l' := [(0, .ref t0), (2, .int x2)]) hl [0, 2] rfl)
  · have hJ := it_neg c33 hJ
    refine lv_aload_n hx hb dX10_runsOf_12 rfl (lv_at hl 0 rfl) ?_
    refine fg_1307 C w hk0 tw_6_170 dX10_runsOf_13 ?_
    refine lv_iload_n hx hb dX10_runsOf_16 rfl (lv_at hl 1 rfl) ?_
    obtain ⟨a34, ea34, hka34, hJ⟩ := dr_some hJ
    rw [ea34]
    obtain ⟨hi35, hJ⟩ := ck_some hJ
    refine jr_ialdM C w hka34 hi35 dX10_runsOf_17 ?_
    refine lv_iconst (v := (1 : Int32)) hx hb dX10_runsOf_18 (by decide) ?_
    refine lv_icmp_eq (tgt := 134) hx hb dX10_runsOf_19 (by decide) (fun c36 => ?_) (fun c36 => ?_)
    · have hJ := it_pos c36 hJ
      exact sb_X10_runsOf_134 C hz2 N t0 _ _ hJ hk0 w (lv_sub (l' := [(0, .ref t0), (2, .int x2)]) hl [0, 2] rfl)
    · have hJ := it_neg c36 hJ
      refine lv_aload_n hx hb dX10_runsOf_22 rfl (lv_at hl 0 rfl) ?_
      refine fg_1320 C w hk0 tw_6_183 dX10_runsOf_23 ?_
      refine lv_iload_n hx hb dX10_runsOf_26 rfl (lv_at hl 3 rfl) ?_
      obtain ⟨a37, ea37, hka37, hJ⟩ := dr_some hJ
      rw [ea37]
      obtain ⟨hi38, hJ⟩ := ck_some hJ
      refine jr_ialdM C w hka37 hi38 dX10_runsOf_27 ?_
      refine lv_iload_n hx hb dX10_runsOf_28 rfl (lv_at hl 1 rfl) ?_
      refine lv_icmp_eq (tgt := 35) hx hb dX10_runsOf_29 (by decide) (fun c39 => ?_) (fun c39 => ?_)
      · have hJ := it_pos c39 hJ
        refine lv_iload_n hx hb dX10_runsOf_35 rfl (lv_at hl 2 rfl) ?_
        refine lv_istore (i := 4) (lv' := [(4, .int x2), (0, .ref t0), (1, .int x1), (2, .int x2), (3, .int x3)]) hx hb dX10_runsOf_36 hl (by decide) rfl (fun ls hl => ?_)
        exact sl_X10_runsOf_38 C hz2 N k4 t0 m4 i4 N _ _ _ _ _ _ _ _ _ _ hJ hk0 w (lv_sub (l' := [(0, .ref t0), (1, .int x1), (2, .int x2), (3, .int x3), (4, .int x2)]) hl [1, 2, 3, 4, 0] rfl)
      · have hJ := it_neg c39 hJ
        refine lv_goto (tgt := 128) hx hb dX10_runsOf_32 (by decide) ?_
        exact sb_X10_runsOf_128 C hz2 N k4 t0 m4 i4 _ _ _ _ hJ hk0 w hl
def L_X10_runsOf_4 (N : Nat) (t0 : Nat) : Nat → Hp → Int32 → Int32 → Int32 → Option (Hp × Int32)
  | 0 => fun _ _ _ _ => none
  | n + 1 => fun h x1 x2 x3 => B_X10_runsOf_4 N (L_X10_runsOf_4 N t0 n) t0 h x1 x2 x3
theorem ml_X10_runsOf_4 (N : Nat) (t0 : Nat) : ∀ (n : Nat) (h : Hp) (x1 : Int32) (x2 : Int32) (x3 : Int32), L_X10_runsOf_4 N t0 n h x1 x2 x3 = some (hz, rz) → Mo h hz := by
  intro n
  induction n with
  | zero => intro h x1 x2 x3 hJ; cases hJ
  | succ n ih => intro h x1 x2 x3 hJ; exact mb_X10_runsOf_4 N (L_X10_runsOf_4 N t0 n) t0 h x1 x2 x3 ih hJ
theorem sl_X10_runsOf_4 (C : Cx p s m args meth c cX10_runsOf 7 (some .int) RX10 D cs A h0.se) (hz2 : hz.nx ≤ h0.nx + mc ∧ hz.su ≤ h0.su + ms) (N : Nat) (t0 : Nat) : ∀ n : Nat, ∀ (h : Hp) (x1 : Int32) (x2 : Int32) (x3 : Int32) (H : Heap) (locs : List Loc) (cells slots : Nat) (ls : Array Slot), L_X10_runsOf_4 N t0 n h x1 x2 x3 = some (hz, rz) → h.kd t0 = 13 → Wo D cs A s h0 h H locs cells slots → lv_has ls 7 [(0, .ref t0), (1, .int x1), (2, .int x2), (3, .int x3)] → W p l e { frames := 0, cells := mc, slots := ms, locals := 0 } s m args below meth c H locs cells slots (MQ below (Zi D cs A hz rz) args s mc ms A) (F0 m 4 ls []) := by
  intro n
  induction n with
  | zero => intro h x1 x2 x3 H locs cells slots ls hJ; cases hJ
  | succ n ih =>
    intro h x1 x2 x3 H locs cells slots ls hJ hk0 w hl
    exact sb_X10_runsOf_4 C hz2 N (L_X10_runsOf_4 N t0 n) t0 (ml_X10_runsOf_4 N t0 n) ih h x1 x2 x3 hJ hk0 w hl
def B_X10_runsOf_0 (N : Nat) (t0 : Nat) (h : Hp) (x1 : Int32) : Option (Hp × Int32) := L_X10_runsOf_4 N t0 N h x1 (0 : Int32) (0 : Int32)
theorem mb_X10_runsOf_0 (N : Nat) (t0 : Nat) (h : Hp) (x1 : Int32) (hJ : B_X10_runsOf_0 N t0 h x1 = some (hz, rz)) : Mo h hz := by
  unfold B_X10_runsOf_0 at hJ
  exact ml_X10_runsOf_4 N t0 N _ _ _ _ hJ
set_option maxRecDepth 100000 in
set_option maxHeartbeats 4000000 in
theorem sb_X10_runsOf_0 (C : Cx p s m args meth c cX10_runsOf 7 (some .int) RX10 D cs A h0.se) (hz2 : hz.nx ≤ h0.nx + mc ∧ hz.su ≤ h0.su + ms) (N : Nat) (t0 : Nat) (h : Hp) (x1 : Int32) (hJ : B_X10_runsOf_0 N t0 h x1 = some (hz, rz)) (hk0 : h.kd t0 = 13) {H : Heap} {locs : List Loc} {cells slots : Nat} (w : Wo D cs A s h0 h H locs cells slots) {ls : Array Slot} (hl : lv_has ls 7 [(0, .ref t0), (1, .int x1)]) : W p l e { frames := 0, cells := mc, slots := ms, locals := 0 } s m args below meth c H locs cells slots (MQ below (Zi D cs A hz rz) args s mc ms A) (F0 m 0 ls []) := by
  obtain ⟨hx, hb, hml, hown, hts, -⟩ := id C
  unfold B_X10_runsOf_0 at hJ
  refine lv_iconst (v := (0 : Int32)) hx hb dX10_runsOf_0 (by decide) ?_
  refine lv_istore_n (i := 2) (lv' := [(2, .int (0 : Int32)), (0, .ref t0), (1, .int x1)]) hx hb dX10_runsOf_1 rfl hl (by decide) rfl (fun ls hl => ?_)
  refine lv_iconst (v := (0 : Int32)) hx hb dX10_runsOf_2 (by decide) ?_
  refine lv_istore_n (i := 3) (lv' := [(3, .int (0 : Int32)), (2, .int (0 : Int32)), (0, .ref t0), (1, .int x1)]) hx hb dX10_runsOf_3 rfl hl (by decide) rfl (fun ls hl => ?_)
  exact sl_X10_runsOf_4 C hz2 N t0 N _ _ _ _ _ _ _ _ _ hJ hk0 w (lv_sub (l' := [(0, .ref t0), (1, .int x1), (2, .int (0 : Int32)), (3, .int (0 : Int32))]) hl [2, 3, 1, 0] rfl)
def J_X10_runsOf (N : Nat) (t0 : Nat) (h : Hp) (x1 : Int32) : Option (Hp × Int32) := B_X10_runsOf_0 N t0 h x1
theorem mo_X10_runsOf (N : Nat) (t0 : Nat) (h : Hp) (x1 : Int32) (hJ : J_X10_runsOf N t0 h x1 = some (hz, rz)) : Mo h hz := mb_X10_runsOf_0 N t0 h x1 hJ
theorem cd_X10_runsOf : Cd yX10_runsOf 1 := ⟨by decide +kernel, by decide +kernel, by decide +kernel⟩
theorem cc_X10_runsOf (N : Nat) (t0 : Nat) (h : Hp) (x1 : Int32) (hk0 : h.kd t0 = 13) (hJ : J_X10_runsOf N t0 h x1 = some (hz, rz)) : Ci l yX10_runsOf cX10_runsOf 7 (some .int) 0 0 D cs h hz [.ref t0, .int x1] rz := by
  intro mc ms g1 g2
  refine je_any (by decide) (by simp [lg_sl, rf_cat, cat_i, cat_l, cat_r]) ?_
  intro p e s m args below meth c C hin2 w ls hl
  have hl : lv_has ls 7 [(0, .ref t0), (1, .int x1)] := hl
  exact sb_X10_runsOf_0 C ⟨g1, g2⟩ N t0 h x1 hJ hk0 w hl
end G_X10_runsOf
section G_X10_told
variable {p : Program} {l : Launch} {e : Env} {s : State} {m : MethodId} {args : Array Value} {below : List Frame} {meth : Method} {c : Code} {D : va_G} {cs : C4} {A : Nat → Prop} {h0 hz : Hp} {mc ms : Nat} {rz : Int32}
def B_X10_told_18 (N : Nat) (t0 : Nat) (h : Hp) : Option (Hp × Int32) := some (h, (-1 : Int32))
theorem mb_X10_told_18 (N : Nat) (t0 : Nat) (h : Hp) (hJ : B_X10_told_18 N t0 h = some (hz, rz)) : Mo h hz := by
  unfold B_X10_told_18 at hJ
  obtain ⟨rfl, -⟩ := rs2 hJ
  exact ⟨fun _ _ => rfl, Nat.le_refl _, Nat.le_refl _, rfl, fun _ _ => rfl⟩
set_option maxRecDepth 100000 in
set_option maxHeartbeats 4000000 in
theorem sb_X10_told_18 (C : Cx p s m args meth c cX10_told 3 (some .int) RX10 D cs A h0.se) (hz2 : hz.nx ≤ h0.nx + mc ∧ hz.su ≤ h0.su + ms) (N : Nat) (t0 : Nat) (h : Hp) (hJ : B_X10_told_18 N t0 h = some (hz, rz)) (hk0 : h.kd t0 = 13) {H : Heap} {locs : List Loc} {cells slots : Nat} (w : Wo D cs A s h0 h H locs cells slots) {ls : Array Slot} (hl : lv_has ls 3 [(0, .ref t0)]) : W p l e { frames := 3, cells := mc, slots := ms, locals := 90 } s m args below meth c H locs cells slots (MQ below (Zi D cs A hz rz) args s mc ms A) (F0 m 18 ls []) := by
  obtain ⟨hx, hb, hml, hown, hts, -⟩ := id C
  unfold B_X10_told_18 at hJ
  refine lv_iconst (v := (-1 : Int32)) hx hb dX10_told_18 (by decide) ?_
  obtain ⟨rfl, rfl⟩ := rs2 hJ
  exact jr_iret C w hz2 dX10_told_19
def B_X10_told_168 (N : Nat) (t0 : Nat) (h : Hp) (y0 : Int32) : Option (Hp × Int32) := some (h, y0)
theorem mb_X10_told_168 (N : Nat) (t0 : Nat) (h : Hp) (y0 : Int32) (hJ : B_X10_told_168 N t0 h y0 = some (hz, rz)) : Mo h hz := by
  unfold B_X10_told_168 at hJ
  obtain ⟨rfl, -⟩ := rs2 hJ
  exact ⟨fun _ _ => rfl, Nat.le_refl _, Nat.le_refl _, rfl, fun _ _ => rfl⟩
set_option maxRecDepth 100000 in
set_option maxHeartbeats 4000000 in
theorem sb_X10_told_168 (C : Cx p s m args meth c cX10_told 3 (some .int) RX10 D cs A h0.se) (hz2 : hz.nx ≤ h0.nx + mc ∧ hz.su ≤ h0.su + ms) (N : Nat) (t0 : Nat) (h : Hp) (y0 : Int32) (hJ : B_X10_told_168 N t0 h y0 = some (hz, rz)) (hk0 : h.kd t0 = 13) {H : Heap} {locs : List Loc} {cells slots : Nat} (w : Wo D cs A s h0 h H locs cells slots) {ls : Array Slot} (hl : lv_has ls 3 [(0, .ref t0)]) : W p l e { frames := 3, cells := mc, slots := ms, locals := 90 } s m args below meth c H locs cells slots (MQ below (Zi D cs A hz rz) args s mc ms A) (F0 m 168 ls [.int y0]) := by
  obtain ⟨hx, hb, hml, hown, hts, -⟩ := id C
  unfold B_X10_told_168 at hJ
  obtain ⟨rfl, rfl⟩ := rs2 hJ
  exact jr_iret C w hz2 dX10_told_168
def B_X10_told_146 (N : Nat) (t0 : Nat) (h : Hp) (y0 : Int32) : Option (Hp × Int32) := some (h, y0)
theorem mb_X10_told_146 (N : Nat) (t0 : Nat) (h : Hp) (y0 : Int32) (hJ : B_X10_told_146 N t0 h y0 = some (hz, rz)) : Mo h hz := by
  unfold B_X10_told_146 at hJ
  obtain ⟨rfl, -⟩ := rs2 hJ
  exact ⟨fun _ _ => rfl, Nat.le_refl _, Nat.le_refl _, rfl, fun _ _ => rfl⟩
set_option maxRecDepth 100000 in
set_option maxHeartbeats 4000000 in
theorem sb_X10_told_146 (C : Cx p s m args meth c cX10_told 3 (some .int) RX10 D cs A h0.se) (hz2 : hz.nx ≤ h0.nx + mc ∧ hz.su ≤ h0.su + ms) (N : Nat) (t0 : Nat) (h : Hp) (y0 : Int32) (hJ : B_X10_told_146 N t0 h y0 = some (hz, rz)) (hk0 : h.kd t0 = 13) {H : Heap} {locs : List Loc} {cells slots : Nat} (w : Wo D cs A s h0 h H locs cells slots) {ls : Array Slot} (hl : lv_has ls 3 [(0, .ref t0)]) : W p l e { frames := 3, cells := mc, slots := ms, locals := 90 } s m args below meth c H locs cells slots (MQ below (Zi D cs A hz rz) args s mc ms A) (F0 m 146 ls [.int y0]) := by
  obtain ⟨hx, hb, hml, hown, hts, -⟩ := id C
  unfold B_X10_told_146 at hJ
  obtain ⟨rfl, rfl⟩ := rs2 hJ
  exact jr_iret C w hz2 dX10_told_146
def B_X10_told_140 (N : Nat) (t0 : Nat) (h : Hp) (y0 : Int32) : Option (Hp × Int32) := some (h, y0)
theorem mb_X10_told_140 (N : Nat) (t0 : Nat) (h : Hp) (y0 : Int32) (hJ : B_X10_told_140 N t0 h y0 = some (hz, rz)) : Mo h hz := by
  unfold B_X10_told_140 at hJ
  obtain ⟨rfl, -⟩ := rs2 hJ
  exact ⟨fun _ _ => rfl, Nat.le_refl _, Nat.le_refl _, rfl, fun _ _ => rfl⟩
set_option maxRecDepth 100000 in
set_option maxHeartbeats 4000000 in
theorem sb_X10_told_140 (C : Cx p s m args meth c cX10_told 3 (some .int) RX10 D cs A h0.se) (hz2 : hz.nx ≤ h0.nx + mc ∧ hz.su ≤ h0.su + ms) (N : Nat) (t0 : Nat) (h : Hp) (y0 : Int32) (hJ : B_X10_told_140 N t0 h y0 = some (hz, rz)) (hk0 : h.kd t0 = 13) {H : Heap} {locs : List Loc} {cells slots : Nat} (w : Wo D cs A s h0 h H locs cells slots) {ls : Array Slot} (hl : lv_has ls 3 [(0, .ref t0)]) : W p l e { frames := 3, cells := mc, slots := ms, locals := 90 } s m args below meth c H locs cells slots (MQ below (Zi D cs A hz rz) args s mc ms A) (F0 m 140 ls [.int y0]) := by
  obtain ⟨hx, hb, hml, hown, hts, -⟩ := id C
  unfold B_X10_told_140 at hJ
  obtain ⟨rfl, rfl⟩ := rs2 hJ
  exact jr_iret C w hz2 dX10_told_140
def B_X10_told_134 (N : Nat) (t0 : Nat) (h : Hp) (y0 : Int32) : Option (Hp × Int32) := some (h, y0)
theorem mb_X10_told_134 (N : Nat) (t0 : Nat) (h : Hp) (y0 : Int32) (hJ : B_X10_told_134 N t0 h y0 = some (hz, rz)) : Mo h hz := by
  unfold B_X10_told_134 at hJ
  obtain ⟨rfl, -⟩ := rs2 hJ
  exact ⟨fun _ _ => rfl, Nat.le_refl _, Nat.le_refl _, rfl, fun _ _ => rfl⟩
set_option maxRecDepth 100000 in
set_option maxHeartbeats 4000000 in
theorem sb_X10_told_134 (C : Cx p s m args meth c cX10_told 3 (some .int) RX10 D cs A h0.se) (hz2 : hz.nx ≤ h0.nx + mc ∧ hz.su ≤ h0.su + ms) (N : Nat) (t0 : Nat) (h : Hp) (y0 : Int32) (hJ : B_X10_told_134 N t0 h y0 = some (hz, rz)) (hk0 : h.kd t0 = 13) {H : Heap} {locs : List Loc} {cells slots : Nat} (w : Wo D cs A s h0 h H locs cells slots) {ls : Array Slot} (hl : lv_has ls 3 [(0, .ref t0)]) : W p l e { frames := 3, cells := mc, slots := ms, locals := 90 } s m args below meth c H locs cells slots (MQ below (Zi D cs A hz rz) args s mc ms A) (F0 m 134 ls [.int y0]) := by
  obtain ⟨hx, hb, hml, hown, hts, -⟩ := id C
  unfold B_X10_told_134 at hJ
  obtain ⟨rfl, rfl⟩ := rs2 hJ
  exact jr_iret C w hz2 dX10_told_134
def B_X10_told_119 (N : Nat) (t0 : Nat) (h : Hp) (y0 : Int32) : Option (Hp × Int32) := some (h, y0)
theorem mb_X10_told_119 (N : Nat) (t0 : Nat) (h : Hp) (y0 : Int32) (hJ : B_X10_told_119 N t0 h y0 = some (hz, rz)) : Mo h hz := by
  unfold B_X10_told_119 at hJ
  obtain ⟨rfl, -⟩ := rs2 hJ
  exact ⟨fun _ _ => rfl, Nat.le_refl _, Nat.le_refl _, rfl, fun _ _ => rfl⟩
set_option maxRecDepth 100000 in
set_option maxHeartbeats 4000000 in
theorem sb_X10_told_119 (C : Cx p s m args meth c cX10_told 3 (some .int) RX10 D cs A h0.se) (hz2 : hz.nx ≤ h0.nx + mc ∧ hz.su ≤ h0.su + ms) (N : Nat) (t0 : Nat) (h : Hp) (y0 : Int32) (hJ : B_X10_told_119 N t0 h y0 = some (hz, rz)) (hk0 : h.kd t0 = 13) {H : Heap} {locs : List Loc} {cells slots : Nat} (w : Wo D cs A s h0 h H locs cells slots) {ls : Array Slot} (hl : lv_has ls 3 [(0, .ref t0)]) : W p l e { frames := 3, cells := mc, slots := ms, locals := 90 } s m args below meth c H locs cells slots (MQ below (Zi D cs A hz rz) args s mc ms A) (F0 m 119 ls [.int y0]) := by
  obtain ⟨hx, hb, hml, hown, hts, -⟩ := id C
  unfold B_X10_told_119 at hJ
  obtain ⟨rfl, rfl⟩ := rs2 hJ
  exact jr_iret C w hz2 dX10_told_119
def B_X10_told_51 (N : Nat) (t0 : Nat) (h : Hp) (x1 : Int32) (x2 : Int32) : Option (Hp × Int32) := if x2 = (1 : Int32) then (dr h 30 (h.gr 1303 t0) (fun a2 => ck (¬ (x1 < 0 ∨ h.al a2 ≤ x1.toNatClampNeg)) (some (h, h.bi a2 x1.toNatClampNeg)))) else (if x2 = (2 : Int32) then (dr h 30 (h.gr 1304 t0) (fun a5 => ck (¬ (x1 < 0 ∨ h.al a5 ≤ x1.toNatClampNeg)) (some (h, h.bi a5 x1.toNatClampNeg)))) else (if x2 = (3 : Int32) then ((J_X10_outOf N t0 h x1).bind (fun z => B_X10_told_119 N t0 z.1 z.2)) else (if x2 = (4 : Int32) then (dr h 32 (h.gr 1308 t0) (fun a13 => ck (¬ (x1 < 0 ∨ h.al a13 ≤ x1.toNatClampNeg)) (if (h.bi a13 x1.toNatClampNeg) = 0 then (B_X10_told_134 N t0 h (0 : Int32)) else (B_X10_told_134 N t0 h (1 : Int32))))) else (if x2 = (5 : Int32) then ((J_X10_wroteMany N t0 h x1).bind (fun z => B_X10_told_140 N t0 z.1 z.2)) else (if x2 = (6 : Int32) then ((J_X10_runsOf N t0 h x1).bind (fun z => B_X10_told_146 N t0 z.1 z.2)) else (if x2 = (7 : Int32) then (dr h 32 (h.gr 1302 t0) (fun a27 => ck (¬ (x1 < 0 ∨ h.al a27 ≤ x1.toNatClampNeg)) (if (h.bi a27 x1.toNatClampNeg) = 0 then (B_X10_told_168 N t0 h (0 : Int32)) else (dr h 30 (h.gr 1307 t0) (fun a30 => ck (¬ (x1 < 0 ∨ h.al a30 ≤ x1.toNatClampNeg)) (B_X10_told_168 N t0 h ((h.bi a30 x1.toNatClampNeg) + (1 : Int32)))))))) else (if x2 = (8 : Int32) then (dr h 30 (h.gr 1309 t0) (fun a33 => ck (¬ (x1 < 0 ∨ h.al a33 ≤ x1.toNatClampNeg)) (some (h, h.bi a33 x1.toNatClampNeg)))) else (some (h, (-1 : Int32))))))))))
theorem mb_X10_told_51 (N : Nat) (t0 : Nat) (h : Hp) (x1 : Int32) (x2 : Int32) (hJ : B_X10_told_51 N t0 h x1 x2 = some (hz, rz)) : Mo h hz := by
  unfold B_X10_told_51 at hJ
  by_cases c1 : x2 = (1 : Int32)
  · have hJ := it_pos c1 hJ
    obtain ⟨a2, ea2, -, hJ⟩ := dr_some hJ
    obtain ⟨-, hJ⟩ := ck_some hJ
    obtain ⟨rfl, -⟩ := rs2 hJ
    exact ⟨fun _ _ => rfl, Nat.le_refl _, Nat.le_refl _, rfl, fun _ _ => rfl⟩
  · have hJ := it_neg c1 hJ
    by_cases c4 : x2 = (2 : Int32)
    · have hJ := it_pos c4 hJ
      obtain ⟨a5, ea5, -, hJ⟩ := dr_some hJ
      obtain ⟨-, hJ⟩ := ck_some hJ
      obtain ⟨rfl, -⟩ := rs2 hJ
      exact ⟨fun _ _ => rfl, Nat.le_refl _, Nat.le_refl _, rfl, fun _ _ => rfl⟩
    · have hJ := it_neg c4 hJ
      by_cases c7 : x2 = (3 : Int32)
      · have hJ := it_pos c7 hJ
        obtain ⟨⟨h8, r9⟩, e10, hJ⟩ := ob_some hJ
        exact (mo_X10_outOf N t0 h x1 e10).tr (mb_X10_told_119 N t0 _ _ hJ)
      · have hJ := it_neg c7 hJ
        by_cases c12 : x2 = (4 : Int32)
        · have hJ := it_pos c12 hJ
          obtain ⟨a13, ea13, -, hJ⟩ := dr_some hJ
          obtain ⟨-, hJ⟩ := ck_some hJ
          by_cases c15 : (h.bi a13 x1.toNatClampNeg) = 0
          · have hJ := it_pos c15 hJ
            exact mb_X10_told_134 N t0 _ _ hJ
          · have hJ := it_neg c15 hJ
            exact mb_X10_told_134 N t0 _ _ hJ
        · have hJ := it_neg c12 hJ
          by_cases c16 : x2 = (5 : Int32)
          · have hJ := it_pos c16 hJ
            obtain ⟨⟨h17, r18⟩, e19, hJ⟩ := ob_some hJ
            exact (mo_X10_wroteMany N t0 h x1 e19).tr (mb_X10_told_140 N t0 _ _ hJ)
          · have hJ := it_neg c16 hJ
            by_cases c21 : x2 = (6 : Int32)
            · have hJ := it_pos c21 hJ
              obtain ⟨⟨h22, r23⟩, e24, hJ⟩ := ob_some hJ
              exact (mo_X10_runsOf N t0 h x1 e24).tr (mb_X10_told_146 N t0 _ _ hJ)
            · have hJ := it_neg c21 hJ
              by_cases c26 : x2 = (7 : Int32)
              · have hJ := it_pos c26 hJ
                obtain ⟨a27, ea27, -, hJ⟩ := dr_some hJ
                obtain ⟨-, hJ⟩ := ck_some hJ
                by_cases c29 : (h.bi a27 x1.toNatClampNeg) = 0
                · have hJ := it_pos c29 hJ
                  exact mb_X10_told_168 N t0 _ _ hJ
                · have hJ := it_neg c29 hJ
                  obtain ⟨a30, ea30, -, hJ⟩ := dr_some hJ
                  obtain ⟨-, hJ⟩ := ck_some hJ
                  exact mb_X10_told_168 N t0 _ _ hJ
              · have hJ := it_neg c26 hJ
                by_cases c32 : x2 = (8 : Int32)
                · have hJ := it_pos c32 hJ
                  obtain ⟨a33, ea33, -, hJ⟩ := dr_some hJ
                  obtain ⟨-, hJ⟩ := ck_some hJ
                  obtain ⟨rfl, -⟩ := rs2 hJ
                  exact ⟨fun _ _ => rfl, Nat.le_refl _, Nat.le_refl _, rfl, fun _ _ => rfl⟩
                · have hJ := it_neg c32 hJ
                  obtain ⟨rfl, -⟩ := rs2 hJ
                  exact ⟨fun _ _ => rfl, Nat.le_refl _, Nat.le_refl _, rfl, fun _ _ => rfl⟩
set_option maxRecDepth 100000 in
set_option maxHeartbeats 4000000 in
theorem sb_X10_told_51 (C : Cx p s m args meth c cX10_told 3 (some .int) RX10 D cs A h0.se) (hz2 : hz.nx ≤ h0.nx + mc ∧ hz.su ≤ h0.su + ms) (N : Nat) (t0 : Nat) (h : Hp) (x1 : Int32) (x2 : Int32) (hJ : B_X10_told_51 N t0 h x1 x2 = some (hz, rz)) (hk0 : h.kd t0 = 13) {H : Heap} {locs : List Loc} {cells slots : Nat} (w : Wo D cs A s h0 h H locs cells slots) {ls : Array Slot} (hl : lv_has ls 3 [(0, .ref t0), (1, .int x1), (2, .int x2)]) : W p l e { frames := 3, cells := mc, slots := ms, locals := 90 } s m args below meth c H locs cells slots (MQ below (Zi D cs A hz rz) args s mc ms A) (F0 m 51 ls []) := by
  obtain ⟨hx, hb, hml, hown, hts, -⟩ := id C
  unfold B_X10_told_51 at hJ
  refine lv_iload_n hx hb dX10_told_51 rfl (lv_at hl 2 rfl) ?_
  by_cases c1 : x2 = (1 : Int32)
  · have hJ := it_pos c1 hJ
    refine lv_tableIn (tgt := 100) hx hb dX10_told_52 (by rw [c1]; decide) (by rw [c1]; decide) (off := 48) (by rw [c1]; rfl) (by decide) ?_
    refine lv_aload_n hx hb dX10_told_100 rfl (lv_at hl 0 rfl) ?_
    refine fg_1303 C w hk0 tw_6_166 dX10_told_101 ?_
    refine lv_iload_n hx hb dX10_told_104 rfl (lv_at hl 1 rfl) ?_
    obtain ⟨a2, ea2, hka2, hJ⟩ := dr_some hJ
    rw [ea2]
    obtain ⟨hi3, hJ⟩ := ck_some hJ
    refine jr_ialdM C w hka2 hi3 dX10_told_105 ?_
    obtain ⟨rfl, rfl⟩ := rs2 hJ
    exact jr_iret C w hz2 dX10_told_106
  · have hJ := it_neg c1 hJ
    by_cases c4 : x2 = (2 : Int32)
    · have hJ := it_pos c4 hJ
      refine lv_tableIn (tgt := 107) hx hb dX10_told_52 (by rw [c4]; decide) (by rw [c4]; decide) (off := 55) (by rw [c4]; rfl) (by decide) ?_
      refine lv_aload_n hx hb dX10_told_107 rfl (lv_at hl 0 rfl) ?_
      refine fg_1304 C w hk0 tw_6_167 dX10_told_108 ?_
      refine lv_iload_n hx hb dX10_told_111 rfl (lv_at hl 1 rfl) ?_
      obtain ⟨a5, ea5, hka5, hJ⟩ := dr_some hJ
      rw [ea5]
      obtain ⟨hi6, hJ⟩ := ck_some hJ
      refine jr_ialdM C w hka5 hi6 dX10_told_112 ?_
      obtain ⟨rfl, rfl⟩ := rs2 hJ
      exact jr_iret C w hz2 dX10_told_113
    · have hJ := it_neg c4 hJ
      by_cases c7 : x2 = (3 : Int32)
      · have hJ := it_pos c7 hJ
        refine lv_tableIn (tgt := 114) hx hb dX10_told_52 (by rw [c7]; decide) (by rw [c7]; decide) (off := 62) (by rw [c7]; rfl) (by decide) ?_
        refine lv_aload_n hx hb dX10_told_114 rfl (lv_at hl 0 rfl) ?_
        refine lv_iload_n hx hb dX10_told_115 rfl (lv_at hl 1 rfl) ?_
        obtain ⟨⟨h8, r9⟩, e10, hJ⟩ := ob_some hJ
        refine jc_Vi (As := [.int x1]) C w (cc_X10_outOf N t0 h x1 hk0 e10) (mo_X10_outOf N t0 h x1 e10) (mb_X10_told_119 N t0 _ _ hJ) hz2 hk0 (by decide) rfl (fs := fs13 h t0) rfl rfl ⟨tw_7_149, tw_7_146, tw_7_148, ts_34, tw_1_7⟩ cd_X10_outOf ⟨by decide, by decide⟩ hl.1 (by first | exact Nat.le_of_ble_eq_true rfl | simp [rf_cat, cat_i, cat_l, cat_r]) rfl dX10_told_116 (fun H locs w1 => ?_)
        have hk11 := kd_keep w (mo_X10_outOf N t0 h x1 e10) hk0 (by decide)
        have w := w1
        exact sb_X10_told_119 C hz2 N t0 _ _ hJ hk11 w (lv_sub (l' := [(0, .ref t0)]) hl [0] rfl)
      · have hJ := it_neg c7 hJ
        by_cases c12 : x2 = (4 : Int32)
        · have hJ := it_pos c12 hJ
          refine lv_tableIn (tgt := 120) hx hb dX10_told_52 (by rw [c12]; decide) (by rw [c12]; decide) (off := 68) (by rw [c12]; rfl) (by decide) ?_
          refine lv_aload_n hx hb dX10_told_120 rfl (lv_at hl 0 rfl) ?_
          refine fg_1308 C w hk0 tw_6_171 dX10_told_121 ?_
          refine lv_iload_n hx hb dX10_told_124 rfl (lv_at hl 1 rfl) ?_
          obtain ⟨a13, ea13, hka13, hJ⟩ := dr_some hJ
          rw [ea13]
          obtain ⟨hi14, hJ⟩ := ck_some hJ
          refine jr_zaldM C w hka13 hi14 dX10_told_125 ?_
          refine lv_if_eq (tgt := 133) hx hb dX10_told_126 (by decide) (fun c15 => ?_) (fun c15 => ?_)
          · have hJ := it_pos c15 hJ
            refine lv_iconst (v := (0 : Int32)) hx hb dX10_told_133 (by decide) ?_
            exact sb_X10_told_134 C hz2 N t0 _ _ hJ hk0 w (lv_sub (l' := [(0, .ref t0)]) hl [0] rfl)
          · have hJ := it_neg c15 hJ
            refine lv_iconst (v := (1 : Int32)) hx hb dX10_told_129 (by decide) ?_
            refine lv_goto (tgt := 134) hx hb dX10_told_130 (by decide) ?_
            exact sb_X10_told_134 C hz2 N t0 _ _ hJ hk0 w (lv_sub (l' := [(0, .ref t0)]) hl [0] rfl)
        · have hJ := it_neg c12 hJ
          by_cases c16 : x2 = (5 : Int32)
          · have hJ := it_pos c16 hJ
            refine lv_tableIn (tgt := 135) hx hb dX10_told_52 (by rw [c16]; decide) (by rw [c16]; decide) (off := 83) (by rw [c16]; rfl) (by decide) ?_
            refine lv_aload_n hx hb dX10_told_135 rfl (lv_at hl 0 rfl) ?_
            refine lv_iload_n hx hb dX10_told_136 rfl (lv_at hl 1 rfl) ?_
            obtain ⟨⟨h17, r18⟩, e19, hJ⟩ := ob_some hJ
            refine jc_Vi (As := [.int x1]) C w (cc_X10_wroteMany N t0 h x1 hk0 e19) (mo_X10_wroteMany N t0 h x1 e19) (mb_X10_told_140 N t0 _ _ hJ) hz2 hk0 (by decide) rfl (fs := fs13 h t0) rfl rfl ⟨tw_8_39, tw_8_36, tw_8_38, ts_56, tw_1_7⟩ cd_X10_wroteMany ⟨by decide, by decide⟩ hl.1 (by first | exact Nat.le_of_ble_eq_true rfl | simp [rf_cat, cat_i, cat_l, cat_r]) rfl dX10_told_137 (fun H locs w1 => ?_)
            have hk20 := kd_keep w (mo_X10_wroteMany N t0 h x1 e19) hk0 (by decide)
            have w := w1
            exact sb_X10_told_140 C hz2 N t0 _ _ hJ hk20 w (lv_sub (l' := [(0, .ref t0)]) hl [0] rfl)
          · have hJ := it_neg c16 hJ
            by_cases c21 : x2 = (6 : Int32)
            · have hJ := it_pos c21 hJ
              refine lv_tableIn (tgt := 141) hx hb dX10_told_52 (by rw [c21]; decide) (by rw [c21]; decide) (off := 89) (by rw [c21]; rfl) (by decide) ?_
              refine lv_aload_n hx hb dX10_told_141 rfl (lv_at hl 0 rfl) ?_
              refine lv_iload_n hx hb dX10_told_142 rfl (lv_at hl 1 rfl) ?_
              obtain ⟨⟨h22, r23⟩, e24, hJ⟩ := ob_some hJ
              refine jc_Vi (As := [.int x1]) C w (cc_X10_runsOf N t0 h x1 hk0 e24) (mo_X10_runsOf N t0 h x1 e24) (mb_X10_told_146 N t0 _ _ hJ) hz2 hk0 (by decide) rfl (fs := fs13 h t0) rfl rfl ⟨tw_8_67, tw_8_64, tw_8_66, ts_59, tw_1_7⟩ cd_X10_runsOf ⟨by decide, by decide⟩ hl.1 (by first | exact Nat.le_of_ble_eq_true rfl | simp [rf_cat, cat_i, cat_l, cat_r]) rfl dX10_told_143 (fun H locs w1 => ?_)
              have hk25 := kd_keep w (mo_X10_runsOf N t0 h x1 e24) hk0 (by decide)
              have w := w1
              exact sb_X10_told_146 C hz2 N t0 _ _ hJ hk25 w (lv_sub (l' := [(0, .ref t0)]) hl [0] rfl)
            · have hJ := it_neg c21 hJ
              by_cases c26 : x2 = (7 : Int32)
              · have hJ := it_pos c26 hJ
                refine lv_tableIn (tgt := 147) hx hb dX10_told_52 (by rw [c26]; decide) (by rw [c26]; decide) (off := 95) (by rw [c26]; rfl) (by decide) ?_
                refine lv_aload_n hx hb dX10_told_147 rfl (lv_at hl 0 rfl) ?_
                refine fg_1302 C w hk0 tw_6_165 dX10_told_148 ?_
                refine lv_iload_n hx hb dX10_told_151 rfl (lv_at hl 1 rfl) ?_
                obtain ⟨a27, ea27, hka27, hJ⟩ := dr_some hJ
                rw [ea27]
                obtain ⟨hi28, hJ⟩ := ck_some hJ
                refine jr_zaldM C w hka27 hi28 dX10_told_152 ?_
                refine lv_if_ne (tgt := 160) hx hb dX10_told_153 (by decide) (fun c29 => ?_) (fun c29 => ?_)
                · have hJ := it_neg c29 hJ
                  refine lv_aload_n hx hb dX10_told_160 rfl (lv_at hl 0 rfl) ?_
                  refine fg_1307 C w hk0 tw_6_170 dX10_told_161 ?_
                  refine lv_iload_n hx hb dX10_told_164 rfl (lv_at hl 1 rfl) ?_
                  obtain ⟨a30, ea30, hka30, hJ⟩ := dr_some hJ
                  rw [ea30]
                  obtain ⟨hi31, hJ⟩ := ck_some hJ
                  refine jr_ialdM C w hka30 hi31 dX10_told_165 ?_
                  refine lv_iconst (v := (1 : Int32)) hx hb dX10_told_166 (by decide) ?_
                  refine lv_iadd hx hb dX10_told_167 ?_
                  exact sb_X10_told_168 C hz2 N t0 _ _ hJ hk0 w (lv_sub (l' := [(0, .ref t0)]) hl [0] rfl)
                · have hJ := it_pos c29 hJ
                  refine lv_iconst (v := (0 : Int32)) hx hb dX10_told_156 (by decide) ?_
                  refine lv_goto (tgt := 168) hx hb dX10_told_157 (by decide) ?_
                  exact sb_X10_told_168 C hz2 N t0 _ _ hJ hk0 w (lv_sub (l' := [(0, .ref t0)]) hl [0] rfl)
              · have hJ := it_neg c26 hJ
                by_cases c32 : x2 = (8 : Int32)
                · have hJ := it_pos c32 hJ
                  refine lv_tableIn (tgt := 169) hx hb dX10_told_52 (by rw [c32]; decide) (by rw [c32]; decide) (off := 117) (by rw [c32]; rfl) (by decide) ?_
                  refine lv_aload_n hx hb dX10_told_169 rfl (lv_at hl 0 rfl) ?_
                  refine fg_1309 C w hk0 tw_6_172 dX10_told_170 ?_
                  refine lv_iload_n hx hb dX10_told_173 rfl (lv_at hl 1 rfl) ?_
                  obtain ⟨a33, ea33, hka33, hJ⟩ := dr_some hJ
                  rw [ea33]
                  obtain ⟨hi34, hJ⟩ := ck_some hJ
                  refine jr_ialdM C w hka33 hi34 dX10_told_174 ?_
                  obtain ⟨rfl, rfl⟩ := rs2 hJ
                  exact jr_iret C w hz2 dX10_told_175
                · have hJ := it_neg c32 hJ
                  refine lv_tableOut (tgt := 176) hx hb dX10_told_52 (by have := ne_ti (n := 1) rfl c1; have := ne_ti (n := 2) rfl c4; have := ne_ti (n := 3) rfl c7; have := ne_ti (n := 4) rfl c12; have := ne_ti (n := 5) rfl c16; have := ne_ti (n := 6) rfl c21; have := ne_ti (n := 7) rfl c26; have := ne_ti (n := 8) rfl c32;  omega) (by decide) ?_
                  refine lv_iconst (v := (-1 : Int32)) hx hb dX10_told_176 (by decide) ?_
                  obtain ⟨rfl, rfl⟩ := rs2 hJ
                  exact jr_iret C w hz2 dX10_told_177
def B_X10_told_46 (N : Nat) (t0 : Nat) (h : Hp) (x1 : Int32) (x2 : Int32) (y0 : Int32) : Option (Hp × Int32) := if y0 = 0 then (some (h, (-1 : Int32))) else (B_X10_told_51 N t0 h x1 x2)
theorem mb_X10_told_46 (N : Nat) (t0 : Nat) (h : Hp) (x1 : Int32) (x2 : Int32) (y0 : Int32) (hJ : B_X10_told_46 N t0 h x1 x2 y0 = some (hz, rz)) : Mo h hz := by
  unfold B_X10_told_46 at hJ
  by_cases c35 : y0 = 0
  · have hJ := it_pos c35 hJ
    obtain ⟨rfl, -⟩ := rs2 hJ
    exact ⟨fun _ _ => rfl, Nat.le_refl _, Nat.le_refl _, rfl, fun _ _ => rfl⟩
  · have hJ := it_neg c35 hJ
    exact mb_X10_told_51 N t0 _ _ _ hJ
set_option maxRecDepth 100000 in
set_option maxHeartbeats 4000000 in
theorem sb_X10_told_46 (C : Cx p s m args meth c cX10_told 3 (some .int) RX10 D cs A h0.se) (hz2 : hz.nx ≤ h0.nx + mc ∧ hz.su ≤ h0.su + ms) (N : Nat) (t0 : Nat) (h : Hp) (x1 : Int32) (x2 : Int32) (y0 : Int32) (hJ : B_X10_told_46 N t0 h x1 x2 y0 = some (hz, rz)) (hk0 : h.kd t0 = 13) {H : Heap} {locs : List Loc} {cells slots : Nat} (w : Wo D cs A s h0 h H locs cells slots) {ls : Array Slot} (hl : lv_has ls 3 [(0, .ref t0), (1, .int x1), (2, .int x2)]) : W p l e { frames := 3, cells := mc, slots := ms, locals := 90 } s m args below meth c H locs cells slots (MQ below (Zi D cs A hz rz) args s mc ms A) (F0 m 46 ls [.int y0]) := by
  obtain ⟨hx, hb, hml, hown, hts, -⟩ := id C
  unfold B_X10_told_46 at hJ
  refine lv_if_ne (tgt := 51) hx hb dX10_told_46 (by decide) (fun c35 => ?_) (fun c35 => ?_)
  · have hJ := it_neg c35 hJ
    exact sb_X10_told_51 C hz2 N t0 _ _ _ hJ hk0 w hl
  · have hJ := it_pos c35 hJ
    refine lv_iconst (v := (-1 : Int32)) hx hb dX10_told_49 (by decide) ?_
    obtain ⟨rfl, rfl⟩ := rs2 hJ
    exact jr_iret C w hz2 dX10_told_50
def B_X10_told_0 (N : Nat) (t0 : Nat) (h : Hp) (x1 : Int32) (x2 : Int32) : Option (Hp × Int32) := if x1 < (1 : Int32) then (B_X10_told_18 N t0 (h.sgi 1300 t0 (0 : Int32))) else (if x1 ≤ ((h.sgi 1300 t0 (0 : Int32)).gi 1311 t0) then (if x2 = 0 then (dr (h.sgi 1300 t0 (0 : Int32)) 30 ((h.sgi 1300 t0 (0 : Int32)).gr 1301 t0) (fun a46 => ck (¬ (x1 < 0 ∨ (h.sgi 1300 t0 (0 : Int32)).al a46 ≤ x1.toNatClampNeg)) (some (h.sgi 1300 t0 (0 : Int32), (h.sgi 1300 t0 (0 : Int32)).bi a46 x1.toNatClampNeg)))) else (dr (h.sgi 1300 t0 (0 : Int32)) 30 ((h.sgi 1300 t0 (0 : Int32)).gr 1301 t0) (fun a39 => ck (¬ (x1 < 0 ∨ (h.sgi 1300 t0 (0 : Int32)).al a39 ≤ x1.toNatClampNeg)) (if ((h.sgi 1300 t0 (0 : Int32)).bi a39 x1.toNatClampNeg) = (1 : Int32) then (B_X10_told_51 N t0 (h.sgi 1300 t0 (0 : Int32)) x1 x2) else ((J_X10_isKept N t0 (h.sgi 1300 t0 (0 : Int32)) x1).bind (fun z => B_X10_told_46 N t0 z.1 x1 x2 z.2)))))) else (B_X10_told_18 N t0 (h.sgi 1300 t0 (0 : Int32))))
theorem mb_X10_told_0 (N : Nat) (t0 : Nat) (h : Hp) (x1 : Int32) (x2 : Int32) (hJ : B_X10_told_0 N t0 h x1 x2 = some (hz, rz)) : Mo h hz := by
  unfold B_X10_told_0 at hJ
  by_cases c36 : x1 < (1 : Int32)
  · have hJ := it_pos c36 hJ
    exact (Mo.tr (show Mo h (h.sgi 1300 t0 (0 : Int32)) from ⟨fun _ _ => rfl, Nat.le_refl _, Nat.le_refl _, rfl, fun _ _ => rfl⟩) (mb_X10_told_18 N t0 _ hJ))
  · have hJ := it_neg c36 hJ
    by_cases c37 : x1 ≤ ((h.sgi 1300 t0 (0 : Int32)).gi 1311 t0)
    · have hJ := it_pos c37 hJ
      by_cases c38 : x2 = 0
      · have hJ := it_pos c38 hJ
        obtain ⟨a46, ea46, -, hJ⟩ := dr_some hJ
        obtain ⟨-, hJ⟩ := ck_some hJ
        obtain ⟨rfl, -⟩ := rs2 hJ
        exact ⟨fun _ _ => rfl, Nat.le_refl _, Nat.le_refl _, rfl, fun _ _ => rfl⟩
      · have hJ := it_neg c38 hJ
        obtain ⟨a39, ea39, -, hJ⟩ := dr_some hJ
        obtain ⟨-, hJ⟩ := ck_some hJ
        by_cases c41 : ((h.sgi 1300 t0 (0 : Int32)).bi a39 x1.toNatClampNeg) = (1 : Int32)
        · have hJ := it_pos c41 hJ
          exact (Mo.tr (show Mo h (h.sgi 1300 t0 (0 : Int32)) from ⟨fun _ _ => rfl, Nat.le_refl _, Nat.le_refl _, rfl, fun _ _ => rfl⟩) (mb_X10_told_51 N t0 _ _ _ hJ))
        · have hJ := it_neg c41 hJ
          obtain ⟨⟨h42, r43⟩, e44, hJ⟩ := ob_some hJ
          exact (Mo.tr (show Mo h (h.sgi 1300 t0 (0 : Int32)) from ⟨fun _ _ => rfl, Nat.le_refl _, Nat.le_refl _, rfl, fun _ _ => rfl⟩) ((mo_X10_isKept N t0 (h.sgi 1300 t0 (0 : Int32)) x1 e44).tr (mb_X10_told_46 N t0 _ _ _ _ hJ)))
    · have hJ := it_neg c37 hJ
      exact (Mo.tr (show Mo h (h.sgi 1300 t0 (0 : Int32)) from ⟨fun _ _ => rfl, Nat.le_refl _, Nat.le_refl _, rfl, fun _ _ => rfl⟩) (mb_X10_told_18 N t0 _ hJ))
set_option maxRecDepth 100000 in
set_option maxHeartbeats 4000000 in
theorem sb_X10_told_0 (C : Cx p s m args meth c cX10_told 3 (some .int) RX10 D cs A h0.se) (hz2 : hz.nx ≤ h0.nx + mc ∧ hz.su ≤ h0.su + ms) (N : Nat) (t0 : Nat) (h : Hp) (x1 : Int32) (x2 : Int32) (hJ : B_X10_told_0 N t0 h x1 x2 = some (hz, rz)) (hk0 : h.kd t0 = 13) {H : Heap} {locs : List Loc} {cells slots : Nat} (w : Wo D cs A s h0 h H locs cells slots) {ls : Array Slot} (hl : lv_has ls 3 [(0, .ref t0), (1, .int x1), (2, .int x2)]) : W p l e { frames := 3, cells := mc, slots := ms, locals := 90 } s m args below meth c H locs cells slots (MQ below (Zi D cs A hz rz) args s mc ms A) (F0 m 0 ls []) := by
  obtain ⟨hx, hb, hml, hown, hts, -⟩ := id C
  unfold B_X10_told_0 at hJ
  refine lv_aload_n hx hb dX10_told_0 rfl (lv_at hl 0 rfl) ?_
  refine lv_iconst (v := (0 : Int32)) hx hb dX10_told_1 (by decide) ?_
  refine fp_1300 (x := (0 : Int32)) C w hk0 tw_6_163 dX10_told_2 (fun H locs w => ?_)
  refine lv_iload_n hx hb dX10_told_5 rfl (lv_at hl 1 rfl) ?_
  refine lv_iconst (v := (1 : Int32)) hx hb dX10_told_6 (by decide) ?_
  refine lv_icmp_lt (tgt := 18) hx hb dX10_told_7 (by decide) (fun c36 => ?_) (fun c36 => ?_)
  · have hJ := it_pos c36 hJ
    exact sb_X10_told_18 C hz2 N t0 _ hJ hk0 w (lv_sub (l' := [(0, .ref t0)]) hl [0] rfl)
  · have hJ := it_neg c36 hJ
    refine lv_iload_n hx hb dX10_told_10 rfl (lv_at hl 1 rfl) ?_
    refine lv_aload_n hx hb dX10_told_11 rfl (lv_at hl 0 rfl) ?_
    refine fg_1311 C w hk0 tw_6_174 dX10_told_12 ?_
    refine lv_icmp_le (tgt := 20) hx hb dX10_told_15 (by decide) (fun c37 => ?_) (fun c37 => ?_)
    · have hJ := it_pos c37 hJ
      refine lv_iload_n hx hb dX10_told_20 rfl (lv_at hl 2 rfl) ?_
      refine lv_if_ne (tgt := 31) hx hb dX10_told_21 (by decide) (fun c38 => ?_) (fun c38 => ?_)
      · have hJ := it_neg c38 hJ
        refine lv_aload_n hx hb dX10_told_31 rfl (lv_at hl 0 rfl) ?_
        refine fg_1301 C w hk0 tw_6_164 dX10_told_32 ?_
        refine lv_iload_n hx hb dX10_told_35 rfl (lv_at hl 1 rfl) ?_
        obtain ⟨a39, ea39, hka39, hJ⟩ := dr_some hJ
        rw [ea39]
        obtain ⟨hi40, hJ⟩ := ck_some hJ
        refine jr_ialdM C w hka39 hi40 dX10_told_36 ?_
        refine lv_iconst (v := (1 : Int32)) hx hb dX10_told_37 (by decide) ?_
        refine lv_icmp_eq (tgt := 51) hx hb dX10_told_38 (by decide) (fun c41 => ?_) (fun c41 => ?_)
        · have hJ := it_pos c41 hJ
          exact sb_X10_told_51 C hz2 N t0 _ _ _ hJ hk0 w hl
        · have hJ := it_neg c41 hJ
          refine lv_aload_n hx hb dX10_told_41 rfl (lv_at hl 0 rfl) ?_
          refine lv_iload_n hx hb dX10_told_42 rfl (lv_at hl 1 rfl) ?_
          obtain ⟨⟨h42, r43⟩, e44, hJ⟩ := ob_some hJ
          refine jc_Vi (As := [.int x1]) C w (cc_X10_isKept N t0 (h.sgi 1300 t0 (0 : Int32)) x1 hk0 e44) (mo_X10_isKept N t0 (h.sgi 1300 t0 (0 : Int32)) x1 e44) (mb_X10_told_46 N t0 _ _ _ _ hJ) hz2 hk0 (by decide) rfl (fs := fs13 (h.sgi 1300 t0 (0 : Int32)) t0) rfl rfl ⟨tw_8_59, tw_8_56, tw_8_58, ts_57, tw_1_7⟩ cd_X10_isKept ⟨by decide, by decide⟩ hl.1 (by first | exact Nat.le_of_ble_eq_true rfl | simp [rf_cat, cat_i, cat_l, cat_r]) rfl dX10_told_43 (fun H locs w1 => ?_)
          have hk45 := kd_keep w (mo_X10_isKept N t0 (h.sgi 1300 t0 (0 : Int32)) x1 e44) hk0 (by decide)
          have w := w1
          exact sb_X10_told_46 C hz2 N t0 _ _ _ _ hJ hk45 w hl
      · have hJ := it_pos c38 hJ
        refine lv_aload_n hx hb dX10_told_24 rfl (lv_at hl 0 rfl) ?_
        refine fg_1301 C w hk0 tw_6_164 dX10_told_25 ?_
        refine lv_iload_n hx hb dX10_told_28 rfl (lv_at hl 1 rfl) ?_
        obtain ⟨a46, ea46, hka46, hJ⟩ := dr_some hJ
        rw [ea46]
        obtain ⟨hi47, hJ⟩ := ck_some hJ
        refine jr_ialdM C w hka46 hi47 dX10_told_29 ?_
        obtain ⟨rfl, rfl⟩ := rs2 hJ
        exact jr_iret C w hz2 dX10_told_30
    · have hJ := it_neg c37 hJ
      exact sb_X10_told_18 C hz2 N t0 _ hJ hk0 w (lv_sub (l' := [(0, .ref t0)]) hl [0] rfl)
def J_X10_told (N : Nat) (t0 : Nat) (h : Hp) (x1 : Int32) (x2 : Int32) : Option (Hp × Int32) := B_X10_told_0 N t0 h x1 x2
theorem mo_X10_told (N : Nat) (t0 : Nat) (h : Hp) (x1 : Int32) (x2 : Int32) (hJ : J_X10_told N t0 h x1 x2 = some (hz, rz)) : Mo h hz := mb_X10_told_0 N t0 h x1 x2 hJ
theorem cd_X10_told : Cd yX10_told 2 := ⟨by decide +kernel, by decide +kernel, by decide +kernel⟩
theorem cc_X10_told (N : Nat) (t0 : Nat) (h : Hp) (x1 : Int32) (x2 : Int32) (hk0 : h.kd t0 = 13) (hJ : J_X10_told N t0 h x1 x2 = some (hz, rz)) : Ci l yX10_told cX10_told 3 (some .int) 3 90 D cs h hz [.ref t0, .int x1, .int x2] rz := by
  intro mc ms g1 g2
  refine je_any (by decide) (by simp [lg_sl, rf_cat, cat_i, cat_l, cat_r]) ?_
  intro p e s m args below meth c C hin2 w ls hl
  have hl : lv_has ls 3 [(0, .ref t0), (1, .int x1), (2, .int x2)] := hl
  exact sb_X10_told_0 C ⟨g1, g2⟩ N t0 h x1 x2 hJ hk0 w hl
end G_X10_told
section G_X10_why
variable {p : Program} {l : Launch} {e : Env} {s : State} {m : MethodId} {args : Array Value} {below : List Frame} {meth : Method} {c : Code} {D : va_G} {cs : C4} {A : Nat → Prop} {h0 hz : Hp} {mc ms : Nat} {rz : Int32}
def B_X10_why_53 (N : Nat) (t0 : Nat) (h : Hp) (y0 : Int32) : Option (Hp × Int32) := some (h, y0)
theorem mb_X10_why_53 (N : Nat) (t0 : Nat) (h : Hp) (y0 : Int32) (hJ : B_X10_why_53 N t0 h y0 = some (hz, rz)) : Mo h hz := by
  unfold B_X10_why_53 at hJ
  obtain ⟨rfl, -⟩ := rs2 hJ
  exact ⟨fun _ _ => rfl, Nat.le_refl _, Nat.le_refl _, rfl, fun _ _ => rfl⟩
set_option maxRecDepth 100000 in
set_option maxHeartbeats 4000000 in
theorem sb_X10_why_53 (C : Cx p s m args meth c cX10_why 2 (some .int) RX10 D cs A h0.se) (hz2 : hz.nx ≤ h0.nx + mc ∧ hz.su ≤ h0.su + ms) (N : Nat) (t0 : Nat) (h : Hp) (y0 : Int32) (hJ : B_X10_why_53 N t0 h y0 = some (hz, rz)) (hk0 : h.kd t0 = 13) {H : Heap} {locs : List Loc} {cells slots : Nat} (w : Wo D cs A s h0 h H locs cells slots) {ls : Array Slot} (hl : lv_has ls 2 [(0, .ref t0)]) : W p l e { frames := 0, cells := mc, slots := ms, locals := 0 } s m args below meth c H locs cells slots (MQ below (Zi D cs A hz rz) args s mc ms A) (F0 m 53 ls [.int y0]) := by
  obtain ⟨hx, hb, hml, hown, hts, -⟩ := id C
  unfold B_X10_why_53 at hJ
  obtain ⟨rfl, rfl⟩ := rs2 hJ
  exact jr_iret C w hz2 dX10_why_53
def B_X10_why_0 (N : Nat) (t0 : Nat) (h : Hp) (x1 : Int32) : Option (Hp × Int32) := if x1 = 0 then (B_X10_why_53 N t0 (h.sgi 1300 t0 (0 : Int32)) ((h.sgi 1300 t0 (0 : Int32)).gi 1347 t0)) else (if x1 = (1 : Int32) then (B_X10_why_53 N t0 (h.sgi 1300 t0 (0 : Int32)) ((h.sgi 1300 t0 (0 : Int32)).gi 1348 t0)) else (if x1 = (2 : Int32) then (B_X10_why_53 N t0 (h.sgi 1300 t0 (0 : Int32)) ((h.sgi 1300 t0 (0 : Int32)).gi 1349 t0)) else (if x1 = (3 : Int32) then (B_X10_why_53 N t0 (h.sgi 1300 t0 (0 : Int32)) ((h.sgi 1300 t0 (0 : Int32)).gi 1350 t0)) else (B_X10_why_53 N t0 (h.sgi 1300 t0 (0 : Int32)) (0 : Int32)))))
theorem mb_X10_why_0 (N : Nat) (t0 : Nat) (h : Hp) (x1 : Int32) (hJ : B_X10_why_0 N t0 h x1 = some (hz, rz)) : Mo h hz := by
  unfold B_X10_why_0 at hJ
  by_cases c1 : x1 = 0
  · have hJ := it_pos c1 hJ
    exact (Mo.tr (show Mo h (h.sgi 1300 t0 (0 : Int32)) from ⟨fun _ _ => rfl, Nat.le_refl _, Nat.le_refl _, rfl, fun _ _ => rfl⟩) (mb_X10_why_53 N t0 _ _ hJ))
  · have hJ := it_neg c1 hJ
    by_cases c2 : x1 = (1 : Int32)
    · have hJ := it_pos c2 hJ
      exact (Mo.tr (show Mo h (h.sgi 1300 t0 (0 : Int32)) from ⟨fun _ _ => rfl, Nat.le_refl _, Nat.le_refl _, rfl, fun _ _ => rfl⟩) (mb_X10_why_53 N t0 _ _ hJ))
    · have hJ := it_neg c2 hJ
      by_cases c3 : x1 = (2 : Int32)
      · have hJ := it_pos c3 hJ
        exact (Mo.tr (show Mo h (h.sgi 1300 t0 (0 : Int32)) from ⟨fun _ _ => rfl, Nat.le_refl _, Nat.le_refl _, rfl, fun _ _ => rfl⟩) (mb_X10_why_53 N t0 _ _ hJ))
      · have hJ := it_neg c3 hJ
        by_cases c4 : x1 = (3 : Int32)
        · have hJ := it_pos c4 hJ
          exact (Mo.tr (show Mo h (h.sgi 1300 t0 (0 : Int32)) from ⟨fun _ _ => rfl, Nat.le_refl _, Nat.le_refl _, rfl, fun _ _ => rfl⟩) (mb_X10_why_53 N t0 _ _ hJ))
        · have hJ := it_neg c4 hJ
          exact (Mo.tr (show Mo h (h.sgi 1300 t0 (0 : Int32)) from ⟨fun _ _ => rfl, Nat.le_refl _, Nat.le_refl _, rfl, fun _ _ => rfl⟩) (mb_X10_why_53 N t0 _ _ hJ))
set_option maxRecDepth 100000 in
set_option maxHeartbeats 4000000 in
theorem sb_X10_why_0 (C : Cx p s m args meth c cX10_why 2 (some .int) RX10 D cs A h0.se) (hz2 : hz.nx ≤ h0.nx + mc ∧ hz.su ≤ h0.su + ms) (N : Nat) (t0 : Nat) (h : Hp) (x1 : Int32) (hJ : B_X10_why_0 N t0 h x1 = some (hz, rz)) (hk0 : h.kd t0 = 13) {H : Heap} {locs : List Loc} {cells slots : Nat} (w : Wo D cs A s h0 h H locs cells slots) {ls : Array Slot} (hl : lv_has ls 2 [(0, .ref t0), (1, .int x1)]) : W p l e { frames := 0, cells := mc, slots := ms, locals := 0 } s m args below meth c H locs cells slots (MQ below (Zi D cs A hz rz) args s mc ms A) (F0 m 0 ls []) := by
  obtain ⟨hx, hb, hml, hown, hts, -⟩ := id C
  unfold B_X10_why_0 at hJ
  refine lv_aload_n hx hb dX10_why_0 rfl (lv_at hl 0 rfl) ?_
  refine lv_iconst (v := (0 : Int32)) hx hb dX10_why_1 (by decide) ?_
  refine fp_1300 (x := (0 : Int32)) C w hk0 tw_6_163 dX10_why_2 (fun H locs w => ?_)
  refine lv_iload_n hx hb dX10_why_5 rfl (lv_at hl 1 rfl) ?_
  refine lv_if_ne (tgt := 16) hx hb dX10_why_6 (by decide) (fun c1 => ?_) (fun c1 => ?_)
  · have hJ := it_neg c1 hJ
    refine lv_iload_n hx hb dX10_why_16 rfl (lv_at hl 1 rfl) ?_
    refine lv_iconst (v := (1 : Int32)) hx hb dX10_why_17 (by decide) ?_
    refine lv_icmp_ne (tgt := 28) hx hb dX10_why_18 (by decide) (fun c2 => ?_) (fun c2 => ?_)
    · have hJ := it_neg c2 hJ
      refine lv_iload_n hx hb dX10_why_28 rfl (lv_at hl 1 rfl) ?_
      refine lv_iconst (v := (2 : Int32)) hx hb dX10_why_29 (by decide) ?_
      refine lv_icmp_ne (tgt := 40) hx hb dX10_why_30 (by decide) (fun c3 => ?_) (fun c3 => ?_)
      · have hJ := it_neg c3 hJ
        refine lv_iload_n hx hb dX10_why_40 rfl (lv_at hl 1 rfl) ?_
        refine lv_iconst (v := (3 : Int32)) hx hb dX10_why_41 (by decide) ?_
        refine lv_icmp_ne (tgt := 52) hx hb dX10_why_42 (by decide) (fun c4 => ?_) (fun c4 => ?_)
        · have hJ := it_neg c4 hJ
          refine lv_iconst (v := (0 : Int32)) hx hb dX10_why_52 (by decide) ?_
          exact sb_X10_why_53 C hz2 N t0 _ _ hJ hk0 w (lv_sub (l' := [(0, .ref t0)]) hl [0] rfl)
        · have hJ := it_pos c4 hJ
          refine lv_aload_n hx hb dX10_why_45 rfl (lv_at hl 0 rfl) ?_
          refine fg_1350 C w hk0 tw_6_213 dX10_why_46 ?_
          refine lv_goto (tgt := 53) hx hb dX10_why_49 (by decide) ?_
          exact sb_X10_why_53 C hz2 N t0 _ _ hJ hk0 w (lv_sub (l' := [(0, .ref t0)]) hl [0] rfl)
      · have hJ := it_pos c3 hJ
        refine lv_aload_n hx hb dX10_why_33 rfl (lv_at hl 0 rfl) ?_
        refine fg_1349 C w hk0 tw_6_212 dX10_why_34 ?_
        refine lv_goto (tgt := 53) hx hb dX10_why_37 (by decide) ?_
        exact sb_X10_why_53 C hz2 N t0 _ _ hJ hk0 w (lv_sub (l' := [(0, .ref t0)]) hl [0] rfl)
    · have hJ := it_pos c2 hJ
      refine lv_aload_n hx hb dX10_why_21 rfl (lv_at hl 0 rfl) ?_
      refine fg_1348 C w hk0 tw_6_211 dX10_why_22 ?_
      refine lv_goto (tgt := 53) hx hb dX10_why_25 (by decide) ?_
      exact sb_X10_why_53 C hz2 N t0 _ _ hJ hk0 w (lv_sub (l' := [(0, .ref t0)]) hl [0] rfl)
  · have hJ := it_pos c1 hJ
    refine lv_aload_n hx hb dX10_why_9 rfl (lv_at hl 0 rfl) ?_
    refine fg_1347 C w hk0 tw_6_210 dX10_why_10 ?_
    refine lv_goto (tgt := 53) hx hb dX10_why_13 (by decide) ?_
    exact sb_X10_why_53 C hz2 N t0 _ _ hJ hk0 w (lv_sub (l' := [(0, .ref t0)]) hl [0] rfl)
def J_X10_why (N : Nat) (t0 : Nat) (h : Hp) (x1 : Int32) : Option (Hp × Int32) := B_X10_why_0 N t0 h x1
theorem mo_X10_why (N : Nat) (t0 : Nat) (h : Hp) (x1 : Int32) (hJ : J_X10_why N t0 h x1 = some (hz, rz)) : Mo h hz := mb_X10_why_0 N t0 h x1 hJ
theorem cd_X10_why : Cd yX10_why 1 := ⟨by decide +kernel, by decide +kernel, by decide +kernel⟩
theorem cc_X10_why (N : Nat) (t0 : Nat) (h : Hp) (x1 : Int32) (hk0 : h.kd t0 = 13) (hJ : J_X10_why N t0 h x1 = some (hz, rz)) : Ci l yX10_why cX10_why 2 (some .int) 0 0 D cs h hz [.ref t0, .int x1] rz := by
  intro mc ms g1 g2
  refine je_any (by decide) (by simp [lg_sl, rf_cat, cat_i, cat_l, cat_r]) ?_
  intro p e s m args below meth c C hin2 w ls hl
  have hl : lv_has ls 2 [(0, .ref t0), (1, .int x1)] := hl
  exact sb_X10_why_0 C ⟨g1, g2⟩ N t0 h x1 hJ hk0 w hl
end G_X10_why
section G_X10_isKeptVersion
variable {p : Program} {l : Launch} {e : Env} {s : State} {m : MethodId} {args : Array Value} {below : List Frame} {meth : Method} {c : Code} {D : va_G} {cs : C4} {A : Nat → Prop} {h0 hz : Hp} {mc ms : Nat} {rz : Int32}
def B_X10_isKeptVersion_40 (N : Nat) (t0 : Nat) (h : Hp) (y0 : Int32) : Option (Hp × Int32) := ck (y0 = 0 ∨ y0 = 1) (some (h, y0))
theorem mb_X10_isKeptVersion_40 (N : Nat) (t0 : Nat) (h : Hp) (y0 : Int32) (hJ : B_X10_isKeptVersion_40 N t0 h y0 = some (hz, rz)) : Mo h hz := by
  unfold B_X10_isKeptVersion_40 at hJ
  obtain ⟨-, hJ⟩ := ck_some hJ
  obtain ⟨rfl, -⟩ := rs2 hJ
  exact ⟨fun _ _ => rfl, Nat.le_refl _, Nat.le_refl _, rfl, fun _ _ => rfl⟩
set_option maxRecDepth 100000 in
set_option maxHeartbeats 4000000 in
theorem sb_X10_isKeptVersion_40 (C : Cx p s m args meth c cX10_isKeptVersion 3 (some .boolean) RX10 D cs A h0.se) (hz2 : hz.nx ≤ h0.nx + mc ∧ hz.su ≤ h0.su + ms) (N : Nat) (t0 : Nat) (h : Hp) (y0 : Int32) (hJ : B_X10_isKeptVersion_40 N t0 h y0 = some (hz, rz)) (hk0 : h.kd t0 = 13) {H : Heap} {locs : List Loc} {cells slots : Nat} (w : Wo D cs A s h0 h H locs cells slots) {ls : Array Slot} (hl : lv_has ls 3 [(0, .ref t0)]) : W p l e { frames := 2, cells := mc, slots := ms, locals := 60 } s m args below meth c H locs cells slots (MQ below (Zi D cs A hz rz) args s mc ms A) (F0 m 40 ls [.int y0]) := by
  obtain ⟨hx, hb, hml, hown, hts, -⟩ := id C
  unfold B_X10_isKeptVersion_40 at hJ
  obtain ⟨hzo1, hJ⟩ := ck_some hJ
  obtain ⟨rfl, rfl⟩ := rs2 hJ
  exact jr_zret C w hzo1 hz2 dX10_isKeptVersion_40
def B_X10_isKeptVersion_39 (N : Nat) (t0 : Nat) (h : Hp) : Option (Hp × Int32) := B_X10_isKeptVersion_40 N t0 h (0 : Int32)
theorem mb_X10_isKeptVersion_39 (N : Nat) (t0 : Nat) (h : Hp) (hJ : B_X10_isKeptVersion_39 N t0 h = some (hz, rz)) : Mo h hz := by
  unfold B_X10_isKeptVersion_39 at hJ
  exact mb_X10_isKeptVersion_40 N t0 _ _ hJ
set_option maxRecDepth 100000 in
set_option maxHeartbeats 4000000 in
theorem sb_X10_isKeptVersion_39 (C : Cx p s m args meth c cX10_isKeptVersion 3 (some .boolean) RX10 D cs A h0.se) (hz2 : hz.nx ≤ h0.nx + mc ∧ hz.su ≤ h0.su + ms) (N : Nat) (t0 : Nat) (h : Hp) (hJ : B_X10_isKeptVersion_39 N t0 h = some (hz, rz)) (hk0 : h.kd t0 = 13) {H : Heap} {locs : List Loc} {cells slots : Nat} (w : Wo D cs A s h0 h H locs cells slots) {ls : Array Slot} (hl : lv_has ls 3 [(0, .ref t0)]) : W p l e { frames := 2, cells := mc, slots := ms, locals := 60 } s m args below meth c H locs cells slots (MQ below (Zi D cs A hz rz) args s mc ms A) (F0 m 39 ls []) := by
  obtain ⟨hx, hb, hml, hown, hts, -⟩ := id C
  unfold B_X10_isKeptVersion_39 at hJ
  refine lv_iconst (v := (0 : Int32)) hx hb dX10_isKeptVersion_39 (by decide) ?_
  exact sb_X10_isKeptVersion_40 C hz2 N t0 _ _ hJ hk0 w hl
def B_X10_isKeptVersion_22 (N : Nat) (t0 : Nat) (h : Hp) (x1 : Int32) (y0 : Int32) : Option (Hp × Int32) := if y0 = x1 then (dr h 32 (h.gr 1327 t0) (fun a3 => ck (¬ (x1 < 0 ∨ h.al a3 ≤ x1.toNatClampNeg)) (if (h.bi a3 x1.toNatClampNeg) = 0 then (B_X10_isKeptVersion_39 N t0 h) else (B_X10_isKeptVersion_40 N t0 h (1 : Int32))))) else (B_X10_isKeptVersion_39 N t0 h)
theorem mb_X10_isKeptVersion_22 (N : Nat) (t0 : Nat) (h : Hp) (x1 : Int32) (y0 : Int32) (hJ : B_X10_isKeptVersion_22 N t0 h x1 y0 = some (hz, rz)) : Mo h hz := by
  unfold B_X10_isKeptVersion_22 at hJ
  by_cases c2 : y0 = x1
  · have hJ := it_pos c2 hJ
    obtain ⟨a3, ea3, -, hJ⟩ := dr_some hJ
    obtain ⟨-, hJ⟩ := ck_some hJ
    by_cases c5 : (h.bi a3 x1.toNatClampNeg) = 0
    · have hJ := it_pos c5 hJ
      exact mb_X10_isKeptVersion_39 N t0 _ hJ
    · have hJ := it_neg c5 hJ
      exact mb_X10_isKeptVersion_40 N t0 _ _ hJ
  · have hJ := it_neg c2 hJ
    exact mb_X10_isKeptVersion_39 N t0 _ hJ
set_option maxRecDepth 100000 in
set_option maxHeartbeats 4000000 in
theorem sb_X10_isKeptVersion_22 (C : Cx p s m args meth c cX10_isKeptVersion 3 (some .boolean) RX10 D cs A h0.se) (hz2 : hz.nx ≤ h0.nx + mc ∧ hz.su ≤ h0.su + ms) (N : Nat) (t0 : Nat) (h : Hp) (x1 : Int32) (y0 : Int32) (hJ : B_X10_isKeptVersion_22 N t0 h x1 y0 = some (hz, rz)) (hk0 : h.kd t0 = 13) {H : Heap} {locs : List Loc} {cells slots : Nat} (w : Wo D cs A s h0 h H locs cells slots) {ls : Array Slot} (hl : lv_has ls 3 [(0, .ref t0), (1, .int x1)]) : W p l e { frames := 2, cells := mc, slots := ms, locals := 60 } s m args below meth c H locs cells slots (MQ below (Zi D cs A hz rz) args s mc ms A) (F0 m 22 ls [.int y0]) := by
  obtain ⟨hx, hb, hml, hown, hts, -⟩ := id C
  unfold B_X10_isKeptVersion_22 at hJ
  refine lv_iload_n hx hb dX10_isKeptVersion_22 rfl (lv_at hl 1 rfl) ?_
  refine lv_icmp_ne (tgt := 39) hx hb dX10_isKeptVersion_23 (by decide) (fun c2 => ?_) (fun c2 => ?_)
  · have hJ := it_neg c2 hJ
    exact sb_X10_isKeptVersion_39 C hz2 N t0 _ hJ hk0 w (lv_sub (l' := [(0, .ref t0)]) hl [0] rfl)
  · have hJ := it_pos c2 hJ
    refine lv_aload_n hx hb dX10_isKeptVersion_26 rfl (lv_at hl 0 rfl) ?_
    refine fg_1327 C w hk0 tw_6_190 dX10_isKeptVersion_27 ?_
    refine lv_iload_n hx hb dX10_isKeptVersion_30 rfl (lv_at hl 1 rfl) ?_
    obtain ⟨a3, ea3, hka3, hJ⟩ := dr_some hJ
    rw [ea3]
    obtain ⟨hi4, hJ⟩ := ck_some hJ
    refine jr_zaldM C w hka3 hi4 dX10_isKeptVersion_31 ?_
    refine lv_if_eq (tgt := 39) hx hb dX10_isKeptVersion_32 (by decide) (fun c5 => ?_) (fun c5 => ?_)
    · have hJ := it_pos c5 hJ
      exact sb_X10_isKeptVersion_39 C hz2 N t0 _ hJ hk0 w (lv_sub (l' := [(0, .ref t0)]) hl [0] rfl)
    · have hJ := it_neg c5 hJ
      refine lv_iconst (v := (1 : Int32)) hx hb dX10_isKeptVersion_35 (by decide) ?_
      refine lv_goto (tgt := 40) hx hb dX10_isKeptVersion_36 (by decide) ?_
      exact sb_X10_isKeptVersion_40 C hz2 N t0 _ _ hJ hk0 w (lv_sub (l' := [(0, .ref t0)]) hl [0] rfl)
def B_X10_isKeptVersion_5 (N : Nat) (t0 : Nat) (h : Hp) (x1 : Int32) (x2 : Int32) (y0 : Int32) : Option (Hp × Int32) := if y0 ≤ x2 then (dr h 30 (h.gr 1324 t0) (fun a7 => ck (¬ (x1 < 0 ∨ h.al a7 ≤ x1.toNatClampNeg)) ((J_X10_versionAt N t0 h (h.bi a7 x1.toNatClampNeg) x2).bind (fun z => B_X10_isKeptVersion_22 N t0 z.1 x1 z.2)))) else (some (h, (1 : Int32)))
theorem mb_X10_isKeptVersion_5 (N : Nat) (t0 : Nat) (h : Hp) (x1 : Int32) (x2 : Int32) (y0 : Int32) (hJ : B_X10_isKeptVersion_5 N t0 h x1 x2 y0 = some (hz, rz)) : Mo h hz := by
  unfold B_X10_isKeptVersion_5 at hJ
  by_cases c6 : y0 ≤ x2
  · have hJ := it_pos c6 hJ
    obtain ⟨a7, ea7, -, hJ⟩ := dr_some hJ
    obtain ⟨-, hJ⟩ := ck_some hJ
    obtain ⟨⟨h9, r10⟩, e11, hJ⟩ := ob_some hJ
    exact (mo_X10_versionAt N t0 h (h.bi a7 x1.toNatClampNeg) x2 e11).tr (mb_X10_isKeptVersion_22 N t0 _ _ _ hJ)
  · have hJ := it_neg c6 hJ
    obtain ⟨rfl, -⟩ := rs2 hJ
    exact ⟨fun _ _ => rfl, Nat.le_refl _, Nat.le_refl _, rfl, fun _ _ => rfl⟩
set_option maxRecDepth 100000 in
set_option maxHeartbeats 4000000 in
theorem sb_X10_isKeptVersion_5 (C : Cx p s m args meth c cX10_isKeptVersion 3 (some .boolean) RX10 D cs A h0.se) (hz2 : hz.nx ≤ h0.nx + mc ∧ hz.su ≤ h0.su + ms) (N : Nat) (t0 : Nat) (h : Hp) (x1 : Int32) (x2 : Int32) (y0 : Int32) (hJ : B_X10_isKeptVersion_5 N t0 h x1 x2 y0 = some (hz, rz)) (hk0 : h.kd t0 = 13) {H : Heap} {locs : List Loc} {cells slots : Nat} (w : Wo D cs A s h0 h H locs cells slots) {ls : Array Slot} (hl : lv_has ls 3 [(0, .ref t0), (1, .int x1), (2, .int x2)]) : W p l e { frames := 2, cells := mc, slots := ms, locals := 60 } s m args below meth c H locs cells slots (MQ below (Zi D cs A hz rz) args s mc ms A) (F0 m 5 ls [.int y0]) := by
  obtain ⟨hx, hb, hml, hown, hts, -⟩ := id C
  unfold B_X10_isKeptVersion_5 at hJ
  refine lv_iload_n hx hb dX10_isKeptVersion_5 rfl (lv_at hl 2 rfl) ?_
  refine lv_icmp_le (tgt := 11) hx hb dX10_isKeptVersion_6 (by decide) (fun c6 => ?_) (fun c6 => ?_)
  · have hJ := it_pos c6 hJ
    refine lv_aload_n hx hb dX10_isKeptVersion_11 rfl (lv_at hl 0 rfl) ?_
    refine lv_aload_n hx hb dX10_isKeptVersion_12 rfl (lv_at hl 0 rfl) ?_
    refine fg_1324 C w hk0 tw_6_187 dX10_isKeptVersion_13 ?_
    refine lv_iload_n hx hb dX10_isKeptVersion_16 rfl (lv_at hl 1 rfl) ?_
    obtain ⟨a7, ea7, hka7, hJ⟩ := dr_some hJ
    rw [ea7]
    obtain ⟨hi8, hJ⟩ := ck_some hJ
    refine jr_ialdM C w hka7 hi8 dX10_isKeptVersion_17 ?_
    refine lv_iload_n hx hb dX10_isKeptVersion_18 rfl (lv_at hl 2 rfl) ?_
    obtain ⟨⟨h9, r10⟩, e11, hJ⟩ := ob_some hJ
    refine jc_Vi (As := [.int (h.bi a7 x1.toNatClampNeg), .int x2]) C w (cc_X10_versionAt N t0 h (h.bi a7 x1.toNatClampNeg) x2 hk0 e11) (mo_X10_versionAt N t0 h (h.bi a7 x1.toNatClampNeg) x2 e11) (mb_X10_isKeptVersion_22 N t0 _ _ _ hJ) hz2 hk0 (by decide) rfl (fs := fs13 h t0) rfl rfl ⟨tw_7_230, tw_7_227, tw_7_229, ts_51, tw_1_7⟩ cd_X10_versionAt ⟨by decide, by decide⟩ hl.1 (by first | exact Nat.le_of_ble_eq_true rfl | simp [rf_cat, cat_i, cat_l, cat_r]) rfl dX10_isKeptVersion_19 (fun H locs w1 => ?_)
    have hk12 := kd_keep w (mo_X10_versionAt N t0 h (h.bi a7 x1.toNatClampNeg) x2 e11) hk0 (by decide)
    have w := w1
    exact sb_X10_isKeptVersion_22 C hz2 N t0 _ _ _ hJ hk12 w (lv_sub (l' := [(0, .ref t0), (1, .int x1)]) hl [0, 1] rfl)
  · have hJ := it_neg c6 hJ
    refine lv_iconst (v := (1 : Int32)) hx hb dX10_isKeptVersion_9 (by decide) ?_
    obtain ⟨rfl, rfl⟩ := rs2 hJ
    exact jr_zret C w (Or.inr rfl) hz2 dX10_isKeptVersion_10
def B_X10_isKeptVersion_0 (N : Nat) (t0 : Nat) (h : Hp) (x1 : Int32) (x2 : Int32) : Option (Hp × Int32) := (J_X10_momentOf N t0 h x1).bind (fun z => B_X10_isKeptVersion_5 N t0 z.1 x1 x2 z.2)
theorem mb_X10_isKeptVersion_0 (N : Nat) (t0 : Nat) (h : Hp) (x1 : Int32) (x2 : Int32) (hJ : B_X10_isKeptVersion_0 N t0 h x1 x2 = some (hz, rz)) : Mo h hz := by
  unfold B_X10_isKeptVersion_0 at hJ
  obtain ⟨⟨h13, r14⟩, e15, hJ⟩ := ob_some hJ
  exact (mo_X10_momentOf N t0 h x1 e15).tr (mb_X10_isKeptVersion_5 N t0 _ _ _ _ hJ)
set_option maxRecDepth 100000 in
set_option maxHeartbeats 4000000 in
theorem sb_X10_isKeptVersion_0 (C : Cx p s m args meth c cX10_isKeptVersion 3 (some .boolean) RX10 D cs A h0.se) (hz2 : hz.nx ≤ h0.nx + mc ∧ hz.su ≤ h0.su + ms) (N : Nat) (t0 : Nat) (h : Hp) (x1 : Int32) (x2 : Int32) (hJ : B_X10_isKeptVersion_0 N t0 h x1 x2 = some (hz, rz)) (hk0 : h.kd t0 = 13) {H : Heap} {locs : List Loc} {cells slots : Nat} (w : Wo D cs A s h0 h H locs cells slots) {ls : Array Slot} (hl : lv_has ls 3 [(0, .ref t0), (1, .int x1), (2, .int x2)]) : W p l e { frames := 2, cells := mc, slots := ms, locals := 60 } s m args below meth c H locs cells slots (MQ below (Zi D cs A hz rz) args s mc ms A) (F0 m 0 ls []) := by
  obtain ⟨hx, hb, hml, hown, hts, -⟩ := id C
  unfold B_X10_isKeptVersion_0 at hJ
  refine lv_aload_n hx hb dX10_isKeptVersion_0 rfl (lv_at hl 0 rfl) ?_
  refine lv_iload_n hx hb dX10_isKeptVersion_1 rfl (lv_at hl 1 rfl) ?_
  obtain ⟨⟨h13, r14⟩, e15, hJ⟩ := ob_some hJ
  refine jc_Vi (As := [.int x1]) C w (cc_X10_momentOf N t0 h x1 hk0 e15) (mo_X10_momentOf N t0 h x1 e15) (mb_X10_isKeptVersion_5 N t0 _ _ _ _ hJ) hz2 hk0 (by decide) rfl (fs := fs13 h t0) rfl rfl ⟨tw_7_182, tw_7_179, tw_7_181, ts_41, tw_1_7⟩ cd_X10_momentOf ⟨by decide, by decide⟩ hl.1 (by first | exact Nat.le_of_ble_eq_true rfl | simp [rf_cat, cat_i, cat_l, cat_r]) rfl dX10_isKeptVersion_2 (fun H locs w1 => ?_)
  have hk16 := kd_keep w (mo_X10_momentOf N t0 h x1 e15) hk0 (by decide)
  have w := w1
  exact sb_X10_isKeptVersion_5 C hz2 N t0 _ _ _ _ hJ hk16 w hl
def J_X10_isKeptVersion (N : Nat) (t0 : Nat) (h : Hp) (x1 : Int32) (x2 : Int32) : Option (Hp × Int32) := B_X10_isKeptVersion_0 N t0 h x1 x2
theorem mo_X10_isKeptVersion (N : Nat) (t0 : Nat) (h : Hp) (x1 : Int32) (x2 : Int32) (hJ : J_X10_isKeptVersion N t0 h x1 x2 = some (hz, rz)) : Mo h hz := mb_X10_isKeptVersion_0 N t0 h x1 x2 hJ
theorem cd_X10_isKeptVersion : Cd yX10_isKeptVersion 2 := ⟨by decide +kernel, by decide +kernel, by decide +kernel⟩
theorem cc_X10_isKeptVersion (N : Nat) (t0 : Nat) (h : Hp) (x1 : Int32) (x2 : Int32) (hk0 : h.kd t0 = 13) (hJ : J_X10_isKeptVersion N t0 h x1 x2 = some (hz, rz)) : Ci l yX10_isKeptVersion cX10_isKeptVersion 3 (some .boolean) 2 60 D cs h hz [.ref t0, .int x1, .int x2] rz := by
  intro mc ms g1 g2
  refine je_any (by decide) (by simp [lg_sl, rf_cat, cat_i, cat_l, cat_r]) ?_
  intro p e s m args below meth c C hin2 w ls hl
  have hl : lv_has ls 3 [(0, .ref t0), (1, .int x1), (2, .int x2)] := hl
  exact sb_X10_isKeptVersion_0 C ⟨g1, g2⟩ N t0 h x1 x2 hJ hk0 w hl
end G_X10_isKeptVersion
section G_X10_versionOf
variable {p : Program} {l : Launch} {e : Env} {s : State} {m : MethodId} {args : Array Value} {below : List Frame} {meth : Method} {c : Code} {D : va_G} {cs : C4} {A : Nat → Prop} {h0 hz : Hp} {mc ms : Nat} {rz : Int32}
def B_X10_versionOf_60 (N : Nat) (k16 : Hp → Int32 → Int32 → Int32 → Int32 → Int32 → Option (Hp × Int32)) (t0 : Nat) (h : Hp) (x1 : Int32) (x2 : Int32) (x3 : Int32) (x4 : Int32) (x5 : Int32) : Option (Hp × Int32) := k16 h x1 x2 x3 x4 (x5 + (-1 : Int32))
theorem mb_X10_versionOf_60 (N : Nat) (k16 : Hp → Int32 → Int32 → Int32 → Int32 → Int32 → Option (Hp × Int32)) (t0 : Nat) (h : Hp) (x1 : Int32) (x2 : Int32) (x3 : Int32) (x4 : Int32) (x5 : Int32) (m16 : ∀ (h : Hp) (x1 : Int32) (x2 : Int32) (x3 : Int32) (x4 : Int32) (x5 : Int32), k16 h x1 x2 x3 x4 x5 = some (hz, rz) → Mo h hz) (hJ : B_X10_versionOf_60 N k16 t0 h x1 x2 x3 x4 x5 = some (hz, rz)) : Mo h hz := by
  unfold B_X10_versionOf_60 at hJ
  exact m16 _ _ _ _ _ _ hJ
set_option maxRecDepth 100000 in
set_option maxHeartbeats 4000000 in
theorem sb_X10_versionOf_60 (C : Cx p s m args meth c cX10_versionOf 6 (some .int) RX10 D cs A h0.se) (hz2 : hz.nx ≤ h0.nx + mc ∧ hz.su ≤ h0.su + ms) (N : Nat) (k16 : Hp → Int32 → Int32 → Int32 → Int32 → Int32 → Option (Hp × Int32)) (t0 : Nat) (m16 : ∀ (h : Hp) (x1 : Int32) (x2 : Int32) (x3 : Int32) (x4 : Int32) (x5 : Int32), k16 h x1 x2 x3 x4 x5 = some (hz, rz) → Mo h hz) (i16 : ∀ (h : Hp) (x1 : Int32) (x2 : Int32) (x3 : Int32) (x4 : Int32) (x5 : Int32) (H : Heap) (locs : List Loc) (cells slots : Nat) (ls : Array Slot), k16 h x1 x2 x3 x4 x5 = some (hz, rz) → h.kd t0 = 13 → Wo D cs A s h0 h H locs cells slots → lv_has ls 6 [(0, .ref t0), (1, .int x1), (2, .int x2), (3, .int x3), (4, .int x4), (5, .int x5)] → W p l e { frames := 3, cells := mc, slots := ms, locals := 90 } s m args below meth c H locs cells slots (MQ below (Zi D cs A hz rz) args s mc ms A) (F0 m 16 ls [])) (h : Hp) (x1 : Int32) (x2 : Int32) (x3 : Int32) (x4 : Int32) (x5 : Int32) (hJ : B_X10_versionOf_60 N k16 t0 h x1 x2 x3 x4 x5 = some (hz, rz)) (hk0 : h.kd t0 = 13) {H : Heap} {locs : List Loc} {cells slots : Nat} (w : Wo D cs A s h0 h H locs cells slots) {ls : Array Slot} (hl : lv_has ls 6 [(0, .ref t0), (1, .int x1), (2, .int x2), (3, .int x3), (4, .int x4), (5, .int x5)]) : W p l e { frames := 3, cells := mc, slots := ms, locals := 90 } s m args below meth c H locs cells slots (MQ below (Zi D cs A hz rz) args s mc ms A) (F0 m 60 ls []) := by
  obtain ⟨hx, hb, hml, hown, hts, -⟩ := id C
  unfold B_X10_versionOf_60 at hJ
  refine lv_iinc (v := x5 + (-1 : Int32)) (lv' := [(5, .int (x5 + (-1 : Int32))), (0, .ref t0), (1, .int x1), (2, .int x2), (3, .int x3), (4, .int x4)]) hx hb dX10_versionOf_60 hl (k := 5) rfl rfl (by decide) rfl (fun ls hl => ?_)
  refine lv_goto (tgt := 16) hx hb dX10_versionOf_63 (by decide) ?_
  exact i16 _ _ _ _ _ _ _ _ _ _ _ hJ hk0 w (lv_sub (l' := [(0, .ref t0), (1, .int x1), (2, .int x2), (3, .int x3), (4, .int x4), (5, .int (x5 + (-1 : Int32)))]) hl [1, 2, 3, 4, 5, 0] rfl)
def B_X10_versionOf_43 (N : Nat) (k16 : Hp → Int32 → Int32 → Int32 → Int32 → Int32 → Option (Hp × Int32)) (t0 : Nat) (h : Hp) (x1 : Int32) (x2 : Int32) (x3 : Int32) (x4 : Int32) (x5 : Int32) (y0 : Int32) : Option (Hp × Int32) := if y0 = 0 then (B_X10_versionOf_60 N k16 t0 h x1 x2 x3 x4 x5) else (if x4 = 0 then (some (h, x5)) else (B_X10_versionOf_60 N k16 t0 h x1 x2 x3 (x4 + (-1 : Int32)) x5))
theorem mb_X10_versionOf_43 (N : Nat) (k16 : Hp → Int32 → Int32 → Int32 → Int32 → Int32 → Option (Hp × Int32)) (t0 : Nat) (h : Hp) (x1 : Int32) (x2 : Int32) (x3 : Int32) (x4 : Int32) (x5 : Int32) (y0 : Int32) (m16 : ∀ (h : Hp) (x1 : Int32) (x2 : Int32) (x3 : Int32) (x4 : Int32) (x5 : Int32), k16 h x1 x2 x3 x4 x5 = some (hz, rz) → Mo h hz) (hJ : B_X10_versionOf_43 N k16 t0 h x1 x2 x3 x4 x5 y0 = some (hz, rz)) : Mo h hz := by
  unfold B_X10_versionOf_43 at hJ
  by_cases c1 : y0 = 0
  · have hJ := it_pos c1 hJ
    exact mb_X10_versionOf_60 N k16 t0 _ _ _ _ _ _ m16 hJ
  · have hJ := it_neg c1 hJ
    by_cases c2 : x4 = 0
    · have hJ := it_pos c2 hJ
      obtain ⟨rfl, -⟩ := rs2 hJ
      exact ⟨fun _ _ => rfl, Nat.le_refl _, Nat.le_refl _, rfl, fun _ _ => rfl⟩
    · have hJ := it_neg c2 hJ
      exact mb_X10_versionOf_60 N k16 t0 _ _ _ _ _ _ m16 hJ
set_option maxRecDepth 100000 in
set_option maxHeartbeats 4000000 in
theorem sb_X10_versionOf_43 (C : Cx p s m args meth c cX10_versionOf 6 (some .int) RX10 D cs A h0.se) (hz2 : hz.nx ≤ h0.nx + mc ∧ hz.su ≤ h0.su + ms) (N : Nat) (k16 : Hp → Int32 → Int32 → Int32 → Int32 → Int32 → Option (Hp × Int32)) (t0 : Nat) (m16 : ∀ (h : Hp) (x1 : Int32) (x2 : Int32) (x3 : Int32) (x4 : Int32) (x5 : Int32), k16 h x1 x2 x3 x4 x5 = some (hz, rz) → Mo h hz) (i16 : ∀ (h : Hp) (x1 : Int32) (x2 : Int32) (x3 : Int32) (x4 : Int32) (x5 : Int32) (H : Heap) (locs : List Loc) (cells slots : Nat) (ls : Array Slot), k16 h x1 x2 x3 x4 x5 = some (hz, rz) → h.kd t0 = 13 → Wo D cs A s h0 h H locs cells slots → lv_has ls 6 [(0, .ref t0), (1, .int x1), (2, .int x2), (3, .int x3), (4, .int x4), (5, .int x5)] → W p l e { frames := 3, cells := mc, slots := ms, locals := 90 } s m args below meth c H locs cells slots (MQ below (Zi D cs A hz rz) args s mc ms A) (F0 m 16 ls [])) (h : Hp) (x1 : Int32) (x2 : Int32) (x3 : Int32) (x4 : Int32) (x5 : Int32) (y0 : Int32) (hJ : B_X10_versionOf_43 N k16 t0 h x1 x2 x3 x4 x5 y0 = some (hz, rz)) (hk0 : h.kd t0 = 13) {H : Heap} {locs : List Loc} {cells slots : Nat} (w : Wo D cs A s h0 h H locs cells slots) {ls : Array Slot} (hl : lv_has ls 6 [(0, .ref t0), (1, .int x1), (2, .int x2), (3, .int x3), (4, .int x4), (5, .int x5)]) : W p l e { frames := 3, cells := mc, slots := ms, locals := 90 } s m args below meth c H locs cells slots (MQ below (Zi D cs A hz rz) args s mc ms A) (F0 m 43 ls [.int y0]) := by
  obtain ⟨hx, hb, hml, hown, hts, -⟩ := id C
  unfold B_X10_versionOf_43 at hJ
  refine lv_if_ne (tgt := 49) hx hb dX10_versionOf_43 (by decide) (fun c1 => ?_) (fun c1 => ?_)
  · have hJ := it_neg c1 hJ
    refine lv_iload hx hb dX10_versionOf_49 (lv_at hl 4 rfl) ?_
    refine lv_if_ne (tgt := 57) hx hb dX10_versionOf_51 (by decide) (fun c2 => ?_) (fun c2 => ?_)
    · have hJ := it_neg c2 hJ
      refine lv_iinc (v := x4 + (-1 : Int32)) (lv' := [(4, .int (x4 + (-1 : Int32))), (0, .ref t0), (1, .int x1), (2, .int x2), (3, .int x3), (5, .int x5)]) hx hb dX10_versionOf_57 hl (k := 4) rfl rfl (by decide) rfl (fun ls hl => ?_)
      exact sb_X10_versionOf_60 C hz2 N k16 t0 m16 i16 _ _ _ _ _ _ hJ hk0 w (lv_sub (l' := [(0, .ref t0), (1, .int x1), (2, .int x2), (3, .int x3), (4, .int (x4 + (-1 : Int32))), (5, .int x5)]) hl [1, 2, 3, 4, 0, 5] rfl)
    · have hJ := it_pos c2 hJ
      refine lv_iload hx hb dX10_versionOf_54 (lv_at hl 5 rfl) ?_
      obtain ⟨rfl, rfl⟩ := rs2 hJ
      exact jr_iret C w hz2 dX10_versionOf_56
  · have hJ := it_pos c1 hJ
    refine lv_goto (tgt := 60) hx hb dX10_versionOf_46 (by decide) ?_
    exact sb_X10_versionOf_60 C hz2 N k16 t0 m16 i16 _ _ _ _ _ _ hJ hk0 w hl
def B_X10_versionOf_66 (N : Nat) (t0 : Nat) (h : Hp) : Option (Hp × Int32) := some (h, (-1 : Int32))
theorem mb_X10_versionOf_66 (N : Nat) (t0 : Nat) (h : Hp) (hJ : B_X10_versionOf_66 N t0 h = some (hz, rz)) : Mo h hz := by
  unfold B_X10_versionOf_66 at hJ
  obtain ⟨rfl, -⟩ := rs2 hJ
  exact ⟨fun _ _ => rfl, Nat.le_refl _, Nat.le_refl _, rfl, fun _ _ => rfl⟩
set_option maxRecDepth 100000 in
set_option maxHeartbeats 4000000 in
theorem sb_X10_versionOf_66 (C : Cx p s m args meth c cX10_versionOf 6 (some .int) RX10 D cs A h0.se) (hz2 : hz.nx ≤ h0.nx + mc ∧ hz.su ≤ h0.su + ms) (N : Nat) (t0 : Nat) (h : Hp) (hJ : B_X10_versionOf_66 N t0 h = some (hz, rz)) (hk0 : h.kd t0 = 13) {H : Heap} {locs : List Loc} {cells slots : Nat} (w : Wo D cs A s h0 h H locs cells slots) {ls : Array Slot} (hl : lv_has ls 6 [(0, .ref t0)]) : W p l e { frames := 3, cells := mc, slots := ms, locals := 90 } s m args below meth c H locs cells slots (MQ below (Zi D cs A hz rz) args s mc ms A) (F0 m 66 ls []) := by
  obtain ⟨hx, hb, hml, hown, hts, -⟩ := id C
  unfold B_X10_versionOf_66 at hJ
  refine lv_iconst (v := (-1 : Int32)) hx hb dX10_versionOf_66 (by decide) ?_
  obtain ⟨rfl, rfl⟩ := rs2 hJ
  exact jr_iret C w hz2 dX10_versionOf_67
def B_X10_versionOf_16 (N : Nat) (k16 : Hp → Int32 → Int32 → Int32 → Int32 → Int32 → Option (Hp × Int32)) (t0 : Nat) (h : Hp) (x1 : Int32) (x2 : Int32) (x3 : Int32) (x4 : Int32) (x5 : Int32) : Option (Hp × Int32) := if x5 < 0 then (B_X10_versionOf_66 N t0 h) else (if x2 < 0 then (B_X10_versionOf_66 N t0 h) else (dr h 30 (h.gr 1324 t0) (fun a5 => ck (¬ (x5 < 0 ∨ h.al a5 ≤ x5.toNatClampNeg)) (if (h.bi a5 x5.toNatClampNeg) = x1 then ((J_X10_isKeptVersion N t0 h x5 x3).bind (fun z => B_X10_versionOf_43 N k16 t0 z.1 x1 x2 x3 x4 x5 z.2)) else (B_X10_versionOf_60 N k16 t0 h x1 x2 x3 x4 x5)))))
theorem mb_X10_versionOf_16 (N : Nat) (k16 : Hp → Int32 → Int32 → Int32 → Int32 → Int32 → Option (Hp × Int32)) (t0 : Nat) (h : Hp) (x1 : Int32) (x2 : Int32) (x3 : Int32) (x4 : Int32) (x5 : Int32) (m16 : ∀ (h : Hp) (x1 : Int32) (x2 : Int32) (x3 : Int32) (x4 : Int32) (x5 : Int32), k16 h x1 x2 x3 x4 x5 = some (hz, rz) → Mo h hz) (hJ : B_X10_versionOf_16 N k16 t0 h x1 x2 x3 x4 x5 = some (hz, rz)) : Mo h hz := by
  unfold B_X10_versionOf_16 at hJ
  by_cases c3 : x5 < 0
  · have hJ := it_pos c3 hJ
    exact mb_X10_versionOf_66 N t0 _ hJ
  · have hJ := it_neg c3 hJ
    by_cases c4 : x2 < 0
    · have hJ := it_pos c4 hJ
      exact mb_X10_versionOf_66 N t0 _ hJ
    · have hJ := it_neg c4 hJ
      obtain ⟨a5, ea5, -, hJ⟩ := dr_some hJ
      obtain ⟨-, hJ⟩ := ck_some hJ
      by_cases c7 : (h.bi a5 x5.toNatClampNeg) = x1
      · have hJ := it_pos c7 hJ
        obtain ⟨⟨h8, r9⟩, e10, hJ⟩ := ob_some hJ
        exact (mo_X10_isKeptVersion N t0 h x5 x3 e10).tr (mb_X10_versionOf_43 N k16 t0 _ _ _ _ _ _ _ m16 hJ)
      · have hJ := it_neg c7 hJ
        exact mb_X10_versionOf_60 N k16 t0 _ _ _ _ _ _ m16 hJ
set_option maxRecDepth 100000 in
set_option maxHeartbeats 4000000 in
theorem sb_X10_versionOf_16 (C : Cx p s m args meth c cX10_versionOf 6 (some .int) RX10 D cs A h0.se) (hz2 : hz.nx ≤ h0.nx + mc ∧ hz.su ≤ h0.su + ms) (N : Nat) (k16 : Hp → Int32 → Int32 → Int32 → Int32 → Int32 → Option (Hp × Int32)) (t0 : Nat) (m16 : ∀ (h : Hp) (x1 : Int32) (x2 : Int32) (x3 : Int32) (x4 : Int32) (x5 : Int32), k16 h x1 x2 x3 x4 x5 = some (hz, rz) → Mo h hz) (i16 : ∀ (h : Hp) (x1 : Int32) (x2 : Int32) (x3 : Int32) (x4 : Int32) (x5 : Int32) (H : Heap) (locs : List Loc) (cells slots : Nat) (ls : Array Slot), k16 h x1 x2 x3 x4 x5 = some (hz, rz) → h.kd t0 = 13 → Wo D cs A s h0 h H locs cells slots → lv_has ls 6 [(0, .ref t0), (1, .int x1), (2, .int x2), (3, .int x3), (4, .int x4), (5, .int x5)] → W p l e { frames := 3, cells := mc, slots := ms, locals := 90 } s m args below meth c H locs cells slots (MQ below (Zi D cs A hz rz) args s mc ms A) (F0 m 16 ls [])) (h : Hp) (x1 : Int32) (x2 : Int32) (x3 : Int32) (x4 : Int32) (x5 : Int32) (hJ : B_X10_versionOf_16 N k16 t0 h x1 x2 x3 x4 x5 = some (hz, rz)) (hk0 : h.kd t0 = 13) {H : Heap} {locs : List Loc} {cells slots : Nat} (w : Wo D cs A s h0 h H locs cells slots) {ls : Array Slot} (hl : lv_has ls 6 [(0, .ref t0), (1, .int x1), (2, .int x2), (3, .int x3), (4, .int x4), (5, .int x5)]) : W p l e { frames := 3, cells := mc, slots := ms, locals := 90 } s m args below meth c H locs cells slots (MQ below (Zi D cs A hz rz) args s mc ms A) (F0 m 16 ls []) := by
  obtain ⟨hx, hb, hml, hown, hts, -⟩ := id C
  unfold B_X10_versionOf_16 at hJ
  refine lv_iload hx hb dX10_versionOf_16 (lv_at hl 5 rfl) ?_
  refine lv_if_lt (tgt := 66) hx hb dX10_versionOf_18 (by decide) (fun c3 => ?_) (fun c3 => ?_)
  · have hJ := it_pos c3 hJ
    exact sb_X10_versionOf_66 C hz2 N t0 _ hJ hk0 w (lv_sub (l' := [(0, .ref t0)]) hl [0] rfl)
  · have hJ := it_neg c3 hJ
    refine lv_iload_n hx hb dX10_versionOf_21 rfl (lv_at hl 2 rfl) ?_
    refine lv_if_lt (tgt := 66) hx hb dX10_versionOf_22 (by decide) (fun c4 => ?_) (fun c4 => ?_)
    · have hJ := it_pos c4 hJ
      exact sb_X10_versionOf_66 C hz2 N t0 _ hJ hk0 w (lv_sub (l' := [(0, .ref t0)]) hl [0] rfl)
    · have hJ := it_neg c4 hJ
      refine lv_aload_n hx hb dX10_versionOf_25 rfl (lv_at hl 0 rfl) ?_
      refine fg_1324 C w hk0 tw_6_187 dX10_versionOf_26 ?_
      refine lv_iload hx hb dX10_versionOf_29 (lv_at hl 5 rfl) ?_
      obtain ⟨a5, ea5, hka5, hJ⟩ := dr_some hJ
      rw [ea5]
      obtain ⟨hi6, hJ⟩ := ck_some hJ
      refine jr_ialdM C w hka5 hi6 dX10_versionOf_31 ?_
      refine lv_iload_n hx hb dX10_versionOf_32 rfl (lv_at hl 1 rfl) ?_
      refine lv_icmp_ne (tgt := 60) hx hb dX10_versionOf_33 (by decide) (fun c7 => ?_) (fun c7 => ?_)
      · have hJ := it_neg c7 hJ
        exact sb_X10_versionOf_60 C hz2 N k16 t0 m16 i16 _ _ _ _ _ _ hJ hk0 w hl
      · have hJ := it_pos c7 hJ
        refine lv_aload_n hx hb dX10_versionOf_36 rfl (lv_at hl 0 rfl) ?_
        refine lv_iload hx hb dX10_versionOf_37 (lv_at hl 5 rfl) ?_
        refine lv_iload_n hx hb dX10_versionOf_39 rfl (lv_at hl 3 rfl) ?_
        obtain ⟨⟨h8, r9⟩, e10, hJ⟩ := ob_some hJ
        refine jc_Vi (As := [.int x5, .int x3]) C w (cc_X10_isKeptVersion N t0 h x5 x3 hk0 e10) (mo_X10_isKeptVersion N t0 h x5 x3 e10) (mb_X10_versionOf_43 N k16 t0 _ _ _ _ _ _ _ m16 hJ) hz2 hk0 (by decide) rfl (fs := fs13 h t0) rfl rfl ⟨tw_8_84, tw_8_81, tw_8_83, ts_61, tw_1_7⟩ cd_X10_isKeptVersion ⟨by decide, by decide⟩ hl.1 (by first | exact Nat.le_of_ble_eq_true rfl | simp [rf_cat, cat_i, cat_l, cat_r]) rfl dX10_versionOf_40 (fun H locs w1 => ?_)
        have hk11 := kd_keep w (mo_X10_isKeptVersion N t0 h x5 x3 e10) hk0 (by decide)
        have w := w1
        exact sb_X10_versionOf_43 C hz2 N k16 t0 m16 i16 _ _ _ _ _ _ _ hJ hk11 w hl
def L_X10_versionOf_16 (N : Nat) (t0 : Nat) : Nat → Hp → Int32 → Int32 → Int32 → Int32 → Int32 → Option (Hp × Int32)
  | 0 => fun _ _ _ _ _ _ => none
  | n + 1 => fun h x1 x2 x3 x4 x5 => B_X10_versionOf_16 N (L_X10_versionOf_16 N t0 n) t0 h x1 x2 x3 x4 x5
theorem ml_X10_versionOf_16 (N : Nat) (t0 : Nat) : ∀ (n : Nat) (h : Hp) (x1 : Int32) (x2 : Int32) (x3 : Int32) (x4 : Int32) (x5 : Int32), L_X10_versionOf_16 N t0 n h x1 x2 x3 x4 x5 = some (hz, rz) → Mo h hz := by
  intro n
  induction n with
  | zero => intro h x1 x2 x3 x4 x5 hJ; cases hJ
  | succ n ih => intro h x1 x2 x3 x4 x5 hJ; exact mb_X10_versionOf_16 N (L_X10_versionOf_16 N t0 n) t0 h x1 x2 x3 x4 x5 ih hJ
theorem sl_X10_versionOf_16 (C : Cx p s m args meth c cX10_versionOf 6 (some .int) RX10 D cs A h0.se) (hz2 : hz.nx ≤ h0.nx + mc ∧ hz.su ≤ h0.su + ms) (N : Nat) (t0 : Nat) : ∀ n : Nat, ∀ (h : Hp) (x1 : Int32) (x2 : Int32) (x3 : Int32) (x4 : Int32) (x5 : Int32) (H : Heap) (locs : List Loc) (cells slots : Nat) (ls : Array Slot), L_X10_versionOf_16 N t0 n h x1 x2 x3 x4 x5 = some (hz, rz) → h.kd t0 = 13 → Wo D cs A s h0 h H locs cells slots → lv_has ls 6 [(0, .ref t0), (1, .int x1), (2, .int x2), (3, .int x3), (4, .int x4), (5, .int x5)] → W p l e { frames := 3, cells := mc, slots := ms, locals := 90 } s m args below meth c H locs cells slots (MQ below (Zi D cs A hz rz) args s mc ms A) (F0 m 16 ls []) := by
  intro n
  induction n with
  | zero => intro h x1 x2 x3 x4 x5 H locs cells slots ls hJ; cases hJ
  | succ n ih =>
    intro h x1 x2 x3 x4 x5 H locs cells slots ls hJ hk0 w hl
    exact sb_X10_versionOf_16 C hz2 N (L_X10_versionOf_16 N t0 n) t0 (ml_X10_versionOf_16 N t0 n) ih h x1 x2 x3 x4 x5 hJ hk0 w hl
def B_X10_versionOf_4 (N : Nat) (t0 : Nat) (h : Hp) (x1 : Int32) (x2 : Int32) (y0 : Int32) : Option (Hp × Int32) := L_X10_versionOf_16 N t0 N h x1 x2 y0 x2 ((h.gi 1328 t0) - (1 : Int32))
theorem mb_X10_versionOf_4 (N : Nat) (t0 : Nat) (h : Hp) (x1 : Int32) (x2 : Int32) (y0 : Int32) (hJ : B_X10_versionOf_4 N t0 h x1 x2 y0 = some (hz, rz)) : Mo h hz := by
  unfold B_X10_versionOf_4 at hJ
  exact ml_X10_versionOf_16 N t0 N _ _ _ _ _ _ hJ
set_option maxRecDepth 100000 in
set_option maxHeartbeats 4000000 in
theorem sb_X10_versionOf_4 (C : Cx p s m args meth c cX10_versionOf 6 (some .int) RX10 D cs A h0.se) (hz2 : hz.nx ≤ h0.nx + mc ∧ hz.su ≤ h0.su + ms) (N : Nat) (t0 : Nat) (h : Hp) (x1 : Int32) (x2 : Int32) (y0 : Int32) (hJ : B_X10_versionOf_4 N t0 h x1 x2 y0 = some (hz, rz)) (hk0 : h.kd t0 = 13) {H : Heap} {locs : List Loc} {cells slots : Nat} (w : Wo D cs A s h0 h H locs cells slots) {ls : Array Slot} (hl : lv_has ls 6 [(0, .ref t0), (1, .int x1), (2, .int x2)]) : W p l e { frames := 3, cells := mc, slots := ms, locals := 90 } s m args below meth c H locs cells slots (MQ below (Zi D cs A hz rz) args s mc ms A) (F0 m 4 ls [.int y0]) := by
  obtain ⟨hx, hb, hml, hown, hts, -⟩ := id C
  unfold B_X10_versionOf_4 at hJ
  refine lv_istore_n (i := 3) (lv' := [(3, .int y0), (0, .ref t0), (1, .int x1), (2, .int x2)]) hx hb dX10_versionOf_4 rfl hl (by decide) rfl (fun ls hl => ?_)
  refine lv_iload_n hx hb dX10_versionOf_5 rfl (lv_at hl 3 rfl) ?_
  refine lv_istore (i := 4) (lv' := [(4, .int x2), (3, .int y0), (0, .ref t0), (1, .int x1), (2, .int x2)]) hx hb dX10_versionOf_6 hl (by decide) rfl (fun ls hl => ?_)
  refine lv_aload_n hx hb dX10_versionOf_8 rfl (lv_at hl 2 rfl) ?_
  refine fg_1328 C w hk0 tw_6_191 dX10_versionOf_9 ?_
  refine lv_iconst (v := (1 : Int32)) hx hb dX10_versionOf_12 (by decide) ?_
  refine lv_isub hx hb dX10_versionOf_13 ?_
  refine lv_istore (i := 5) (lv' := [(5, .int ((h.gi 1328 t0) - (1 : Int32))), (4, .int x2), (3, .int y0), (0, .ref t0), (1, .int x1), (2, .int x2)]) hx hb dX10_versionOf_14 hl (by decide) rfl (fun ls hl => ?_)
  exact sl_X10_versionOf_16 C hz2 N t0 N _ _ _ _ _ _ _ _ _ _ _ hJ hk0 w (lv_sub (l' := [(0, .ref t0), (1, .int x1), (2, .int x2), (3, .int y0), (4, .int x2), (5, .int ((h.gi 1328 t0) - (1 : Int32)))]) hl [3, 4, 5, 2, 1, 0] rfl)
def B_X10_versionOf_0 (N : Nat) (t0 : Nat) (h : Hp) (x1 : Int32) (x2 : Int32) : Option (Hp × Int32) := (J_X10_horizon N t0 h).bind (fun z => B_X10_versionOf_4 N t0 z.1 x1 x2 z.2)
theorem mb_X10_versionOf_0 (N : Nat) (t0 : Nat) (h : Hp) (x1 : Int32) (x2 : Int32) (hJ : B_X10_versionOf_0 N t0 h x1 x2 = some (hz, rz)) : Mo h hz := by
  unfold B_X10_versionOf_0 at hJ
  obtain ⟨⟨h12, r13⟩, e14, hJ⟩ := ob_some hJ
  exact (mo_X10_horizon N t0 h e14).tr (mb_X10_versionOf_4 N t0 _ _ _ _ hJ)
set_option maxRecDepth 100000 in
set_option maxHeartbeats 4000000 in
theorem sb_X10_versionOf_0 (C : Cx p s m args meth c cX10_versionOf 6 (some .int) RX10 D cs A h0.se) (hz2 : hz.nx ≤ h0.nx + mc ∧ hz.su ≤ h0.su + ms) (N : Nat) (t0 : Nat) (h : Hp) (x1 : Int32) (x2 : Int32) (hJ : B_X10_versionOf_0 N t0 h x1 x2 = some (hz, rz)) (hk0 : h.kd t0 = 13) {H : Heap} {locs : List Loc} {cells slots : Nat} (w : Wo D cs A s h0 h H locs cells slots) {ls : Array Slot} (hl : lv_has ls 6 [(0, .ref t0), (1, .int x1), (2, .int x2)]) : W p l e { frames := 3, cells := mc, slots := ms, locals := 90 } s m args below meth c H locs cells slots (MQ below (Zi D cs A hz rz) args s mc ms A) (F0 m 0 ls []) := by
  obtain ⟨hx, hb, hml, hown, hts, -⟩ := id C
  unfold B_X10_versionOf_0 at hJ
  refine lv_aload_n hx hb dX10_versionOf_0 rfl (lv_at hl 0 rfl) ?_
  obtain ⟨⟨h12, r13⟩, e14, hJ⟩ := ob_some hJ
  refine jc_Vi (As := []) C w (cc_X10_horizon N t0 h hk0 e14) (mo_X10_horizon N t0 h e14) (mb_X10_versionOf_4 N t0 _ _ _ _ hJ) hz2 hk0 (by decide) rfl (fs := fs13 h t0) rfl rfl ⟨tw_8_63, tw_8_60, tw_8_62, ts_58, tw_1_7⟩ cd_X10_horizon ⟨by decide, by decide⟩ hl.1 (by first | exact Nat.le_of_ble_eq_true rfl | simp [rf_cat, cat_i, cat_l, cat_r]) rfl dX10_versionOf_1 (fun H locs w1 => ?_)
  have hk15 := kd_keep w (mo_X10_horizon N t0 h e14) hk0 (by decide)
  have w := w1
  exact sb_X10_versionOf_4 C hz2 N t0 _ _ _ _ hJ hk15 w hl
def J_X10_versionOf (N : Nat) (t0 : Nat) (h : Hp) (x1 : Int32) (x2 : Int32) : Option (Hp × Int32) := B_X10_versionOf_0 N t0 h x1 x2
theorem mo_X10_versionOf (N : Nat) (t0 : Nat) (h : Hp) (x1 : Int32) (x2 : Int32) (hJ : J_X10_versionOf N t0 h x1 x2 = some (hz, rz)) : Mo h hz := mb_X10_versionOf_0 N t0 h x1 x2 hJ
theorem cd_X10_versionOf : Cd yX10_versionOf 2 := ⟨by decide +kernel, by decide +kernel, by decide +kernel⟩
theorem cc_X10_versionOf (N : Nat) (t0 : Nat) (h : Hp) (x1 : Int32) (x2 : Int32) (hk0 : h.kd t0 = 13) (hJ : J_X10_versionOf N t0 h x1 x2 = some (hz, rz)) : Ci l yX10_versionOf cX10_versionOf 6 (some .int) 3 90 D cs h hz [.ref t0, .int x1, .int x2] rz := by
  intro mc ms g1 g2
  refine je_any (by decide) (by simp [lg_sl, rf_cat, cat_i, cat_l, cat_r]) ?_
  intro p e s m args below meth c C hin2 w ls hl
  have hl : lv_has ls 6 [(0, .ref t0), (1, .int x1), (2, .int x2)] := hl
  exact sb_X10_versionOf_0 C ⟨g1, g2⟩ N t0 h x1 x2 hJ hk0 w hl
end G_X10_versionOf
section G_X10_version
variable {p : Program} {l : Launch} {e : Env} {s : State} {m : MethodId} {args : Array Value} {below : List Frame} {meth : Method} {c : Code} {D : va_G} {cs : C4} {A : Nat → Prop} {h0 hz : Hp} {mc ms : Nat} {rz : Int32}
def B_X10_version_73 (N : Nat) (t0 : Nat) (h : Hp) (y0 : Int32) : Option (Hp × Int32) := some (h, y0)
theorem mb_X10_version_73 (N : Nat) (t0 : Nat) (h : Hp) (y0 : Int32) (hJ : B_X10_version_73 N t0 h y0 = some (hz, rz)) : Mo h hz := by
  unfold B_X10_version_73 at hJ
  obtain ⟨rfl, -⟩ := rs2 hJ
  exact ⟨fun _ _ => rfl, Nat.le_refl _, Nat.le_refl _, rfl, fun _ _ => rfl⟩
set_option maxRecDepth 100000 in
set_option maxHeartbeats 4000000 in
theorem sb_X10_version_73 (C : Cx p s m args meth c cX10_version 5 (some .int) RX10 D cs A h0.se) (hz2 : hz.nx ≤ h0.nx + mc ∧ hz.su ≤ h0.su + ms) (N : Nat) (t0 : Nat) (h : Hp) (y0 : Int32) (hJ : B_X10_version_73 N t0 h y0 = some (hz, rz)) (hk0 : h.kd t0 = 13) {H : Heap} {locs : List Loc} {cells slots : Nat} (w : Wo D cs A s h0 h H locs cells slots) {ls : Array Slot} (hl : lv_has ls 5 [(0, .ref t0)]) : W p l e { frames := 4, cells := mc, slots := ms, locals := 120 } s m args below meth c H locs cells slots (MQ below (Zi D cs A hz rz) args s mc ms A) (F0 m 73 ls [.int y0]) := by
  obtain ⟨hx, hb, hml, hown, hts, -⟩ := id C
  unfold B_X10_version_73 at hJ
  obtain ⟨rfl, rfl⟩ := rs2 hJ
  exact jr_iret C w hz2 dX10_version_73
def B_X10_version_31 (N : Nat) (t0 : Nat) (h : Hp) (y0 : Int32) : Option (Hp × Int32) := B_X10_version_73 N t0 h y0
theorem mb_X10_version_31 (N : Nat) (t0 : Nat) (h : Hp) (y0 : Int32) (hJ : B_X10_version_31 N t0 h y0 = some (hz, rz)) : Mo h hz := by
  unfold B_X10_version_31 at hJ
  exact mb_X10_version_73 N t0 _ _ hJ
set_option maxRecDepth 100000 in
set_option maxHeartbeats 4000000 in
theorem sb_X10_version_31 (C : Cx p s m args meth c cX10_version 5 (some .int) RX10 D cs A h0.se) (hz2 : hz.nx ≤ h0.nx + mc ∧ hz.su ≤ h0.su + ms) (N : Nat) (t0 : Nat) (h : Hp) (y0 : Int32) (hJ : B_X10_version_31 N t0 h y0 = some (hz, rz)) (hk0 : h.kd t0 = 13) {H : Heap} {locs : List Loc} {cells slots : Nat} (w : Wo D cs A s h0 h H locs cells slots) {ls : Array Slot} (hl : lv_has ls 5 [(0, .ref t0)]) : W p l e { frames := 4, cells := mc, slots := ms, locals := 120 } s m args below meth c H locs cells slots (MQ below (Zi D cs A hz rz) args s mc ms A) (F0 m 31 ls [.int y0]) := by
  obtain ⟨hx, hb, hml, hown, hts, -⟩ := id C
  unfold B_X10_version_31 at hJ
  refine lv_goto (tgt := 73) hx hb dX10_version_31 (by decide) ?_
  exact sb_X10_version_73 C hz2 N t0 _ _ hJ hk0 w hl
def B_X10_version_11 (N : Nat) (t0 : Nat) (h : Hp) (x3 : Int32) (y0 : Int32) : Option (Hp × Int32) := if y0 = (-1 : Int32) then (some (h, (-1 : Int32))) else (if x3 = 0 then ((J_X10_momentOf N t0 h y0).bind (fun z => B_X10_version_31 N t0 z.1 z.2)) else (if x3 = (1 : Int32) then (dr h 32 (h.gr 1327 t0) (fun a7 => ck (¬ (y0 < 0 ∨ h.al a7 ≤ y0.toNatClampNeg)) (if (h.bi a7 y0.toNatClampNeg) = 0 then (B_X10_version_73 N t0 h (0 : Int32)) else (B_X10_version_73 N t0 h (1 : Int32))))) else (if x3 = (2 : Int32) then (dr h 30 (h.gr 1325 t0) (fun a5 => ck (¬ (y0 < 0 ∨ h.al a5 ≤ y0.toNatClampNeg)) (B_X10_version_73 N t0 h (h.bi a5 y0.toNatClampNeg)))) else (B_X10_version_73 N t0 h (-1 : Int32)))))
theorem mb_X10_version_11 (N : Nat) (t0 : Nat) (h : Hp) (x3 : Int32) (y0 : Int32) (hJ : B_X10_version_11 N t0 h x3 y0 = some (hz, rz)) : Mo h hz := by
  unfold B_X10_version_11 at hJ
  by_cases c1 : y0 = (-1 : Int32)
  · have hJ := it_pos c1 hJ
    obtain ⟨rfl, -⟩ := rs2 hJ
    exact ⟨fun _ _ => rfl, Nat.le_refl _, Nat.le_refl _, rfl, fun _ _ => rfl⟩
  · have hJ := it_neg c1 hJ
    by_cases c2 : x3 = 0
    · have hJ := it_pos c2 hJ
      obtain ⟨⟨h10, r11⟩, e12, hJ⟩ := ob_some hJ
      exact (mo_X10_momentOf N t0 h y0 e12).tr (mb_X10_version_31 N t0 _ _ hJ)
    · have hJ := it_neg c2 hJ
      by_cases c3 : x3 = (1 : Int32)
      · have hJ := it_pos c3 hJ
        obtain ⟨a7, ea7, -, hJ⟩ := dr_some hJ
        obtain ⟨-, hJ⟩ := ck_some hJ
        by_cases c9 : (h.bi a7 y0.toNatClampNeg) = 0
        · have hJ := it_pos c9 hJ
          exact mb_X10_version_73 N t0 _ _ hJ
        · have hJ := it_neg c9 hJ
          exact mb_X10_version_73 N t0 _ _ hJ
      · have hJ := it_neg c3 hJ
        by_cases c4 : x3 = (2 : Int32)
        · have hJ := it_pos c4 hJ
          obtain ⟨a5, ea5, -, hJ⟩ := dr_some hJ
          obtain ⟨-, hJ⟩ := ck_some hJ
          exact mb_X10_version_73 N t0 _ _ hJ
        · have hJ := it_neg c4 hJ
          exact mb_X10_version_73 N t0 _ _ hJ
set_option maxRecDepth 100000 in
set_option maxHeartbeats 4000000 in
theorem sb_X10_version_11 (C : Cx p s m args meth c cX10_version 5 (some .int) RX10 D cs A h0.se) (hz2 : hz.nx ≤ h0.nx + mc ∧ hz.su ≤ h0.su + ms) (N : Nat) (t0 : Nat) (h : Hp) (x3 : Int32) (y0 : Int32) (hJ : B_X10_version_11 N t0 h x3 y0 = some (hz, rz)) (hk0 : h.kd t0 = 13) {H : Heap} {locs : List Loc} {cells slots : Nat} (w : Wo D cs A s h0 h H locs cells slots) {ls : Array Slot} (hl : lv_has ls 5 [(0, .ref t0), (3, .int x3)]) : W p l e { frames := 4, cells := mc, slots := ms, locals := 120 } s m args below meth c H locs cells slots (MQ below (Zi D cs A hz rz) args s mc ms A) (F0 m 11 ls [.int y0]) := by
  obtain ⟨hx, hb, hml, hown, hts, -⟩ := id C
  unfold B_X10_version_11 at hJ
  refine lv_istore (i := 4) (lv' := [(4, .int y0), (0, .ref t0), (3, .int x3)]) hx hb dX10_version_11 hl (by decide) rfl (fun ls hl => ?_)
  refine lv_iload hx hb dX10_version_13 (lv_at hl 0 rfl) ?_
  refine lv_iconst (v := (-1 : Int32)) hx hb dX10_version_15 (by decide) ?_
  refine lv_icmp_ne (tgt := 21) hx hb dX10_version_16 (by decide) (fun c1 => ?_) (fun c1 => ?_)
  · have hJ := it_neg c1 hJ
    refine lv_iload_n hx hb dX10_version_21 rfl (lv_at hl 2 rfl) ?_
    refine lv_if_ne (tgt := 34) hx hb dX10_version_22 (by decide) (fun c2 => ?_) (fun c2 => ?_)
    · have hJ := it_neg c2 hJ
      refine lv_iload_n hx hb dX10_version_34 rfl (lv_at hl 2 rfl) ?_
      refine lv_iconst (v := (1 : Int32)) hx hb dX10_version_35 (by decide) ?_
      refine lv_icmp_ne (tgt := 57) hx hb dX10_version_36 (by decide) (fun c3 => ?_) (fun c3 => ?_)
      · have hJ := it_neg c3 hJ
        refine lv_iload_n hx hb dX10_version_57 rfl (lv_at hl 2 rfl) ?_
        refine lv_iconst (v := (2 : Int32)) hx hb dX10_version_58 (by decide) ?_
        refine lv_icmp_ne (tgt := 72) hx hb dX10_version_59 (by decide) (fun c4 => ?_) (fun c4 => ?_)
        · have hJ := it_neg c4 hJ
          refine lv_iconst (v := (-1 : Int32)) hx hb dX10_version_72 (by decide) ?_
          exact sb_X10_version_73 C hz2 N t0 _ _ hJ hk0 w (lv_sub (l' := [(0, .ref t0)]) hl [1] rfl)
        · have hJ := it_pos c4 hJ
          refine lv_aload_n hx hb dX10_version_62 rfl (lv_at hl 1 rfl) ?_
          refine fg_1325 C w hk0 tw_6_188 dX10_version_63 ?_
          refine lv_iload hx hb dX10_version_66 (lv_at hl 0 rfl) ?_
          obtain ⟨a5, ea5, hka5, hJ⟩ := dr_some hJ
          rw [ea5]
          obtain ⟨hi6, hJ⟩ := ck_some hJ
          refine jr_ialdM C w hka5 hi6 dX10_version_68 ?_
          refine lv_goto (tgt := 73) hx hb dX10_version_69 (by decide) ?_
          exact sb_X10_version_73 C hz2 N t0 _ _ hJ hk0 w (lv_sub (l' := [(0, .ref t0)]) hl [1] rfl)
      · have hJ := it_pos c3 hJ
        refine lv_aload_n hx hb dX10_version_39 rfl (lv_at hl 1 rfl) ?_
        refine fg_1327 C w hk0 tw_6_190 dX10_version_40 ?_
        refine lv_iload hx hb dX10_version_43 (lv_at hl 0 rfl) ?_
        obtain ⟨a7, ea7, hka7, hJ⟩ := dr_some hJ
        rw [ea7]
        obtain ⟨hi8, hJ⟩ := ck_some hJ
        refine jr_zaldM C w hka7 hi8 dX10_version_45 ?_
        refine lv_if_eq (tgt := 53) hx hb dX10_version_46 (by decide) (fun c9 => ?_) (fun c9 => ?_)
        · have hJ := it_pos c9 hJ
          refine lv_iconst (v := (0 : Int32)) hx hb dX10_version_53 (by decide) ?_
          refine lv_goto (tgt := 73) hx hb dX10_version_54 (by decide) ?_
          exact sb_X10_version_73 C hz2 N t0 _ _ hJ hk0 w (lv_sub (l' := [(0, .ref t0)]) hl [1] rfl)
        · have hJ := it_neg c9 hJ
          refine lv_iconst (v := (1 : Int32)) hx hb dX10_version_49 (by decide) ?_
          refine lv_goto (tgt := 73) hx hb dX10_version_50 (by decide) ?_
          exact sb_X10_version_73 C hz2 N t0 _ _ hJ hk0 w (lv_sub (l' := [(0, .ref t0)]) hl [1] rfl)
    · have hJ := it_pos c2 hJ
      refine lv_aload_n hx hb dX10_version_25 rfl (lv_at hl 1 rfl) ?_
      refine lv_iload hx hb dX10_version_26 (lv_at hl 0 rfl) ?_
      obtain ⟨⟨h10, r11⟩, e12, hJ⟩ := ob_some hJ
      refine jc_Vi (As := [.int y0]) C w (cc_X10_momentOf N t0 h y0 hk0 e12) (mo_X10_momentOf N t0 h y0 e12) (mb_X10_version_31 N t0 _ _ hJ) hz2 hk0 (by decide) rfl (fs := fs13 h t0) rfl rfl ⟨tw_7_182, tw_7_179, tw_7_181, ts_41, tw_1_7⟩ cd_X10_momentOf ⟨by decide, by decide⟩ hl.1 (by first | exact Nat.le_of_ble_eq_true rfl | simp [rf_cat, cat_i, cat_l, cat_r]) rfl dX10_version_28 (fun H locs w1 => ?_)
      have hk13 := kd_keep w (mo_X10_momentOf N t0 h y0 e12) hk0 (by decide)
      have w := w1
      exact sb_X10_version_31 C hz2 N t0 _ _ hJ hk13 w (lv_sub (l' := [(0, .ref t0)]) hl [1] rfl)
  · have hJ := it_pos c1 hJ
    refine lv_iconst (v := (-1 : Int32)) hx hb dX10_version_19 (by decide) ?_
    obtain ⟨rfl, rfl⟩ := rs2 hJ
    exact jr_iret C w hz2 dX10_version_20
def B_X10_version_0 (N : Nat) (t0 : Nat) (h : Hp) (x1 : Int32) (x2 : Int32) (x3 : Int32) : Option (Hp × Int32) := (J_X10_versionOf N t0 (h.sgi 1300 t0 (0 : Int32)) x1 x2).bind (fun z => B_X10_version_11 N t0 z.1 x3 z.2)
theorem mb_X10_version_0 (N : Nat) (t0 : Nat) (h : Hp) (x1 : Int32) (x2 : Int32) (x3 : Int32) (hJ : B_X10_version_0 N t0 h x1 x2 x3 = some (hz, rz)) : Mo h hz := by
  unfold B_X10_version_0 at hJ
  obtain ⟨⟨h14, r15⟩, e16, hJ⟩ := ob_some hJ
  exact (Mo.tr (show Mo h (h.sgi 1300 t0 (0 : Int32)) from ⟨fun _ _ => rfl, Nat.le_refl _, Nat.le_refl _, rfl, fun _ _ => rfl⟩) ((mo_X10_versionOf N t0 (h.sgi 1300 t0 (0 : Int32)) x1 x2 e16).tr (mb_X10_version_11 N t0 _ _ _ hJ)))
set_option maxRecDepth 100000 in
set_option maxHeartbeats 4000000 in
theorem sb_X10_version_0 (C : Cx p s m args meth c cX10_version 5 (some .int) RX10 D cs A h0.se) (hz2 : hz.nx ≤ h0.nx + mc ∧ hz.su ≤ h0.su + ms) (N : Nat) (t0 : Nat) (h : Hp) (x1 : Int32) (x2 : Int32) (x3 : Int32) (hJ : B_X10_version_0 N t0 h x1 x2 x3 = some (hz, rz)) (hk0 : h.kd t0 = 13) {H : Heap} {locs : List Loc} {cells slots : Nat} (w : Wo D cs A s h0 h H locs cells slots) {ls : Array Slot} (hl : lv_has ls 5 [(0, .ref t0), (1, .int x1), (2, .int x2), (3, .int x3)]) : W p l e { frames := 4, cells := mc, slots := ms, locals := 120 } s m args below meth c H locs cells slots (MQ below (Zi D cs A hz rz) args s mc ms A) (F0 m 0 ls []) := by
  obtain ⟨hx, hb, hml, hown, hts, -⟩ := id C
  unfold B_X10_version_0 at hJ
  refine lv_aload_n hx hb dX10_version_0 rfl (lv_at hl 0 rfl) ?_
  refine lv_iconst (v := (0 : Int32)) hx hb dX10_version_1 (by decide) ?_
  refine fp_1300 (x := (0 : Int32)) C w hk0 tw_6_163 dX10_version_2 (fun H locs w => ?_)
  refine lv_aload_n hx hb dX10_version_5 rfl (lv_at hl 0 rfl) ?_
  refine lv_iload_n hx hb dX10_version_6 rfl (lv_at hl 1 rfl) ?_
  refine lv_iload_n hx hb dX10_version_7 rfl (lv_at hl 2 rfl) ?_
  obtain ⟨⟨h14, r15⟩, e16, hJ⟩ := ob_some hJ
  refine jc_Vi (As := [.int x1, .int x2]) C w (cc_X10_versionOf N t0 (h.sgi 1300 t0 (0 : Int32)) x1 x2 hk0 e16) (mo_X10_versionOf N t0 (h.sgi 1300 t0 (0 : Int32)) x1 x2 e16) (mb_X10_version_11 N t0 _ _ _ hJ) hz2 hk0 (by decide) rfl (fs := fs13 (h.sgi 1300 t0 (0 : Int32)) t0) rfl rfl ⟨tw_8_80, tw_8_77, tw_8_79, ts_60, tw_1_7⟩ cd_X10_versionOf ⟨by decide, by decide⟩ hl.1 (by first | exact Nat.le_of_ble_eq_true rfl | simp [rf_cat, cat_i, cat_l, cat_r]) rfl dX10_version_8 (fun H locs w1 => ?_)
  have hk17 := kd_keep w (mo_X10_versionOf N t0 (h.sgi 1300 t0 (0 : Int32)) x1 x2 e16) hk0 (by decide)
  have w := w1
  exact sb_X10_version_11 C hz2 N t0 _ _ _ hJ hk17 w (lv_sub (l' := [(0, .ref t0), (3, .int x3)]) hl [0, 3] rfl)
def J_X10_version (N : Nat) (t0 : Nat) (h : Hp) (x1 : Int32) (x2 : Int32) (x3 : Int32) : Option (Hp × Int32) := B_X10_version_0 N t0 h x1 x2 x3
theorem mo_X10_version (N : Nat) (t0 : Nat) (h : Hp) (x1 : Int32) (x2 : Int32) (x3 : Int32) (hJ : J_X10_version N t0 h x1 x2 x3 = some (hz, rz)) : Mo h hz := mb_X10_version_0 N t0 h x1 x2 x3 hJ
theorem cd_X10_version : Cd yX10_version 3 := ⟨by decide +kernel, by decide +kernel, by decide +kernel⟩
theorem cc_X10_version (N : Nat) (t0 : Nat) (h : Hp) (x1 : Int32) (x2 : Int32) (x3 : Int32) (hk0 : h.kd t0 = 13) (hJ : J_X10_version N t0 h x1 x2 x3 = some (hz, rz)) : Ci l yX10_version cX10_version 5 (some .int) 4 120 D cs h hz [.ref t0, .int x1, .int x2, .int x3] rz := by
  intro mc ms g1 g2
  refine je_any (by decide) (by simp [lg_sl, rf_cat, cat_i, cat_l, cat_r]) ?_
  intro p e s m args below meth c C hin2 w ls hl
  have hl : lv_has ls 5 [(0, .ref t0), (1, .int x1), (2, .int x2), (3, .int x3)] := hl
  exact sb_X10_version_0 C ⟨g1, g2⟩ N t0 h x1 x2 x3 hJ hk0 w hl
end G_X10_version
section G_X10_versionValue
variable {p : Program} {l : Launch} {e : Env} {s : State} {m : MethodId} {args : Array Value} {below : List Frame} {meth : Method} {c : Code} {D : va_G} {cs : C4} {A : Nat → Prop} {h0 hz : Hp} {mc ms : Nat} {rz : Int64}
def B_X10_versionValue_36 (N : Nat) (t0 : Nat) (h : Hp) (y0 : Int64) : Option (Hp × Int64) := some (h, y0)
theorem mb_X10_versionValue_36 (N : Nat) (t0 : Nat) (h : Hp) (y0 : Int64) (hJ : B_X10_versionValue_36 N t0 h y0 = some (hz, rz)) : Mo h hz := by
  unfold B_X10_versionValue_36 at hJ
  obtain ⟨rfl, -⟩ := rs2 hJ
  exact ⟨fun _ _ => rfl, Nat.le_refl _, Nat.le_refl _, rfl, fun _ _ => rfl⟩
set_option maxRecDepth 100000 in
set_option maxHeartbeats 4000000 in
theorem sb_X10_versionValue_36 (C : Cx p s m args meth c cX10_versionValue 4 (some .long) RX10 D cs A h0.se) (hz2 : hz.nx ≤ h0.nx + mc ∧ hz.su ≤ h0.su + ms) (N : Nat) (t0 : Nat) (h : Hp) (y0 : Int64) (hJ : B_X10_versionValue_36 N t0 h y0 = some (hz, rz)) (hk0 : h.kd t0 = 13) {H : Heap} {locs : List Loc} {cells slots : Nat} (w : Wo D cs A s h0 h H locs cells slots) {ls : Array Slot} (hl : lv_has ls 4 [(0, .ref t0)]) : W p l e { frames := 4, cells := mc, slots := ms, locals := 120 } s m args below meth c H locs cells slots (MQ below (Zl D cs A hz rz) args s mc ms A) (F0 m 36 ls [.long y0]) := by
  obtain ⟨hx, hb, hml, hown, hts, -⟩ := id C
  unfold B_X10_versionValue_36 at hJ
  obtain ⟨rfl, rfl⟩ := rs2 hJ
  exact jr_lret C w hz2 dX10_versionValue_36
def B_X10_versionValue_26 (N : Nat) (t0 : Nat) (h : Hp) : Option (Hp × Int64) := B_X10_versionValue_36 N t0 h (0 : Int64)
theorem mb_X10_versionValue_26 (N : Nat) (t0 : Nat) (h : Hp) (hJ : B_X10_versionValue_26 N t0 h = some (hz, rz)) : Mo h hz := by
  unfold B_X10_versionValue_26 at hJ
  exact mb_X10_versionValue_36 N t0 _ _ hJ
set_option maxRecDepth 100000 in
set_option maxHeartbeats 4000000 in
theorem sb_X10_versionValue_26 (C : Cx p s m args meth c cX10_versionValue 4 (some .long) RX10 D cs A h0.se) (hz2 : hz.nx ≤ h0.nx + mc ∧ hz.su ≤ h0.su + ms) (N : Nat) (t0 : Nat) (h : Hp) (hJ : B_X10_versionValue_26 N t0 h = some (hz, rz)) (hk0 : h.kd t0 = 13) {H : Heap} {locs : List Loc} {cells slots : Nat} (w : Wo D cs A s h0 h H locs cells slots) {ls : Array Slot} (hl : lv_has ls 4 [(0, .ref t0)]) : W p l e { frames := 4, cells := mc, slots := ms, locals := 120 } s m args below meth c H locs cells slots (MQ below (Zl D cs A hz rz) args s mc ms A) (F0 m 26 ls []) := by
  obtain ⟨hx, hb, hml, hown, hts, -⟩ := id C
  unfold B_X10_versionValue_26 at hJ
  refine lv_lconst (v := (0 : Int64)) hx hb dX10_versionValue_26 (by decide) ?_
  refine lv_goto (tgt := 36) hx hb dX10_versionValue_27 (by decide) ?_
  exact sb_X10_versionValue_36 C hz2 N t0 _ _ hJ hk0 w hl
def B_X10_versionValue_11 (N : Nat) (t0 : Nat) (h : Hp) (y0 : Int32) : Option (Hp × Int64) := if y0 = (-1 : Int32) then (B_X10_versionValue_26 N t0 h) else (dr h 32 (h.gr 1327 t0) (fun a2 => ck (¬ (y0 < 0 ∨ h.al a2 ≤ y0.toNatClampNeg)) (if (h.bi a2 y0.toNatClampNeg) = 0 then (B_X10_versionValue_26 N t0 h) else (dr h 31 (h.gr 1326 t0) (fun a5 => ck (¬ (y0 < 0 ∨ h.al a5 ≤ y0.toNatClampNeg)) (B_X10_versionValue_36 N t0 h (h.bw a5 y0.toNatClampNeg)))))))
theorem mb_X10_versionValue_11 (N : Nat) (t0 : Nat) (h : Hp) (y0 : Int32) (hJ : B_X10_versionValue_11 N t0 h y0 = some (hz, rz)) : Mo h hz := by
  unfold B_X10_versionValue_11 at hJ
  by_cases c1 : y0 = (-1 : Int32)
  · have hJ := it_pos c1 hJ
    exact mb_X10_versionValue_26 N t0 _ hJ
  · have hJ := it_neg c1 hJ
    obtain ⟨a2, ea2, -, hJ⟩ := dr_some hJ
    obtain ⟨-, hJ⟩ := ck_some hJ
    by_cases c4 : (h.bi a2 y0.toNatClampNeg) = 0
    · have hJ := it_pos c4 hJ
      exact mb_X10_versionValue_26 N t0 _ hJ
    · have hJ := it_neg c4 hJ
      obtain ⟨a5, ea5, -, hJ⟩ := dr_some hJ
      obtain ⟨-, hJ⟩ := ck_some hJ
      exact mb_X10_versionValue_36 N t0 _ _ hJ
set_option maxRecDepth 100000 in
set_option maxHeartbeats 4000000 in
theorem sb_X10_versionValue_11 (C : Cx p s m args meth c cX10_versionValue 4 (some .long) RX10 D cs A h0.se) (hz2 : hz.nx ≤ h0.nx + mc ∧ hz.su ≤ h0.su + ms) (N : Nat) (t0 : Nat) (h : Hp) (y0 : Int32) (hJ : B_X10_versionValue_11 N t0 h y0 = some (hz, rz)) (hk0 : h.kd t0 = 13) {H : Heap} {locs : List Loc} {cells slots : Nat} (w : Wo D cs A s h0 h H locs cells slots) {ls : Array Slot} (hl : lv_has ls 4 [(0, .ref t0)]) : W p l e { frames := 4, cells := mc, slots := ms, locals := 120 } s m args below meth c H locs cells slots (MQ below (Zl D cs A hz rz) args s mc ms A) (F0 m 11 ls [.int y0]) := by
  obtain ⟨hx, hb, hml, hown, hts, -⟩ := id C
  unfold B_X10_versionValue_11 at hJ
  refine lv_istore_n (i := 3) (lv' := [(3, .int y0), (0, .ref t0)]) hx hb dX10_versionValue_11 rfl hl (by decide) rfl (fun ls hl => ?_)
  refine lv_iload_n hx hb dX10_versionValue_12 rfl (lv_at hl 0 rfl) ?_
  refine lv_iconst (v := (-1 : Int32)) hx hb dX10_versionValue_13 (by decide) ?_
  refine lv_icmp_eq (tgt := 26) hx hb dX10_versionValue_14 (by decide) (fun c1 => ?_) (fun c1 => ?_)
  · have hJ := it_pos c1 hJ
    exact sb_X10_versionValue_26 C hz2 N t0 _ hJ hk0 w (lv_sub (l' := [(0, .ref t0)]) hl [1] rfl)
  · have hJ := it_neg c1 hJ
    refine lv_aload_n hx hb dX10_versionValue_17 rfl (lv_at hl 1 rfl) ?_
    refine fg_1327 C w hk0 tw_6_190 dX10_versionValue_18 ?_
    refine lv_iload_n hx hb dX10_versionValue_21 rfl (lv_at hl 0 rfl) ?_
    obtain ⟨a2, ea2, hka2, hJ⟩ := dr_some hJ
    rw [ea2]
    obtain ⟨hi3, hJ⟩ := ck_some hJ
    refine jr_zaldM C w hka2 hi3 dX10_versionValue_22 ?_
    refine lv_if_ne (tgt := 30) hx hb dX10_versionValue_23 (by decide) (fun c4 => ?_) (fun c4 => ?_)
    · have hJ := it_neg c4 hJ
      refine lv_aload_n hx hb dX10_versionValue_30 rfl (lv_at hl 1 rfl) ?_
      refine fg_1326 C w hk0 tw_6_189 dX10_versionValue_31 ?_
      refine lv_iload_n hx hb dX10_versionValue_34 rfl (lv_at hl 0 rfl) ?_
      obtain ⟨a5, ea5, hka5, hJ⟩ := dr_some hJ
      rw [ea5]
      obtain ⟨hi6, hJ⟩ := ck_some hJ
      refine jr_laldM C w hka5 hi6 dX10_versionValue_35 ?_
      exact sb_X10_versionValue_36 C hz2 N t0 _ _ hJ hk0 w (lv_sub (l' := [(0, .ref t0)]) hl [1] rfl)
    · have hJ := it_pos c4 hJ
      exact sb_X10_versionValue_26 C hz2 N t0 _ hJ hk0 w (lv_sub (l' := [(0, .ref t0)]) hl [1] rfl)
def B_X10_versionValue_0 (N : Nat) (t0 : Nat) (h : Hp) (x1 : Int32) (x2 : Int32) : Option (Hp × Int64) := (J_X10_versionOf N t0 (h.sgi 1300 t0 (0 : Int32)) x1 x2).bind (fun z => B_X10_versionValue_11 N t0 z.1 z.2)
theorem mb_X10_versionValue_0 (N : Nat) (t0 : Nat) (h : Hp) (x1 : Int32) (x2 : Int32) (hJ : B_X10_versionValue_0 N t0 h x1 x2 = some (hz, rz)) : Mo h hz := by
  unfold B_X10_versionValue_0 at hJ
  obtain ⟨⟨h7, r8⟩, e9, hJ⟩ := ob_some hJ
  exact (Mo.tr (show Mo h (h.sgi 1300 t0 (0 : Int32)) from ⟨fun _ _ => rfl, Nat.le_refl _, Nat.le_refl _, rfl, fun _ _ => rfl⟩) ((mo_X10_versionOf N t0 (h.sgi 1300 t0 (0 : Int32)) x1 x2 e9).tr (mb_X10_versionValue_11 N t0 _ _ hJ)))
set_option maxRecDepth 100000 in
set_option maxHeartbeats 4000000 in
theorem sb_X10_versionValue_0 (C : Cx p s m args meth c cX10_versionValue 4 (some .long) RX10 D cs A h0.se) (hz2 : hz.nx ≤ h0.nx + mc ∧ hz.su ≤ h0.su + ms) (N : Nat) (t0 : Nat) (h : Hp) (x1 : Int32) (x2 : Int32) (hJ : B_X10_versionValue_0 N t0 h x1 x2 = some (hz, rz)) (hk0 : h.kd t0 = 13) {H : Heap} {locs : List Loc} {cells slots : Nat} (w : Wo D cs A s h0 h H locs cells slots) {ls : Array Slot} (hl : lv_has ls 4 [(0, .ref t0), (1, .int x1), (2, .int x2)]) : W p l e { frames := 4, cells := mc, slots := ms, locals := 120 } s m args below meth c H locs cells slots (MQ below (Zl D cs A hz rz) args s mc ms A) (F0 m 0 ls []) := by
  obtain ⟨hx, hb, hml, hown, hts, -⟩ := id C
  unfold B_X10_versionValue_0 at hJ
  refine lv_aload_n hx hb dX10_versionValue_0 rfl (lv_at hl 0 rfl) ?_
  refine lv_iconst (v := (0 : Int32)) hx hb dX10_versionValue_1 (by decide) ?_
  refine fp_1300 (x := (0 : Int32)) C w hk0 tw_6_163 dX10_versionValue_2 (fun H locs w => ?_)
  refine lv_aload_n hx hb dX10_versionValue_5 rfl (lv_at hl 0 rfl) ?_
  refine lv_iload_n hx hb dX10_versionValue_6 rfl (lv_at hl 1 rfl) ?_
  refine lv_iload_n hx hb dX10_versionValue_7 rfl (lv_at hl 2 rfl) ?_
  obtain ⟨⟨h7, r8⟩, e9, hJ⟩ := ob_some hJ
  refine jc_Vi (As := [.int x1, .int x2]) C w (cc_X10_versionOf N t0 (h.sgi 1300 t0 (0 : Int32)) x1 x2 hk0 e9) (mo_X10_versionOf N t0 (h.sgi 1300 t0 (0 : Int32)) x1 x2 e9) (mb_X10_versionValue_11 N t0 _ _ hJ) hz2 hk0 (by decide) rfl (fs := fs13 (h.sgi 1300 t0 (0 : Int32)) t0) rfl rfl ⟨tw_8_80, tw_8_77, tw_8_79, ts_60, tw_1_7⟩ cd_X10_versionOf ⟨by decide, by decide⟩ hl.1 (by first | exact Nat.le_of_ble_eq_true rfl | simp [rf_cat, cat_i, cat_l, cat_r]) rfl dX10_versionValue_8 (fun H locs w1 => ?_)
  have hk10 := kd_keep w (mo_X10_versionOf N t0 (h.sgi 1300 t0 (0 : Int32)) x1 x2 e9) hk0 (by decide)
  have w := w1
  exact sb_X10_versionValue_11 C hz2 N t0 _ _ hJ hk10 w (lv_sub (l' := [(0, .ref t0)]) hl [0] rfl)
def J_X10_versionValue (N : Nat) (t0 : Nat) (h : Hp) (x1 : Int32) (x2 : Int32) : Option (Hp × Int64) := B_X10_versionValue_0 N t0 h x1 x2
theorem mo_X10_versionValue (N : Nat) (t0 : Nat) (h : Hp) (x1 : Int32) (x2 : Int32) (hJ : J_X10_versionValue N t0 h x1 x2 = some (hz, rz)) : Mo h hz := mb_X10_versionValue_0 N t0 h x1 x2 hJ
theorem cd_X10_versionValue : Cd yX10_versionValue 2 := ⟨by decide +kernel, by decide +kernel, by decide +kernel⟩
theorem cc_X10_versionValue (N : Nat) (t0 : Nat) (h : Hp) (x1 : Int32) (x2 : Int32) (hk0 : h.kd t0 = 13) (hJ : J_X10_versionValue N t0 h x1 x2 = some (hz, rz)) : Cl l yX10_versionValue cX10_versionValue 4 (some .long) 4 120 D cs h hz [.ref t0, .int x1, .int x2] rz := by
  intro mc ms g1 g2
  refine je_any (by decide) (by simp [lg_sl, rf_cat, cat_i, cat_l, cat_r]) ?_
  intro p e s m args below meth c C hin2 w ls hl
  have hl : lv_has ls 4 [(0, .ref t0), (1, .int x1), (2, .int x2)] := hl
  exact sb_X10_versionValue_0 C ⟨g1, g2⟩ N t0 h x1 x2 hJ hk0 w hl
end G_X10_versionValue
