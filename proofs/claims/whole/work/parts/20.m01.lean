section G_X10_judge
variable {p : Program} {l : Launch} {e : Env} {s : State} {m : MethodId} {args : Array Value} {below : List Frame} {meth : Method} {c : Code} {D : va_G} {cs : C4} {A : Nat → Prop} {h0 hz : Hp} {mc ms : Nat}
def B_X10_judge_43 (N : Nat) (k2 : Hp → Int32 → Option (Hp × Unit)) (t0 : Nat) (h : Hp) (x1 : Int32) : Option (Hp × Unit) := k2 h (x1 + (1 : Int32))
theorem mb_X10_judge_43 (N : Nat) (k2 : Hp → Int32 → Option (Hp × Unit)) (t0 : Nat) (h : Hp) (x1 : Int32) (m2 : ∀ (h : Hp) (x1 : Int32), k2 h x1 = some (hz, ()) → Mo h hz) (hJ : B_X10_judge_43 N k2 t0 h x1 = some (hz, ())) : Mo h hz := by
  unfold B_X10_judge_43 at hJ
  exact m2 _ _ hJ
set_option maxRecDepth 100000 in
set_option maxHeartbeats 4000000 in
theorem sb_X10_judge_43 (C : Cx p s m args meth c cX10_judge 2 none RX10 D cs A h0.se) (hz2 : hz.nx ≤ h0.nx + mc ∧ hz.su ≤ h0.su + ms) (N : Nat) (k2 : Hp → Int32 → Option (Hp × Unit)) (t0 : Nat) (m2 : ∀ (h : Hp) (x1 : Int32), k2 h x1 = some (hz, ()) → Mo h hz) (i2 : ∀ (h : Hp) (x1 : Int32) (H : Heap) (locs : List Loc) (cells slots : Nat) (ls : Array Slot), k2 h x1 = some (hz, ()) → h.kd t0 = 13 → Wo D cs A s h0 h H locs cells slots → lv_has ls 2 [(0, .ref t0), (1, .int x1)] → W p l e { frames := 4, cells := mc, slots := ms, locals := 120 } s m args below meth c H locs cells slots (MQ below (Zv D cs A hz) args s mc ms A) (F0 m 2 ls [])) (h : Hp) (x1 : Int32) (hJ : B_X10_judge_43 N k2 t0 h x1 = some (hz, ())) (hk0 : h.kd t0 = 13) {H : Heap} {locs : List Loc} {cells slots : Nat} (w : Wo D cs A s h0 h H locs cells slots) {ls : Array Slot} (hl : lv_has ls 2 [(0, .ref t0), (1, .int x1)]) : W p l e { frames := 4, cells := mc, slots := ms, locals := 120 } s m args below meth c H locs cells slots (MQ below (Zv D cs A hz) args s mc ms A) (F0 m 43 ls []) := by
  obtain ⟨hx, hb, hml, hown, hts, -⟩ := id C
  unfold B_X10_judge_43 at hJ
  refine lv_iinc (v := x1 + (1 : Int32)) (lv' := [(1, .int (x1 + (1 : Int32))), (0, .ref t0)]) hx hb dX10_judge_43 hl (k := 1) rfl rfl (by decide) rfl (fun ls hl => ?_)
  refine lv_goto (tgt := 2) hx hb dX10_judge_46 (by decide) ?_
  exact i2 _ _ _ _ _ _ _ hJ hk0 w (lv_sub (l' := [(0, .ref t0), (1, .int (x1 + (1 : Int32)))]) hl [1, 0] rfl)
def B_X10_judge_2 (N : Nat) (k2 : Hp → Int32 → Option (Hp × Unit)) (t0 : Nat) (h : Hp) (x1 : Int32) : Option (Hp × Unit) := if (h.gi 1311 t0) < x1 then (some (h, ())) else (dr h 30 (h.gr 1301 t0) (fun a2 => ck (¬ (x1 < 0 ∨ h.al a2 ≤ x1.toNatClampNeg)) (if (h.bi a2 x1.toNatClampNeg) = (1 : Int32) then (dr h 32 (h.gr 1302 t0) (fun a5 => ck (¬ (x1 < 0 ∨ h.al a5 ≤ x1.toNatClampNeg)) (if (h.bi a5 x1.toNatClampNeg) = 0 then (B_X10_judge_43 N k2 t0 h x1) else (dr h 30 (h.gr 1307 t0) (fun a8 => ck (¬ (x1 < 0 ∨ h.al a8 ≤ x1.toNatClampNeg)) (if (h.bi a8 x1.toNatClampNeg) = 0 then ((J_X10_judgeOne N t0 h x1).bind (fun z => B_X10_judge_43 N k2 t0 z.1 x1)) else (B_X10_judge_43 N k2 t0 h x1))))))) else (B_X10_judge_43 N k2 t0 h x1))))
theorem mb_X10_judge_2 (N : Nat) (k2 : Hp → Int32 → Option (Hp × Unit)) (t0 : Nat) (h : Hp) (x1 : Int32) (m2 : ∀ (h : Hp) (x1 : Int32), k2 h x1 = some (hz, ()) → Mo h hz) (hJ : B_X10_judge_2 N k2 t0 h x1 = some (hz, ())) : Mo h hz := by
  unfold B_X10_judge_2 at hJ
  by_cases c1 : (h.gi 1311 t0) < x1
  · have hJ := it_pos c1 hJ
    obtain ⟨rfl, -⟩ := rs2 hJ
    exact ⟨fun _ _ => rfl, Nat.le_refl _, Nat.le_refl _, rfl, fun _ _ => rfl⟩
  · have hJ := it_neg c1 hJ
    obtain ⟨a2, ea2, -, hJ⟩ := dr_some hJ
    obtain ⟨-, hJ⟩ := ck_some hJ
    by_cases c4 : (h.bi a2 x1.toNatClampNeg) = (1 : Int32)
    · have hJ := it_pos c4 hJ
      obtain ⟨a5, ea5, -, hJ⟩ := dr_some hJ
      obtain ⟨-, hJ⟩ := ck_some hJ
      by_cases c7 : (h.bi a5 x1.toNatClampNeg) = 0
      · have hJ := it_pos c7 hJ
        exact mb_X10_judge_43 N k2 t0 _ _ m2 hJ
      · have hJ := it_neg c7 hJ
        obtain ⟨a8, ea8, -, hJ⟩ := dr_some hJ
        obtain ⟨-, hJ⟩ := ck_some hJ
        by_cases c10 : (h.bi a8 x1.toNatClampNeg) = 0
        · have hJ := it_pos c10 hJ
          obtain ⟨⟨h11, r12⟩, e13, hJ⟩ := ob_some hJ
          exact (mo_X10_judgeOne N t0 h x1 e13).tr (mb_X10_judge_43 N k2 t0 _ _ m2 hJ)
        · have hJ := it_neg c10 hJ
          exact mb_X10_judge_43 N k2 t0 _ _ m2 hJ
    · have hJ := it_neg c4 hJ
      exact mb_X10_judge_43 N k2 t0 _ _ m2 hJ
set_option maxRecDepth 100000 in
set_option maxHeartbeats 4000000 in
theorem sb_X10_judge_2 (C : Cx p s m args meth c cX10_judge 2 none RX10 D cs A h0.se) (hz2 : hz.nx ≤ h0.nx + mc ∧ hz.su ≤ h0.su + ms) (N : Nat) (k2 : Hp → Int32 → Option (Hp × Unit)) (t0 : Nat) (m2 : ∀ (h : Hp) (x1 : Int32), k2 h x1 = some (hz, ()) → Mo h hz) (i2 : ∀ (h : Hp) (x1 : Int32) (H : Heap) (locs : List Loc) (cells slots : Nat) (ls : Array Slot), k2 h x1 = some (hz, ()) → h.kd t0 = 13 → Wo D cs A s h0 h H locs cells slots → lv_has ls 2 [(0, .ref t0), (1, .int x1)] → W p l e { frames := 4, cells := mc, slots := ms, locals := 120 } s m args below meth c H locs cells slots (MQ below (Zv D cs A hz) args s mc ms A) (F0 m 2 ls [])) (h : Hp) (x1 : Int32) (hJ : B_X10_judge_2 N k2 t0 h x1 = some (hz, ())) (hk0 : h.kd t0 = 13) {H : Heap} {locs : List Loc} {cells slots : Nat} (w : Wo D cs A s h0 h H locs cells slots) {ls : Array Slot} (hl : lv_has ls 2 [(0, .ref t0), (1, .int x1)]) : W p l e { frames := 4, cells := mc, slots := ms, locals := 120 } s m args below meth c H locs cells slots (MQ below (Zv D cs A hz) args s mc ms A) (F0 m 2 ls []) := by
  obtain ⟨hx, hb, hml, hown, hts, -⟩ := id C
  unfold B_X10_judge_2 at hJ
  refine lv_iload_n hx hb dX10_judge_2 rfl (lv_at hl 1 rfl) ?_
  refine lv_aload_n hx hb dX10_judge_3 rfl (lv_at hl 0 rfl) ?_
  refine fg_1311 C w hk0 tw_6_174 dX10_judge_4 ?_
  refine lv_icmp_gt (tgt := 49) hx hb dX10_judge_7 (by decide) (fun c1 => ?_) (fun c1 => ?_)
  · have hJ := it_pos c1 hJ
    obtain ⟨rfl, -⟩ := rs2 hJ
    exact jr_vret C w hz2 dX10_judge_49
  · have hJ := it_neg c1 hJ
    refine lv_aload_n hx hb dX10_judge_10 rfl (lv_at hl 0 rfl) ?_
    refine fg_1301 C w hk0 tw_6_164 dX10_judge_11 ?_
    refine lv_iload_n hx hb dX10_judge_14 rfl (lv_at hl 1 rfl) ?_
    obtain ⟨a2, ea2, hka2, hJ⟩ := dr_some hJ
    rw [ea2]
    obtain ⟨hi3, hJ⟩ := ck_some hJ
    refine jr_ialdM C w hka2 hi3 dX10_judge_15 ?_
    refine lv_iconst (v := (1 : Int32)) hx hb dX10_judge_16 (by decide) ?_
    refine lv_icmp_ne (tgt := 43) hx hb dX10_judge_17 (by decide) (fun c4 => ?_) (fun c4 => ?_)
    · have hJ := it_neg c4 hJ
      exact sb_X10_judge_43 C hz2 N k2 t0 m2 i2 _ _ hJ hk0 w hl
    · have hJ := it_pos c4 hJ
      refine lv_aload_n hx hb dX10_judge_20 rfl (lv_at hl 0 rfl) ?_
      refine fg_1302 C w hk0 tw_6_165 dX10_judge_21 ?_
      refine lv_iload_n hx hb dX10_judge_24 rfl (lv_at hl 1 rfl) ?_
      obtain ⟨a5, ea5, hka5, hJ⟩ := dr_some hJ
      rw [ea5]
      obtain ⟨hi6, hJ⟩ := ck_some hJ
      refine jr_zaldM C w hka5 hi6 dX10_judge_25 ?_
      refine lv_if_eq (tgt := 43) hx hb dX10_judge_26 (by decide) (fun c7 => ?_) (fun c7 => ?_)
      · have hJ := it_pos c7 hJ
        exact sb_X10_judge_43 C hz2 N k2 t0 m2 i2 _ _ hJ hk0 w hl
      · have hJ := it_neg c7 hJ
        refine lv_aload_n hx hb dX10_judge_29 rfl (lv_at hl 0 rfl) ?_
        refine fg_1307 C w hk0 tw_6_170 dX10_judge_30 ?_
        refine lv_iload_n hx hb dX10_judge_33 rfl (lv_at hl 1 rfl) ?_
        obtain ⟨a8, ea8, hka8, hJ⟩ := dr_some hJ
        rw [ea8]
        obtain ⟨hi9, hJ⟩ := ck_some hJ
        refine jr_ialdM C w hka8 hi9 dX10_judge_34 ?_
        refine lv_if_ne (tgt := 43) hx hb dX10_judge_35 (by decide) (fun c10 => ?_) (fun c10 => ?_)
        · have hJ := it_neg c10 hJ
          exact sb_X10_judge_43 C hz2 N k2 t0 m2 i2 _ _ hJ hk0 w hl
        · have hJ := it_pos c10 hJ
          refine lv_aload_n hx hb dX10_judge_38 rfl (lv_at hl 0 rfl) ?_
          refine lv_iload_n hx hb dX10_judge_39 rfl (lv_at hl 1 rfl) ?_
          obtain ⟨⟨h11, r12⟩, e13, hJ⟩ := ob_some hJ
          refine jc_Vv (As := [.int x1]) C w (cc_X10_judgeOne N t0 h x1 hk0 e13) (mo_X10_judgeOne N t0 h x1 e13) (mb_X10_judge_43 N k2 t0 _ _ m2 hJ) hz2 hk0 (by decide) rfl (fs := fs13 h t0) rfl rfl ⟨tw_7_145, tw_7_142, tw_7_144, ts_33, tw_1_7⟩ cd_X10_judgeOne ⟨by decide, by decide⟩ hl.1 (by first | exact Nat.le_of_ble_eq_true rfl | simp [rf_cat, cat_i, cat_l, cat_r]) rfl dX10_judge_40 (fun H locs w1 => ?_)
          have hk14 := kd_keep w (mo_X10_judgeOne N t0 h x1 e13) hk0 (by decide)
          have w := w1
          exact sb_X10_judge_43 C hz2 N k2 t0 m2 i2 _ _ hJ hk14 w hl
def L_X10_judge_2 (N : Nat) (t0 : Nat) : Nat → Hp → Int32 → Option (Hp × Unit)
  | 0 => fun _ _ => none
  | n + 1 => fun h x1 => B_X10_judge_2 N (L_X10_judge_2 N t0 n) t0 h x1
theorem ml_X10_judge_2 (N : Nat) (t0 : Nat) : ∀ (n : Nat) (h : Hp) (x1 : Int32), L_X10_judge_2 N t0 n h x1 = some (hz, ()) → Mo h hz := by
  intro n
  induction n with
  | zero => intro h x1 hJ; cases hJ
  | succ n ih => intro h x1 hJ; exact mb_X10_judge_2 N (L_X10_judge_2 N t0 n) t0 h x1 ih hJ
theorem sl_X10_judge_2 (C : Cx p s m args meth c cX10_judge 2 none RX10 D cs A h0.se) (hz2 : hz.nx ≤ h0.nx + mc ∧ hz.su ≤ h0.su + ms) (N : Nat) (t0 : Nat) : ∀ n : Nat, ∀ (h : Hp) (x1 : Int32) (H : Heap) (locs : List Loc) (cells slots : Nat) (ls : Array Slot), L_X10_judge_2 N t0 n h x1 = some (hz, ()) → h.kd t0 = 13 → Wo D cs A s h0 h H locs cells slots → lv_has ls 2 [(0, .ref t0), (1, .int x1)] → W p l e { frames := 4, cells := mc, slots := ms, locals := 120 } s m args below meth c H locs cells slots (MQ below (Zv D cs A hz) args s mc ms A) (F0 m 2 ls []) := by
  intro n
  induction n with
  | zero => intro h x1 H locs cells slots ls hJ; cases hJ
  | succ n ih =>
    intro h x1 H locs cells slots ls hJ hk0 w hl
    exact sb_X10_judge_2 C hz2 N (L_X10_judge_2 N t0 n) t0 (ml_X10_judge_2 N t0 n) ih h x1 hJ hk0 w hl
def B_X10_judge_0 (N : Nat) (t0 : Nat) (h : Hp) : Option (Hp × Unit) := L_X10_judge_2 N t0 N h (1 : Int32)
theorem mb_X10_judge_0 (N : Nat) (t0 : Nat) (h : Hp) (hJ : B_X10_judge_0 N t0 h = some (hz, ())) : Mo h hz := by
  unfold B_X10_judge_0 at hJ
  exact ml_X10_judge_2 N t0 N _ _ hJ
set_option maxRecDepth 100000 in
set_option maxHeartbeats 4000000 in
theorem sb_X10_judge_0 (C : Cx p s m args meth c cX10_judge 2 none RX10 D cs A h0.se) (hz2 : hz.nx ≤ h0.nx + mc ∧ hz.su ≤ h0.su + ms) (N : Nat) (t0 : Nat) (h : Hp) (hJ : B_X10_judge_0 N t0 h = some (hz, ())) (hk0 : h.kd t0 = 13) {H : Heap} {locs : List Loc} {cells slots : Nat} (w : Wo D cs A s h0 h H locs cells slots) {ls : Array Slot} (hl : lv_has ls 2 [(0, .ref t0)]) : W p l e { frames := 4, cells := mc, slots := ms, locals := 120 } s m args below meth c H locs cells slots (MQ below (Zv D cs A hz) args s mc ms A) (F0 m 0 ls []) := by
  obtain ⟨hx, hb, hml, hown, hts, -⟩ := id C
  unfold B_X10_judge_0 at hJ
  refine lv_iconst (v := (1 : Int32)) hx hb dX10_judge_0 (by decide) ?_
  refine lv_istore_n (i := 1) (lv' := [(1, .int (1 : Int32)), (0, .ref t0)]) hx hb dX10_judge_1 rfl hl (by decide) rfl (fun ls hl => ?_)
  exact sl_X10_judge_2 C hz2 N t0 N _ _ _ _ _ _ _ hJ hk0 w (lv_sub (l' := [(0, .ref t0), (1, .int (1 : Int32))]) hl [1, 0] rfl)
def J_X10_judge (N : Nat) (t0 : Nat) (h : Hp) : Option (Hp × Unit) := B_X10_judge_0 N t0 h
theorem mo_X10_judge (N : Nat) (t0 : Nat) (h : Hp) (hJ : J_X10_judge N t0 h = some (hz, ())) : Mo h hz := mb_X10_judge_0 N t0 h hJ
theorem cd_X10_judge : Cd yX10_judge 0 := ⟨by decide +kernel, by decide +kernel, by decide +kernel⟩
theorem cc_X10_judge (N : Nat) (t0 : Nat) (h : Hp) (hk0 : h.kd t0 = 13) (hJ : J_X10_judge N t0 h = some (hz, ())) : Cv l yX10_judge cX10_judge 2 none 4 120 D cs h hz [.ref t0] := by
  intro mc ms g1 g2
  refine je_any (by decide) (by simp [lg_sl, rf_cat, cat_i, cat_l, cat_r]) ?_
  intro p e s m args below meth c C hin2 w ls hl
  have hl : lv_has ls 2 [(0, .ref t0)] := hl
  exact sb_X10_judge_0 C ⟨g1, g2⟩ N t0 h hJ hk0 w hl
end G_X10_judge
section G_X10_begin
variable {p : Program} {l : Launch} {e : Env} {s : State} {m : MethodId} {args : Array Value} {below : List Frame} {meth : Method} {c : Code} {D : va_G} {cs : C4} {A : Nat → Prop} {h0 hz : Hp} {mc ms : Nat} {rz : Int32}
def B_X10_begin_86 (N : Nat) (t0 : Nat) (h : Hp) : Option (Hp × Int32) := some (h, h.gi 1311 t0)
theorem mb_X10_begin_86 (N : Nat) (t0 : Nat) (h : Hp) (hJ : B_X10_begin_86 N t0 h = some (hz, rz)) : Mo h hz := by
  unfold B_X10_begin_86 at hJ
  obtain ⟨rfl, -⟩ := rs2 hJ
  exact ⟨fun _ _ => rfl, Nat.le_refl _, Nat.le_refl _, rfl, fun _ _ => rfl⟩
set_option maxRecDepth 100000 in
set_option maxHeartbeats 4000000 in
theorem sb_X10_begin_86 (C : Cx p s m args meth c cX10_begin 2 (some .int) RX10 D cs A h0.se) (hz2 : hz.nx ≤ h0.nx + mc ∧ hz.su ≤ h0.su + ms) (N : Nat) (t0 : Nat) (h : Hp) (hJ : B_X10_begin_86 N t0 h = some (hz, rz)) (hk0 : h.kd t0 = 13) {H : Heap} {locs : List Loc} {cells slots : Nat} (w : Wo D cs A s h0 h H locs cells slots) {ls : Array Slot} (hl : lv_has ls 2 [(0, .ref t0)]) : W p l e { frames := 5, cells := mc, slots := ms, locals := 150 } s m args below meth c H locs cells slots (MQ below (Zi D cs A hz rz) args s mc ms A) (F0 m 86 ls []) := by
  obtain ⟨hx, hb, hml, hown, hts, -⟩ := id C
  unfold B_X10_begin_86 at hJ
  refine lv_aload_n hx hb dX10_begin_86 rfl (lv_at hl 0 rfl) ?_
  refine fg_1311 C w hk0 tw_6_174 dX10_begin_87 ?_
  obtain ⟨rfl, rfl⟩ := rs2 hJ
  exact jr_iret C w hz2 dX10_begin_90
def B_X10_begin_69 (N : Nat) (t0 : Nat) (h : Hp) : Option (Hp × Int32) := dr h 30 (h.gr 1305 t0) (fun a1 => ck (¬ (h.gi 1311 t0 < 0 ∨ h.al a1 ≤ (h.gi 1311 t0).toNatClampNeg)) ((J_X10_judge N t0 (h.sbi a1 (h.gi 1311 t0).toNatClampNeg (h.gi 1313 t0))).bind (fun z => B_X10_begin_86 N t0 z.1)))
theorem mb_X10_begin_69 (N : Nat) (t0 : Nat) (h : Hp) (hJ : B_X10_begin_69 N t0 h = some (hz, rz)) : Mo h hz := by
  unfold B_X10_begin_69 at hJ
  obtain ⟨a1, ea1, -, hJ⟩ := dr_some hJ
  obtain ⟨-, hJ⟩ := ck_some hJ
  obtain ⟨⟨h3, r4⟩, e5, hJ⟩ := ob_some hJ
  exact (Mo.tr (show Mo h (h.sbi a1 (h.gi 1311 t0).toNatClampNeg (h.gi 1313 t0)) from ⟨fun _ _ => rfl, Nat.le_refl _, Nat.le_refl _, rfl, fun _ _ => rfl⟩) ((mo_X10_judge N t0 (h.sbi a1 (h.gi 1311 t0).toNatClampNeg (h.gi 1313 t0)) e5).tr (mb_X10_begin_86 N t0 _ hJ)))
set_option maxRecDepth 100000 in
set_option maxHeartbeats 4000000 in
theorem sb_X10_begin_69 (C : Cx p s m args meth c cX10_begin 2 (some .int) RX10 D cs A h0.se) (hz2 : hz.nx ≤ h0.nx + mc ∧ hz.su ≤ h0.su + ms) (N : Nat) (t0 : Nat) (h : Hp) (hJ : B_X10_begin_69 N t0 h = some (hz, rz)) (hk0 : h.kd t0 = 13) {H : Heap} {locs : List Loc} {cells slots : Nat} (w : Wo D cs A s h0 h H locs cells slots) {ls : Array Slot} (hl : lv_has ls 2 [(0, .ref t0)]) : W p l e { frames := 5, cells := mc, slots := ms, locals := 150 } s m args below meth c H locs cells slots (MQ below (Zi D cs A hz rz) args s mc ms A) (F0 m 69 ls []) := by
  obtain ⟨hx, hb, hml, hown, hts, -⟩ := id C
  unfold B_X10_begin_69 at hJ
  refine lv_aload_n hx hb dX10_begin_69 rfl (lv_at hl 0 rfl) ?_
  refine fg_1305 C w hk0 tw_6_168 dX10_begin_70 ?_
  refine lv_aload_n hx hb dX10_begin_73 rfl (lv_at hl 0 rfl) ?_
  refine fg_1311 C w hk0 tw_6_174 dX10_begin_74 ?_
  refine lv_aload_n hx hb dX10_begin_77 rfl (lv_at hl 0 rfl) ?_
  refine fg_1313 C w hk0 tw_6_176 dX10_begin_78 ?_
  obtain ⟨a1, ea1, hka1, hJ⟩ := dr_some hJ
  rw [ea1]
  obtain ⟨hi2, hJ⟩ := ck_some hJ
  refine jr_iastM C w hka1 hi2 dX10_begin_81 (fun H locs w => ?_)
  refine lv_aload_n hx hb dX10_begin_82 rfl (lv_at hl 0 rfl) ?_
  obtain ⟨⟨h3, r4⟩, e5, hJ⟩ := ob_some hJ
  refine jc_Vv (As := []) C w (cc_X10_judge N t0 (h.sbi a1 (h.gi 1311 t0).toNatClampNeg (h.gi 1313 t0)) hk0 e5) (mo_X10_judge N t0 (h.sbi a1 (h.gi 1311 t0).toNatClampNeg (h.gi 1313 t0)) e5) (mb_X10_begin_86 N t0 _ hJ) hz2 hk0 (by decide) rfl (fs := fs13 (h.sbi a1 (h.gi 1311 t0).toNatClampNeg (h.gi 1313 t0)) t0) rfl rfl ⟨tw_7_141, tw_7_138, tw_7_140, ts_32, tw_1_7⟩ cd_X10_judge ⟨by decide, by decide⟩ hl.1 (by first | exact Nat.le_of_ble_eq_true rfl | simp [rf_cat, cat_i, cat_l, cat_r]) rfl dX10_begin_83 (fun H locs w1 => ?_)
  have hk6 := kd_keep w (mo_X10_judge N t0 (h.sbi a1 (h.gi 1311 t0).toNatClampNeg (h.gi 1313 t0)) e5) hk0 (by decide)
  have w := w1
  exact sb_X10_begin_86 C hz2 N t0 _ hJ hk6 w hl
def B_X10_begin_19 (N : Nat) (t0 : Nat) (h : Hp) (x1 : Int32) (y0 : Int32) : Option (Hp × Int32) := if y0 = (24 : Int32) then (some (h, (-1 : Int32))) else (dr (h.sgi 1311 t0 ((h.gi 1311 t0) + (1 : Int32))) 30 ((h.sgi 1311 t0 ((h.gi 1311 t0) + (1 : Int32))).gr 1301 t0) (fun a8 => ck (¬ ((h.sgi 1311 t0 ((h.gi 1311 t0) + (1 : Int32))).gi 1311 t0 < 0 ∨ (h.sgi 1311 t0 ((h.gi 1311 t0) + (1 : Int32))).al a8 ≤ ((h.sgi 1311 t0 ((h.gi 1311 t0) + (1 : Int32))).gi 1311 t0).toNatClampNeg)) (dr ((h.sgi 1311 t0 ((h.gi 1311 t0) + (1 : Int32))).sbi a8 ((h.sgi 1311 t0 ((h.gi 1311 t0) + (1 : Int32))).gi 1311 t0).toNatClampNeg (1 : Int32)) 32 (((h.sgi 1311 t0 ((h.gi 1311 t0) + (1 : Int32))).sbi a8 ((h.sgi 1311 t0 ((h.gi 1311 t0) + (1 : Int32))).gi 1311 t0).toNatClampNeg (1 : Int32)).gr 1302 t0) (fun a10 => ck (¬ (((h.sgi 1311 t0 ((h.gi 1311 t0) + (1 : Int32))).sbi a8 ((h.sgi 1311 t0 ((h.gi 1311 t0) + (1 : Int32))).gi 1311 t0).toNatClampNeg (1 : Int32)).gi 1311 t0 < 0 ∨ ((h.sgi 1311 t0 ((h.gi 1311 t0) + (1 : Int32))).sbi a8 ((h.sgi 1311 t0 ((h.gi 1311 t0) + (1 : Int32))).gi 1311 t0).toNatClampNeg (1 : Int32)).al a10 ≤ (((h.sgi 1311 t0 ((h.gi 1311 t0) + (1 : Int32))).sbi a8 ((h.sgi 1311 t0 ((h.gi 1311 t0) + (1 : Int32))).gi 1311 t0).toNatClampNeg (1 : Int32)).gi 1311 t0).toNatClampNeg)) (ck (x1 = 0 ∨ x1 = 1) (dr (((h.sgi 1311 t0 ((h.gi 1311 t0) + (1 : Int32))).sbi a8 ((h.sgi 1311 t0 ((h.gi 1311 t0) + (1 : Int32))).gi 1311 t0).toNatClampNeg (1 : Int32)).sbi a10 (((h.sgi 1311 t0 ((h.gi 1311 t0) + (1 : Int32))).sbi a8 ((h.sgi 1311 t0 ((h.gi 1311 t0) + (1 : Int32))).gi 1311 t0).toNatClampNeg (1 : Int32)).gi 1311 t0).toNatClampNeg x1) 30 ((((h.sgi 1311 t0 ((h.gi 1311 t0) + (1 : Int32))).sbi a8 ((h.sgi 1311 t0 ((h.gi 1311 t0) + (1 : Int32))).gi 1311 t0).toNatClampNeg (1 : Int32)).sbi a10 (((h.sgi 1311 t0 ((h.gi 1311 t0) + (1 : Int32))).sbi a8 ((h.sgi 1311 t0 ((h.gi 1311 t0) + (1 : Int32))).gi 1311 t0).toNatClampNeg (1 : Int32)).gi 1311 t0).toNatClampNeg x1).gr 1303 t0) (fun a13 => ck (¬ ((((h.sgi 1311 t0 ((h.gi 1311 t0) + (1 : Int32))).sbi a8 ((h.sgi 1311 t0 ((h.gi 1311 t0) + (1 : Int32))).gi 1311 t0).toNatClampNeg (1 : Int32)).sbi a10 (((h.sgi 1311 t0 ((h.gi 1311 t0) + (1 : Int32))).sbi a8 ((h.sgi 1311 t0 ((h.gi 1311 t0) + (1 : Int32))).gi 1311 t0).toNatClampNeg (1 : Int32)).gi 1311 t0).toNatClampNeg x1).gi 1311 t0 < 0 ∨ (((h.sgi 1311 t0 ((h.gi 1311 t0) + (1 : Int32))).sbi a8 ((h.sgi 1311 t0 ((h.gi 1311 t0) + (1 : Int32))).gi 1311 t0).toNatClampNeg (1 : Int32)).sbi a10 (((h.sgi 1311 t0 ((h.gi 1311 t0) + (1 : Int32))).sbi a8 ((h.sgi 1311 t0 ((h.gi 1311 t0) + (1 : Int32))).gi 1311 t0).toNatClampNeg (1 : Int32)).gi 1311 t0).toNatClampNeg x1).al a13 ≤ ((((h.sgi 1311 t0 ((h.gi 1311 t0) + (1 : Int32))).sbi a8 ((h.sgi 1311 t0 ((h.gi 1311 t0) + (1 : Int32))).gi 1311 t0).toNatClampNeg (1 : Int32)).sbi a10 (((h.sgi 1311 t0 ((h.gi 1311 t0) + (1 : Int32))).sbi a8 ((h.sgi 1311 t0 ((h.gi 1311 t0) + (1 : Int32))).gi 1311 t0).toNatClampNeg (1 : Int32)).gi 1311 t0).toNatClampNeg x1).gi 1311 t0).toNatClampNeg)) (B_X10_begin_69 N t0 ((((h.sgi 1311 t0 ((h.gi 1311 t0) + (1 : Int32))).sbi a8 ((h.sgi 1311 t0 ((h.gi 1311 t0) + (1 : Int32))).gi 1311 t0).toNatClampNeg (1 : Int32)).sbi a10 (((h.sgi 1311 t0 ((h.gi 1311 t0) + (1 : Int32))).sbi a8 ((h.sgi 1311 t0 ((h.gi 1311 t0) + (1 : Int32))).gi 1311 t0).toNatClampNeg (1 : Int32)).gi 1311 t0).toNatClampNeg x1).sbi a13 ((((h.sgi 1311 t0 ((h.gi 1311 t0) + (1 : Int32))).sbi a8 ((h.sgi 1311 t0 ((h.gi 1311 t0) + (1 : Int32))).gi 1311 t0).toNatClampNeg (1 : Int32)).sbi a10 (((h.sgi 1311 t0 ((h.gi 1311 t0) + (1 : Int32))).sbi a8 ((h.sgi 1311 t0 ((h.gi 1311 t0) + (1 : Int32))).gi 1311 t0).toNatClampNeg (1 : Int32)).gi 1311 t0).toNatClampNeg x1).gi 1311 t0).toNatClampNeg ((((h.sgi 1311 t0 ((h.gi 1311 t0) + (1 : Int32))).sbi a8 ((h.sgi 1311 t0 ((h.gi 1311 t0) + (1 : Int32))).gi 1311 t0).toNatClampNeg (1 : Int32)).sbi a10 (((h.sgi 1311 t0 ((h.gi 1311 t0) + (1 : Int32))).sbi a8 ((h.sgi 1311 t0 ((h.gi 1311 t0) + (1 : Int32))).gi 1311 t0).toNatClampNeg (1 : Int32)).gi 1311 t0).toNatClampNeg x1).gi 1312 t0))))))))))
theorem mb_X10_begin_19 (N : Nat) (t0 : Nat) (h : Hp) (x1 : Int32) (y0 : Int32) (hJ : B_X10_begin_19 N t0 h x1 y0 = some (hz, rz)) : Mo h hz := by
  unfold B_X10_begin_19 at hJ
  by_cases c7 : y0 = (24 : Int32)
  · have hJ := it_pos c7 hJ
    obtain ⟨rfl, -⟩ := rs2 hJ
    exact ⟨fun _ _ => rfl, Nat.le_refl _, Nat.le_refl _, rfl, fun _ _ => rfl⟩
  · have hJ := it_neg c7 hJ
    obtain ⟨a8, ea8, -, hJ⟩ := dr_some hJ
    obtain ⟨-, hJ⟩ := ck_some hJ
    obtain ⟨a10, ea10, -, hJ⟩ := dr_some hJ
    obtain ⟨-, hJ⟩ := ck_some hJ
    obtain ⟨-, hJ⟩ := ck_some hJ
    obtain ⟨a13, ea13, -, hJ⟩ := dr_some hJ
    obtain ⟨-, hJ⟩ := ck_some hJ
    exact (Mo.tr (show Mo h ((((h.sgi 1311 t0 ((h.gi 1311 t0) + (1 : Int32))).sbi a8 ((h.sgi 1311 t0 ((h.gi 1311 t0) + (1 : Int32))).gi 1311 t0).toNatClampNeg (1 : Int32)).sbi a10 (((h.sgi 1311 t0 ((h.gi 1311 t0) + (1 : Int32))).sbi a8 ((h.sgi 1311 t0 ((h.gi 1311 t0) + (1 : Int32))).gi 1311 t0).toNatClampNeg (1 : Int32)).gi 1311 t0).toNatClampNeg x1).sbi a13 ((((h.sgi 1311 t0 ((h.gi 1311 t0) + (1 : Int32))).sbi a8 ((h.sgi 1311 t0 ((h.gi 1311 t0) + (1 : Int32))).gi 1311 t0).toNatClampNeg (1 : Int32)).sbi a10 (((h.sgi 1311 t0 ((h.gi 1311 t0) + (1 : Int32))).sbi a8 ((h.sgi 1311 t0 ((h.gi 1311 t0) + (1 : Int32))).gi 1311 t0).toNatClampNeg (1 : Int32)).gi 1311 t0).toNatClampNeg x1).gi 1311 t0).toNatClampNeg ((((h.sgi 1311 t0 ((h.gi 1311 t0) + (1 : Int32))).sbi a8 ((h.sgi 1311 t0 ((h.gi 1311 t0) + (1 : Int32))).gi 1311 t0).toNatClampNeg (1 : Int32)).sbi a10 (((h.sgi 1311 t0 ((h.gi 1311 t0) + (1 : Int32))).sbi a8 ((h.sgi 1311 t0 ((h.gi 1311 t0) + (1 : Int32))).gi 1311 t0).toNatClampNeg (1 : Int32)).gi 1311 t0).toNatClampNeg x1).gi 1312 t0)) from ⟨fun _ _ => rfl, Nat.le_refl _, Nat.le_refl _, rfl, fun _ _ => rfl⟩) (mb_X10_begin_69 N t0 _ hJ))
set_option maxRecDepth 100000 in
set_option maxHeartbeats 4000000 in
theorem sb_X10_begin_19 (C : Cx p s m args meth c cX10_begin 2 (some .int) RX10 D cs A h0.se) (hz2 : hz.nx ≤ h0.nx + mc ∧ hz.su ≤ h0.su + ms) (N : Nat) (t0 : Nat) (h : Hp) (x1 : Int32) (y0 : Int32) (hJ : B_X10_begin_19 N t0 h x1 y0 = some (hz, rz)) (hk0 : h.kd t0 = 13) {H : Heap} {locs : List Loc} {cells slots : Nat} (w : Wo D cs A s h0 h H locs cells slots) {ls : Array Slot} (hl : lv_has ls 2 [(0, .ref t0), (1, .int x1)]) : W p l e { frames := 5, cells := mc, slots := ms, locals := 150 } s m args below meth c H locs cells slots (MQ below (Zi D cs A hz rz) args s mc ms A) (F0 m 19 ls [.int y0]) := by
  obtain ⟨hx, hb, hml, hown, hts, -⟩ := id C
  unfold B_X10_begin_19 at hJ
  refine lv_bipush (v := (24 : Int32)) hx hb dX10_begin_19 (by decide) ?_
  refine lv_icmp_ne (tgt := 26) hx hb dX10_begin_21 (by decide) (fun c7 => ?_) (fun c7 => ?_)
  · have hJ := it_neg c7 hJ
    refine lv_aload_n hx hb dX10_begin_26 rfl (lv_at hl 0 rfl) ?_
    refine lv_dup hx hb dX10_begin_27 rfl ?_
    refine fg_1311 C w hk0 tw_6_174 dX10_begin_28 ?_
    refine lv_iconst (v := (1 : Int32)) hx hb dX10_begin_31 (by decide) ?_
    refine lv_iadd hx hb dX10_begin_32 ?_
    refine fp_1311 (x := (h.gi 1311 t0) + (1 : Int32)) C w hk0 tw_6_174 dX10_begin_33 (fun H locs w => ?_)
    refine lv_aload_n hx hb dX10_begin_36 rfl (lv_at hl 0 rfl) ?_
    refine fg_1301 C w hk0 tw_6_164 dX10_begin_37 ?_
    refine lv_aload_n hx hb dX10_begin_40 rfl (lv_at hl 0 rfl) ?_
    refine fg_1311 C w hk0 tw_6_174 dX10_begin_41 ?_
    refine lv_iconst (v := (1 : Int32)) hx hb dX10_begin_44 (by decide) ?_
    obtain ⟨a8, ea8, hka8, hJ⟩ := dr_some hJ
    rw [ea8]
    obtain ⟨hi9, hJ⟩ := ck_some hJ
    refine jr_iastM C w hka8 hi9 dX10_begin_45 (fun H locs w => ?_)
    refine lv_aload_n hx hb dX10_begin_46 rfl (lv_at hl 0 rfl) ?_
    refine fg_1302 C w hk0 tw_6_165 dX10_begin_47 ?_
    refine lv_aload_n hx hb dX10_begin_50 rfl (lv_at hl 0 rfl) ?_
    refine fg_1311 C w hk0 tw_6_174 dX10_begin_51 ?_
    refine lv_iload_n hx hb dX10_begin_54 rfl (lv_at hl 1 rfl) ?_
    obtain ⟨a10, ea10, hka10, hJ⟩ := dr_some hJ
    rw [ea10]
    obtain ⟨hi11, hJ⟩ := ck_some hJ
    obtain ⟨hzo12, hJ⟩ := ck_some hJ
    refine jr_zastM C w hka10 hi11 hzo12 dX10_begin_55 (fun H locs w => ?_)
    refine lv_aload_n hx hb dX10_begin_56 rfl (lv_at hl 0 rfl) ?_
    refine fg_1303 C w hk0 tw_6_166 dX10_begin_57 ?_
    refine lv_aload_n hx hb dX10_begin_60 rfl (lv_at hl 0 rfl) ?_
    refine fg_1311 C w hk0 tw_6_174 dX10_begin_61 ?_
    refine lv_aload_n hx hb dX10_begin_64 rfl (lv_at hl 0 rfl) ?_
    refine fg_1312 C w hk0 tw_6_175 dX10_begin_65 ?_
    obtain ⟨a13, ea13, hka13, hJ⟩ := dr_some hJ
    rw [ea13]
    obtain ⟨hi14, hJ⟩ := ck_some hJ
    refine jr_iastM C w hka13 hi14 dX10_begin_68 (fun H locs w => ?_)
    exact sb_X10_begin_69 C hz2 N t0 _ hJ hk0 w (lv_sub (l' := [(0, .ref t0)]) hl [0] rfl)
  · have hJ := it_pos c7 hJ
    refine lv_iconst (v := (-1 : Int32)) hx hb dX10_begin_24 (by decide) ?_
    obtain ⟨rfl, rfl⟩ := rs2 hJ
    exact jr_iret C w hz2 dX10_begin_25
def B_X10_begin_0 (N : Nat) (t0 : Nat) (h : Hp) (x1 : Int32) : Option (Hp × Int32) := (J_X10_activeMany N t0 ((h.sgi 1300 t0 (0 : Int32)).sgi 1313 t0 (((h.sgi 1300 t0 (0 : Int32)).gi 1313 t0) + (1 : Int32)))).bind (fun z => B_X10_begin_19 N t0 z.1 x1 z.2)
theorem mb_X10_begin_0 (N : Nat) (t0 : Nat) (h : Hp) (x1 : Int32) (hJ : B_X10_begin_0 N t0 h x1 = some (hz, rz)) : Mo h hz := by
  unfold B_X10_begin_0 at hJ
  obtain ⟨⟨h15, r16⟩, e17, hJ⟩ := ob_some hJ
  exact (Mo.tr (show Mo h ((h.sgi 1300 t0 (0 : Int32)).sgi 1313 t0 (((h.sgi 1300 t0 (0 : Int32)).gi 1313 t0) + (1 : Int32))) from ⟨fun _ _ => rfl, Nat.le_refl _, Nat.le_refl _, rfl, fun _ _ => rfl⟩) ((mo_X10_activeMany N t0 ((h.sgi 1300 t0 (0 : Int32)).sgi 1313 t0 (((h.sgi 1300 t0 (0 : Int32)).gi 1313 t0) + (1 : Int32))) e17).tr (mb_X10_begin_19 N t0 _ _ _ hJ)))
set_option maxRecDepth 100000 in
set_option maxHeartbeats 4000000 in
theorem sb_X10_begin_0 (C : Cx p s m args meth c cX10_begin 2 (some .int) RX10 D cs A h0.se) (hz2 : hz.nx ≤ h0.nx + mc ∧ hz.su ≤ h0.su + ms) (N : Nat) (t0 : Nat) (h : Hp) (x1 : Int32) (hJ : B_X10_begin_0 N t0 h x1 = some (hz, rz)) (hk0 : h.kd t0 = 13) {H : Heap} {locs : List Loc} {cells slots : Nat} (w : Wo D cs A s h0 h H locs cells slots) {ls : Array Slot} (hl : lv_has ls 2 [(0, .ref t0), (1, .int x1)]) : W p l e { frames := 5, cells := mc, slots := ms, locals := 150 } s m args below meth c H locs cells slots (MQ below (Zi D cs A hz rz) args s mc ms A) (F0 m 0 ls []) := by
  obtain ⟨hx, hb, hml, hown, hts, -⟩ := id C
  unfold B_X10_begin_0 at hJ
  refine lv_aload_n hx hb dX10_begin_0 rfl (lv_at hl 0 rfl) ?_
  refine lv_iconst (v := (0 : Int32)) hx hb dX10_begin_1 (by decide) ?_
  refine fp_1300 (x := (0 : Int32)) C w hk0 tw_6_163 dX10_begin_2 (fun H locs w => ?_)
  refine lv_aload_n hx hb dX10_begin_5 rfl (lv_at hl 0 rfl) ?_
  refine lv_dup hx hb dX10_begin_6 rfl ?_
  refine fg_1313 C w hk0 tw_6_176 dX10_begin_7 ?_
  refine lv_iconst (v := (1 : Int32)) hx hb dX10_begin_10 (by decide) ?_
  refine lv_iadd hx hb dX10_begin_11 ?_
  refine fp_1313 (x := ((h.sgi 1300 t0 (0 : Int32)).gi 1313 t0) + (1 : Int32)) C w hk0 tw_6_176 dX10_begin_12 (fun H locs w => ?_)
  refine lv_aload_n hx hb dX10_begin_15 rfl (lv_at hl 0 rfl) ?_
  obtain ⟨⟨h15, r16⟩, e17, hJ⟩ := ob_some hJ
  refine jc_Vi (As := []) C w (cc_X10_activeMany N t0 ((h.sgi 1300 t0 (0 : Int32)).sgi 1313 t0 (((h.sgi 1300 t0 (0 : Int32)).gi 1313 t0) + (1 : Int32))) hk0 e17) (mo_X10_activeMany N t0 ((h.sgi 1300 t0 (0 : Int32)).sgi 1313 t0 (((h.sgi 1300 t0 (0 : Int32)).gi 1313 t0) + (1 : Int32))) e17) (mb_X10_begin_19 N t0 _ _ _ hJ) hz2 hk0 (by decide) rfl (fs := fs13 ((h.sgi 1300 t0 (0 : Int32)).sgi 1313 t0 (((h.sgi 1300 t0 (0 : Int32)).gi 1313 t0) + (1 : Int32))) t0) rfl rfl ⟨tw_7_137, tw_7_134, tw_7_136, ts_31, tw_1_7⟩ cd_X10_activeMany ⟨by decide, by decide⟩ hl.1 (by first | exact Nat.le_of_ble_eq_true rfl | simp [rf_cat, cat_i, cat_l, cat_r]) rfl dX10_begin_16 (fun H locs w1 => ?_)
  have hk18 := kd_keep w (mo_X10_activeMany N t0 ((h.sgi 1300 t0 (0 : Int32)).sgi 1313 t0 (((h.sgi 1300 t0 (0 : Int32)).gi 1313 t0) + (1 : Int32))) e17) hk0 (by decide)
  have w := w1
  exact sb_X10_begin_19 C hz2 N t0 _ _ _ hJ hk18 w hl
def J_X10_begin (N : Nat) (t0 : Nat) (h : Hp) (x1 : Int32) : Option (Hp × Int32) := B_X10_begin_0 N t0 h x1
theorem mo_X10_begin (N : Nat) (t0 : Nat) (h : Hp) (x1 : Int32) (hJ : J_X10_begin N t0 h x1 = some (hz, rz)) : Mo h hz := mb_X10_begin_0 N t0 h x1 hJ
theorem cd_X10_begin : Cd yX10_begin 1 := ⟨by decide +kernel, by decide +kernel, by decide +kernel⟩
theorem cc_X10_begin (N : Nat) (t0 : Nat) (h : Hp) (x1 : Int32) (hk0 : h.kd t0 = 13) (hJ : J_X10_begin N t0 h x1 = some (hz, rz)) : Ci l yX10_begin cX10_begin 2 (some .int) 5 150 D cs h hz [.ref t0, .int x1] rz := by
  intro mc ms g1 g2
  refine je_any (by decide) (by simp [lg_sl, rf_cat, cat_i, cat_l, cat_r]) ?_
  intro p e s m args below meth c C hin2 w ls hl
  have hl : lv_has ls 2 [(0, .ref t0), (1, .int x1)] := hl
  exact sb_X10_begin_0 C ⟨g1, g2⟩ N t0 h x1 hJ hk0 w hl
end G_X10_begin
section G_X10_momentOf
variable {p : Program} {l : Launch} {e : Env} {s : State} {m : MethodId} {args : Array Value} {below : List Frame} {meth : Method} {c : Code} {D : va_G} {cs : C4} {A : Nat → Prop} {h0 hz : Hp} {mc ms : Nat} {rz : Int32}
def B_X10_momentOf_0 (N : Nat) (t0 : Nat) (h : Hp) (x1 : Int32) : Option (Hp × Int32) := dr h 30 (h.gr 1325 t0) (fun a1 => ck (¬ (x1 < 0 ∨ h.al a1 ≤ x1.toNatClampNeg)) (dr h 30 (h.gr 1304 t0) (fun a3 => ck (¬ (h.bi a1 x1.toNatClampNeg < 0 ∨ h.al a3 ≤ (h.bi a1 x1.toNatClampNeg).toNatClampNeg)) (some (h, h.bi a3 (h.bi a1 x1.toNatClampNeg).toNatClampNeg)))))
theorem mb_X10_momentOf_0 (N : Nat) (t0 : Nat) (h : Hp) (x1 : Int32) (hJ : B_X10_momentOf_0 N t0 h x1 = some (hz, rz)) : Mo h hz := by
  unfold B_X10_momentOf_0 at hJ
  obtain ⟨a1, ea1, -, hJ⟩ := dr_some hJ
  obtain ⟨-, hJ⟩ := ck_some hJ
  obtain ⟨a3, ea3, -, hJ⟩ := dr_some hJ
  obtain ⟨-, hJ⟩ := ck_some hJ
  obtain ⟨rfl, -⟩ := rs2 hJ
  exact ⟨fun _ _ => rfl, Nat.le_refl _, Nat.le_refl _, rfl, fun _ _ => rfl⟩
set_option maxRecDepth 100000 in
set_option maxHeartbeats 4000000 in
theorem sb_X10_momentOf_0 (C : Cx p s m args meth c cX10_momentOf 2 (some .int) RX10 D cs A h0.se) (hz2 : hz.nx ≤ h0.nx + mc ∧ hz.su ≤ h0.su + ms) (N : Nat) (t0 : Nat) (h : Hp) (x1 : Int32) (hJ : B_X10_momentOf_0 N t0 h x1 = some (hz, rz)) (hk0 : h.kd t0 = 13) {H : Heap} {locs : List Loc} {cells slots : Nat} (w : Wo D cs A s h0 h H locs cells slots) {ls : Array Slot} (hl : lv_has ls 2 [(0, .ref t0), (1, .int x1)]) : W p l e { frames := 0, cells := mc, slots := ms, locals := 0 } s m args below meth c H locs cells slots (MQ below (Zi D cs A hz rz) args s mc ms A) (F0 m 0 ls []) := by
  obtain ⟨hx, hb, hml, hown, hts, -⟩ := id C
  unfold B_X10_momentOf_0 at hJ
  refine lv_aload_n hx hb dX10_momentOf_0 rfl (lv_at hl 0 rfl) ?_
  refine fg_1304 C w hk0 tw_6_167 dX10_momentOf_1 ?_
  refine lv_aload_n hx hb dX10_momentOf_4 rfl (lv_at hl 0 rfl) ?_
  refine fg_1325 C w hk0 tw_6_188 dX10_momentOf_5 ?_
  refine lv_iload_n hx hb dX10_momentOf_8 rfl (lv_at hl 1 rfl) ?_
  obtain ⟨a1, ea1, hka1, hJ⟩ := dr_some hJ
  rw [ea1]
  obtain ⟨hi2, hJ⟩ := ck_some hJ
  refine jr_ialdM C w hka1 hi2 dX10_momentOf_9 ?_
  obtain ⟨a3, ea3, hka3, hJ⟩ := dr_some hJ
  rw [ea3]
  obtain ⟨hi4, hJ⟩ := ck_some hJ
  refine jr_ialdM C w hka3 hi4 dX10_momentOf_10 ?_
  obtain ⟨rfl, rfl⟩ := rs2 hJ
  exact jr_iret C w hz2 dX10_momentOf_11
def J_X10_momentOf (N : Nat) (t0 : Nat) (h : Hp) (x1 : Int32) : Option (Hp × Int32) := B_X10_momentOf_0 N t0 h x1
theorem mo_X10_momentOf (N : Nat) (t0 : Nat) (h : Hp) (x1 : Int32) (hJ : J_X10_momentOf N t0 h x1 = some (hz, rz)) : Mo h hz := mb_X10_momentOf_0 N t0 h x1 hJ
theorem cd_X10_momentOf : Cd yX10_momentOf 1 := ⟨by decide +kernel, by decide +kernel, by decide +kernel⟩
theorem cc_X10_momentOf (N : Nat) (t0 : Nat) (h : Hp) (x1 : Int32) (hk0 : h.kd t0 = 13) (hJ : J_X10_momentOf N t0 h x1 = some (hz, rz)) : Ci l yX10_momentOf cX10_momentOf 2 (some .int) 0 0 D cs h hz [.ref t0, .int x1] rz := by
  intro mc ms g1 g2
  refine je_any (by decide) (by simp [lg_sl, rf_cat, cat_i, cat_l, cat_r]) ?_
  intro p e s m args below meth c C hin2 w ls hl
  have hl : lv_has ls 2 [(0, .ref t0), (1, .int x1)] := hl
  exact sb_X10_momentOf_0 C ⟨g1, g2⟩ N t0 h x1 hJ hk0 w hl
end G_X10_momentOf
section G_X10_ownOf
variable {p : Program} {l : Launch} {e : Env} {s : State} {m : MethodId} {args : Array Value} {below : List Frame} {meth : Method} {c : Code} {D : va_G} {cs : C4} {A : Nat → Prop} {h0 hz : Hp} {mc ms : Nat} {rz : Int32}
def B_X10_ownOf_42 (N : Nat) (k7 : Hp → Int32 → Int32 → Int32 → Option (Hp × Int32)) (t0 : Nat) (h : Hp) (x1 : Int32) (x2 : Int32) (x3 : Int32) : Option (Hp × Int32) := k7 h x1 x2 (x3 + (-1 : Int32))
theorem mb_X10_ownOf_42 (N : Nat) (k7 : Hp → Int32 → Int32 → Int32 → Option (Hp × Int32)) (t0 : Nat) (h : Hp) (x1 : Int32) (x2 : Int32) (x3 : Int32) (m7 : ∀ (h : Hp) (x1 : Int32) (x2 : Int32) (x3 : Int32), k7 h x1 x2 x3 = some (hz, rz) → Mo h hz) (hJ : B_X10_ownOf_42 N k7 t0 h x1 x2 x3 = some (hz, rz)) : Mo h hz := by
  unfold B_X10_ownOf_42 at hJ
  exact m7 _ _ _ _ hJ
set_option maxRecDepth 100000 in
set_option maxHeartbeats 4000000 in
theorem sb_X10_ownOf_42 (C : Cx p s m args meth c cX10_ownOf 4 (some .int) RX10 D cs A h0.se) (hz2 : hz.nx ≤ h0.nx + mc ∧ hz.su ≤ h0.su + ms) (N : Nat) (k7 : Hp → Int32 → Int32 → Int32 → Option (Hp × Int32)) (t0 : Nat) (m7 : ∀ (h : Hp) (x1 : Int32) (x2 : Int32) (x3 : Int32), k7 h x1 x2 x3 = some (hz, rz) → Mo h hz) (i7 : ∀ (h : Hp) (x1 : Int32) (x2 : Int32) (x3 : Int32) (H : Heap) (locs : List Loc) (cells slots : Nat) (ls : Array Slot), k7 h x1 x2 x3 = some (hz, rz) → h.kd t0 = 13 → Wo D cs A s h0 h H locs cells slots → lv_has ls 4 [(0, .ref t0), (1, .int x1), (2, .int x2), (3, .int x3)] → W p l e { frames := 0, cells := mc, slots := ms, locals := 0 } s m args below meth c H locs cells slots (MQ below (Zi D cs A hz rz) args s mc ms A) (F0 m 7 ls [])) (h : Hp) (x1 : Int32) (x2 : Int32) (x3 : Int32) (hJ : B_X10_ownOf_42 N k7 t0 h x1 x2 x3 = some (hz, rz)) (hk0 : h.kd t0 = 13) {H : Heap} {locs : List Loc} {cells slots : Nat} (w : Wo D cs A s h0 h H locs cells slots) {ls : Array Slot} (hl : lv_has ls 4 [(0, .ref t0), (1, .int x1), (2, .int x2), (3, .int x3)]) : W p l e { frames := 0, cells := mc, slots := ms, locals := 0 } s m args below meth c H locs cells slots (MQ below (Zi D cs A hz rz) args s mc ms A) (F0 m 42 ls []) := by
  obtain ⟨hx, hb, hml, hown, hts, -⟩ := id C
  unfold B_X10_ownOf_42 at hJ
  refine lv_iinc (v := x3 + (-1 : Int32)) (lv' := [(3, .int (x3 + (-1 : Int32))), (0, .ref t0), (1, .int x1), (2, .int x2)]) hx hb dX10_ownOf_42 hl (k := 3) rfl rfl (by decide) rfl (fun ls hl => ?_)
  refine lv_goto (tgt := 7) hx hb dX10_ownOf_45 (by decide) ?_
  exact i7 _ _ _ _ _ _ _ _ _ hJ hk0 w (lv_sub (l' := [(0, .ref t0), (1, .int x1), (2, .int x2), (3, .int (x3 + (-1 : Int32)))]) hl [1, 2, 3, 0] rfl)
def B_X10_ownOf_7 (N : Nat) (k7 : Hp → Int32 → Int32 → Int32 → Option (Hp × Int32)) (t0 : Nat) (h : Hp) (x1 : Int32) (x2 : Int32) (x3 : Int32) : Option (Hp × Int32) := if x3 < 0 then (some (h, (-1 : Int32))) else (dr h 30 (h.gr 1314 t0) (fun a2 => ck (¬ (x3 < 0 ∨ h.al a2 ≤ x3.toNatClampNeg)) (if (h.bi a2 x3.toNatClampNeg) = x1 then (dr h 30 (h.gr 1315 t0) (fun a5 => ck (¬ (x3 < 0 ∨ h.al a5 ≤ x3.toNatClampNeg)) (if (h.bi a5 x3.toNatClampNeg) = x2 then (dr h 32 (h.gr 1318 t0) (fun a8 => ck (¬ (x3 < 0 ∨ h.al a8 ≤ x3.toNatClampNeg)) (if (h.bi a8 x3.toNatClampNeg) = 0 then (some (h, x3)) else (B_X10_ownOf_42 N k7 t0 h x1 x2 x3)))) else (B_X10_ownOf_42 N k7 t0 h x1 x2 x3)))) else (B_X10_ownOf_42 N k7 t0 h x1 x2 x3))))
theorem mb_X10_ownOf_7 (N : Nat) (k7 : Hp → Int32 → Int32 → Int32 → Option (Hp × Int32)) (t0 : Nat) (h : Hp) (x1 : Int32) (x2 : Int32) (x3 : Int32) (m7 : ∀ (h : Hp) (x1 : Int32) (x2 : Int32) (x3 : Int32), k7 h x1 x2 x3 = some (hz, rz) → Mo h hz) (hJ : B_X10_ownOf_7 N k7 t0 h x1 x2 x3 = some (hz, rz)) : Mo h hz := by
  unfold B_X10_ownOf_7 at hJ
  by_cases c1 : x3 < 0
  · have hJ := it_pos c1 hJ
    obtain ⟨rfl, -⟩ := rs2 hJ
    exact ⟨fun _ _ => rfl, Nat.le_refl _, Nat.le_refl _, rfl, fun _ _ => rfl⟩
  · have hJ := it_neg c1 hJ
    obtain ⟨a2, ea2, -, hJ⟩ := dr_some hJ
    obtain ⟨-, hJ⟩ := ck_some hJ
    by_cases c4 : (h.bi a2 x3.toNatClampNeg) = x1
    · have hJ := it_pos c4 hJ
      obtain ⟨a5, ea5, -, hJ⟩ := dr_some hJ
      obtain ⟨-, hJ⟩ := ck_some hJ
      by_cases c7 : (h.bi a5 x3.toNatClampNeg) = x2
      · have hJ := it_pos c7 hJ
        obtain ⟨a8, ea8, -, hJ⟩ := dr_some hJ
        obtain ⟨-, hJ⟩ := ck_some hJ
        by_cases c10 : (h.bi a8 x3.toNatClampNeg) = 0
        · have hJ := it_pos c10 hJ
          obtain ⟨rfl, -⟩ := rs2 hJ
          exact ⟨fun _ _ => rfl, Nat.le_refl _, Nat.le_refl _, rfl, fun _ _ => rfl⟩
        · have hJ := it_neg c10 hJ
          exact mb_X10_ownOf_42 N k7 t0 _ _ _ _ m7 hJ
      · have hJ := it_neg c7 hJ
        exact mb_X10_ownOf_42 N k7 t0 _ _ _ _ m7 hJ
    · have hJ := it_neg c4 hJ
      exact mb_X10_ownOf_42 N k7 t0 _ _ _ _ m7 hJ
set_option maxRecDepth 100000 in
set_option maxHeartbeats 4000000 in
theorem sb_X10_ownOf_7 (C : Cx p s m args meth c cX10_ownOf 4 (some .int) RX10 D cs A h0.se) (hz2 : hz.nx ≤ h0.nx + mc ∧ hz.su ≤ h0.su + ms) (N : Nat) (k7 : Hp → Int32 → Int32 → Int32 → Option (Hp × Int32)) (t0 : Nat) (m7 : ∀ (h : Hp) (x1 : Int32) (x2 : Int32) (x3 : Int32), k7 h x1 x2 x3 = some (hz, rz) → Mo h hz) (i7 : ∀ (h : Hp) (x1 : Int32) (x2 : Int32) (x3 : Int32) (H : Heap) (locs : List Loc) (cells slots : Nat) (ls : Array Slot), k7 h x1 x2 x3 = some (hz, rz) → h.kd t0 = 13 → Wo D cs A s h0 h H locs cells slots → lv_has ls 4 [(0, .ref t0), (1, .int x1), (2, .int x2), (3, .int x3)] → W p l e { frames := 0, cells := mc, slots := ms, locals := 0 } s m args below meth c H locs cells slots (MQ below (Zi D cs A hz rz) args s mc ms A) (F0 m 7 ls [])) (h : Hp) (x1 : Int32) (x2 : Int32) (x3 : Int32) (hJ : B_X10_ownOf_7 N k7 t0 h x1 x2 x3 = some (hz, rz)) (hk0 : h.kd t0 = 13) {H : Heap} {locs : List Loc} {cells slots : Nat} (w : Wo D cs A s h0 h H locs cells slots) {ls : Array Slot} (hl : lv_has ls 4 [(0, .ref t0), (1, .int x1), (2, .int x2), (3, .int x3)]) : W p l e { frames := 0, cells := mc, slots := ms, locals := 0 } s m args below meth c H locs cells slots (MQ below (Zi D cs A hz rz) args s mc ms A) (F0 m 7 ls []) := by
  obtain ⟨hx, hb, hml, hown, hts, -⟩ := id C
  unfold B_X10_ownOf_7 at hJ
  refine lv_iload_n hx hb dX10_ownOf_7 rfl (lv_at hl 3 rfl) ?_
  refine lv_if_lt (tgt := 48) hx hb dX10_ownOf_8 (by decide) (fun c1 => ?_) (fun c1 => ?_)
  · have hJ := it_pos c1 hJ
    refine lv_iconst (v := (-1 : Int32)) hx hb dX10_ownOf_48 (by decide) ?_
    obtain ⟨rfl, rfl⟩ := rs2 hJ
    exact jr_iret C w hz2 dX10_ownOf_49
  · have hJ := it_neg c1 hJ
    refine lv_aload_n hx hb dX10_ownOf_11 rfl (lv_at hl 0 rfl) ?_
    refine fg_1314 C w hk0 tw_6_177 dX10_ownOf_12 ?_
    refine lv_iload_n hx hb dX10_ownOf_15 rfl (lv_at hl 3 rfl) ?_
    obtain ⟨a2, ea2, hka2, hJ⟩ := dr_some hJ
    rw [ea2]
    obtain ⟨hi3, hJ⟩ := ck_some hJ
    refine jr_ialdM C w hka2 hi3 dX10_ownOf_16 ?_
    refine lv_iload_n hx hb dX10_ownOf_17 rfl (lv_at hl 1 rfl) ?_
    refine lv_icmp_ne (tgt := 42) hx hb dX10_ownOf_18 (by decide) (fun c4 => ?_) (fun c4 => ?_)
    · have hJ := it_neg c4 hJ
      exact sb_X10_ownOf_42 C hz2 N k7 t0 m7 i7 _ _ _ _ hJ hk0 w hl
    · have hJ := it_pos c4 hJ
      refine lv_aload_n hx hb dX10_ownOf_21 rfl (lv_at hl 0 rfl) ?_
      refine fg_1315 C w hk0 tw_6_178 dX10_ownOf_22 ?_
      refine lv_iload_n hx hb dX10_ownOf_25 rfl (lv_at hl 3 rfl) ?_
      obtain ⟨a5, ea5, hka5, hJ⟩ := dr_some hJ
      rw [ea5]
      obtain ⟨hi6, hJ⟩ := ck_some hJ
      refine jr_ialdM C w hka5 hi6 dX10_ownOf_26 ?_
      refine lv_iload_n hx hb dX10_ownOf_27 rfl (lv_at hl 2 rfl) ?_
      refine lv_icmp_ne (tgt := 42) hx hb dX10_ownOf_28 (by decide) (fun c7 => ?_) (fun c7 => ?_)
      · have hJ := it_neg c7 hJ
        exact sb_X10_ownOf_42 C hz2 N k7 t0 m7 i7 _ _ _ _ hJ hk0 w hl
      · have hJ := it_pos c7 hJ
        refine lv_aload_n hx hb dX10_ownOf_31 rfl (lv_at hl 0 rfl) ?_
        refine fg_1318 C w hk0 tw_6_181 dX10_ownOf_32 ?_
        refine lv_iload_n hx hb dX10_ownOf_35 rfl (lv_at hl 3 rfl) ?_
        obtain ⟨a8, ea8, hka8, hJ⟩ := dr_some hJ
        rw [ea8]
        obtain ⟨hi9, hJ⟩ := ck_some hJ
        refine jr_zaldM C w hka8 hi9 dX10_ownOf_36 ?_
        refine lv_if_ne (tgt := 42) hx hb dX10_ownOf_37 (by decide) (fun c10 => ?_) (fun c10 => ?_)
        · have hJ := it_neg c10 hJ
          exact sb_X10_ownOf_42 C hz2 N k7 t0 m7 i7 _ _ _ _ hJ hk0 w hl
        · have hJ := it_pos c10 hJ
          refine lv_iload_n hx hb dX10_ownOf_40 rfl (lv_at hl 3 rfl) ?_
          obtain ⟨rfl, rfl⟩ := rs2 hJ
          exact jr_iret C w hz2 dX10_ownOf_41
def L_X10_ownOf_7 (N : Nat) (t0 : Nat) : Nat → Hp → Int32 → Int32 → Int32 → Option (Hp × Int32)
  | 0 => fun _ _ _ _ => none
  | n + 1 => fun h x1 x2 x3 => B_X10_ownOf_7 N (L_X10_ownOf_7 N t0 n) t0 h x1 x2 x3
theorem ml_X10_ownOf_7 (N : Nat) (t0 : Nat) : ∀ (n : Nat) (h : Hp) (x1 : Int32) (x2 : Int32) (x3 : Int32), L_X10_ownOf_7 N t0 n h x1 x2 x3 = some (hz, rz) → Mo h hz := by
  intro n
  induction n with
  | zero => intro h x1 x2 x3 hJ; cases hJ
  | succ n ih => intro h x1 x2 x3 hJ; exact mb_X10_ownOf_7 N (L_X10_ownOf_7 N t0 n) t0 h x1 x2 x3 ih hJ
theorem sl_X10_ownOf_7 (C : Cx p s m args meth c cX10_ownOf 4 (some .int) RX10 D cs A h0.se) (hz2 : hz.nx ≤ h0.nx + mc ∧ hz.su ≤ h0.su + ms) (N : Nat) (t0 : Nat) : ∀ n : Nat, ∀ (h : Hp) (x1 : Int32) (x2 : Int32) (x3 : Int32) (H : Heap) (locs : List Loc) (cells slots : Nat) (ls : Array Slot), L_X10_ownOf_7 N t0 n h x1 x2 x3 = some (hz, rz) → h.kd t0 = 13 → Wo D cs A s h0 h H locs cells slots → lv_has ls 4 [(0, .ref t0), (1, .int x1), (2, .int x2), (3, .int x3)] → W p l e { frames := 0, cells := mc, slots := ms, locals := 0 } s m args below meth c H locs cells slots (MQ below (Zi D cs A hz rz) args s mc ms A) (F0 m 7 ls []) := by
  intro n
  induction n with
  | zero => intro h x1 x2 x3 H locs cells slots ls hJ; cases hJ
  | succ n ih =>
    intro h x1 x2 x3 H locs cells slots ls hJ hk0 w hl
    exact sb_X10_ownOf_7 C hz2 N (L_X10_ownOf_7 N t0 n) t0 (ml_X10_ownOf_7 N t0 n) ih h x1 x2 x3 hJ hk0 w hl
def B_X10_ownOf_0 (N : Nat) (t0 : Nat) (h : Hp) (x1 : Int32) (x2 : Int32) : Option (Hp × Int32) := L_X10_ownOf_7 N t0 N h x1 x2 ((h.gi 1319 t0) - (1 : Int32))
theorem mb_X10_ownOf_0 (N : Nat) (t0 : Nat) (h : Hp) (x1 : Int32) (x2 : Int32) (hJ : B_X10_ownOf_0 N t0 h x1 x2 = some (hz, rz)) : Mo h hz := by
  unfold B_X10_ownOf_0 at hJ
  exact ml_X10_ownOf_7 N t0 N _ _ _ _ hJ
set_option maxRecDepth 100000 in
set_option maxHeartbeats 4000000 in
theorem sb_X10_ownOf_0 (C : Cx p s m args meth c cX10_ownOf 4 (some .int) RX10 D cs A h0.se) (hz2 : hz.nx ≤ h0.nx + mc ∧ hz.su ≤ h0.su + ms) (N : Nat) (t0 : Nat) (h : Hp) (x1 : Int32) (x2 : Int32) (hJ : B_X10_ownOf_0 N t0 h x1 x2 = some (hz, rz)) (hk0 : h.kd t0 = 13) {H : Heap} {locs : List Loc} {cells slots : Nat} (w : Wo D cs A s h0 h H locs cells slots) {ls : Array Slot} (hl : lv_has ls 4 [(0, .ref t0), (1, .int x1), (2, .int x2)]) : W p l e { frames := 0, cells := mc, slots := ms, locals := 0 } s m args below meth c H locs cells slots (MQ below (Zi D cs A hz rz) args s mc ms A) (F0 m 0 ls []) := by
  obtain ⟨hx, hb, hml, hown, hts, -⟩ := id C
  unfold B_X10_ownOf_0 at hJ
  refine lv_aload_n hx hb dX10_ownOf_0 rfl (lv_at hl 0 rfl) ?_
  refine fg_1319 C w hk0 tw_6_182 dX10_ownOf_1 ?_
  refine lv_iconst (v := (1 : Int32)) hx hb dX10_ownOf_4 (by decide) ?_
  refine lv_isub hx hb dX10_ownOf_5 ?_
  refine lv_istore_n (i := 3) (lv' := [(3, .int ((h.gi 1319 t0) - (1 : Int32))), (0, .ref t0), (1, .int x1), (2, .int x2)]) hx hb dX10_ownOf_6 rfl hl (by decide) rfl (fun ls hl => ?_)
  exact sl_X10_ownOf_7 C hz2 N t0 N _ _ _ _ _ _ _ _ _ hJ hk0 w (lv_sub (l' := [(0, .ref t0), (1, .int x1), (2, .int x2), (3, .int ((h.gi 1319 t0) - (1 : Int32)))]) hl [1, 2, 3, 0] rfl)
def J_X10_ownOf (N : Nat) (t0 : Nat) (h : Hp) (x1 : Int32) (x2 : Int32) : Option (Hp × Int32) := B_X10_ownOf_0 N t0 h x1 x2
theorem mo_X10_ownOf (N : Nat) (t0 : Nat) (h : Hp) (x1 : Int32) (x2 : Int32) (hJ : J_X10_ownOf N t0 h x1 x2 = some (hz, rz)) : Mo h hz := mb_X10_ownOf_0 N t0 h x1 x2 hJ
theorem cd_X10_ownOf : Cd yX10_ownOf 2 := ⟨by decide +kernel, by decide +kernel, by decide +kernel⟩
theorem cc_X10_ownOf (N : Nat) (t0 : Nat) (h : Hp) (x1 : Int32) (x2 : Int32) (hk0 : h.kd t0 = 13) (hJ : J_X10_ownOf N t0 h x1 x2 = some (hz, rz)) : Ci l yX10_ownOf cX10_ownOf 4 (some .int) 0 0 D cs h hz [.ref t0, .int x1, .int x2] rz := by
  intro mc ms g1 g2
  refine je_any (by decide) (by simp [lg_sl, rf_cat, cat_i, cat_l, cat_r]) ?_
  intro p e s m args below meth c C hin2 w ls hl
  have hl : lv_has ls 4 [(0, .ref t0), (1, .int x1), (2, .int x2)] := hl
  exact sb_X10_ownOf_0 C ⟨g1, g2⟩ N t0 h x1 x2 hJ hk0 w hl
end G_X10_ownOf
section G_X10_conflicts
variable {p : Program} {l : Launch} {e : Env} {s : State} {m : MethodId} {args : Array Value} {below : List Frame} {meth : Method} {c : Code} {D : va_G} {cs : C4} {A : Nat → Prop} {h0 hz : Hp} {mc ms : Nat} {rz : Int32}
def B_X10_conflicts_88 (N : Nat) (k15 : Hp → Int32 → Int32 → Int32 → Int32 → Int32 → Option (Hp × Int32)) (t0 : Nat) (h : Hp) (x1 : Int32) (x2 : Int32) (x3 : Int32) (x4 : Int32) (x5 : Int32) : Option (Hp × Int32) := k15 h x1 x2 x3 x4 (x5 + (-1 : Int32))
theorem mb_X10_conflicts_88 (N : Nat) (k15 : Hp → Int32 → Int32 → Int32 → Int32 → Int32 → Option (Hp × Int32)) (t0 : Nat) (h : Hp) (x1 : Int32) (x2 : Int32) (x3 : Int32) (x4 : Int32) (x5 : Int32) (m15 : ∀ (h : Hp) (x1 : Int32) (x2 : Int32) (x3 : Int32) (x4 : Int32) (x5 : Int32), k15 h x1 x2 x3 x4 x5 = some (hz, rz) → Mo h hz) (hJ : B_X10_conflicts_88 N k15 t0 h x1 x2 x3 x4 x5 = some (hz, rz)) : Mo h hz := by
  unfold B_X10_conflicts_88 at hJ
  exact m15 _ _ _ _ _ _ hJ
set_option maxRecDepth 100000 in
set_option maxHeartbeats 4000000 in
theorem sb_X10_conflicts_88 (C : Cx p s m args meth c cX10_conflicts 6 (some .boolean) RX10 D cs A h0.se) (hz2 : hz.nx ≤ h0.nx + mc ∧ hz.su ≤ h0.su + ms) (N : Nat) (k15 : Hp → Int32 → Int32 → Int32 → Int32 → Int32 → Option (Hp × Int32)) (t0 : Nat) (m15 : ∀ (h : Hp) (x1 : Int32) (x2 : Int32) (x3 : Int32) (x4 : Int32) (x5 : Int32), k15 h x1 x2 x3 x4 x5 = some (hz, rz) → Mo h hz) (i15 : ∀ (h : Hp) (x1 : Int32) (x2 : Int32) (x3 : Int32) (x4 : Int32) (x5 : Int32) (H : Heap) (locs : List Loc) (cells slots : Nat) (ls : Array Slot), k15 h x1 x2 x3 x4 x5 = some (hz, rz) → h.kd t0 = 13 → Wo D cs A s h0 h H locs cells slots → lv_has ls 6 [(0, .ref t0), (1, .int x1), (2, .int x2), (3, .int x3), (4, .int x4), (5, .int x5)] → W p l e { frames := 1, cells := mc, slots := ms, locals := 30 } s m args below meth c H locs cells slots (MQ below (Zi D cs A hz rz) args s mc ms A) (F0 m 15 ls [])) (h : Hp) (x1 : Int32) (x2 : Int32) (x3 : Int32) (x4 : Int32) (x5 : Int32) (hJ : B_X10_conflicts_88 N k15 t0 h x1 x2 x3 x4 x5 = some (hz, rz)) (hk0 : h.kd t0 = 13) {H : Heap} {locs : List Loc} {cells slots : Nat} (w : Wo D cs A s h0 h H locs cells slots) {ls : Array Slot} (hl : lv_has ls 6 [(0, .ref t0), (1, .int x1), (2, .int x2), (3, .int x3), (4, .int x4), (5, .int x5)]) : W p l e { frames := 1, cells := mc, slots := ms, locals := 30 } s m args below meth c H locs cells slots (MQ below (Zi D cs A hz rz) args s mc ms A) (F0 m 88 ls []) := by
  obtain ⟨hx, hb, hml, hown, hts, -⟩ := id C
  unfold B_X10_conflicts_88 at hJ
  refine lv_iinc (v := x5 + (-1 : Int32)) (lv' := [(5, .int (x5 + (-1 : Int32))), (0, .ref t0), (1, .int x1), (2, .int x2), (3, .int x3), (4, .int x4)]) hx hb dX10_conflicts_88 hl (k := 5) rfl rfl (by decide) rfl (fun ls hl => ?_)
  refine lv_goto (tgt := 15) hx hb dX10_conflicts_91 (by decide) ?_
  exact i15 _ _ _ _ _ _ _ _ _ _ _ hJ hk0 w (lv_sub (l' := [(0, .ref t0), (1, .int x1), (2, .int x2), (3, .int x3), (4, .int x4), (5, .int (x5 + (-1 : Int32)))]) hl [1, 2, 3, 4, 5, 0] rfl)
def B_X10_conflicts_86 (N : Nat) (k15 : Hp → Int32 → Int32 → Int32 → Int32 → Int32 → Option (Hp × Int32)) (t0 : Nat) (h : Hp) (x1 : Int32) (x3 : Int32) (x4 : Int32) (x5 : Int32) : Option (Hp × Int32) := B_X10_conflicts_88 N k15 t0 h x1 (1 : Int32) x3 x4 x5
theorem mb_X10_conflicts_86 (N : Nat) (k15 : Hp → Int32 → Int32 → Int32 → Int32 → Int32 → Option (Hp × Int32)) (t0 : Nat) (h : Hp) (x1 : Int32) (x3 : Int32) (x4 : Int32) (x5 : Int32) (m15 : ∀ (h : Hp) (x1 : Int32) (x2 : Int32) (x3 : Int32) (x4 : Int32) (x5 : Int32), k15 h x1 x2 x3 x4 x5 = some (hz, rz) → Mo h hz) (hJ : B_X10_conflicts_86 N k15 t0 h x1 x3 x4 x5 = some (hz, rz)) : Mo h hz := by
  unfold B_X10_conflicts_86 at hJ
  exact mb_X10_conflicts_88 N k15 t0 _ _ _ _ _ _ m15 hJ
set_option maxRecDepth 100000 in
set_option maxHeartbeats 4000000 in
theorem sb_X10_conflicts_86 (C : Cx p s m args meth c cX10_conflicts 6 (some .boolean) RX10 D cs A h0.se) (hz2 : hz.nx ≤ h0.nx + mc ∧ hz.su ≤ h0.su + ms) (N : Nat) (k15 : Hp → Int32 → Int32 → Int32 → Int32 → Int32 → Option (Hp × Int32)) (t0 : Nat) (m15 : ∀ (h : Hp) (x1 : Int32) (x2 : Int32) (x3 : Int32) (x4 : Int32) (x5 : Int32), k15 h x1 x2 x3 x4 x5 = some (hz, rz) → Mo h hz) (i15 : ∀ (h : Hp) (x1 : Int32) (x2 : Int32) (x3 : Int32) (x4 : Int32) (x5 : Int32) (H : Heap) (locs : List Loc) (cells slots : Nat) (ls : Array Slot), k15 h x1 x2 x3 x4 x5 = some (hz, rz) → h.kd t0 = 13 → Wo D cs A s h0 h H locs cells slots → lv_has ls 6 [(0, .ref t0), (1, .int x1), (2, .int x2), (3, .int x3), (4, .int x4), (5, .int x5)] → W p l e { frames := 1, cells := mc, slots := ms, locals := 30 } s m args below meth c H locs cells slots (MQ below (Zi D cs A hz rz) args s mc ms A) (F0 m 15 ls [])) (h : Hp) (x1 : Int32) (x3 : Int32) (x4 : Int32) (x5 : Int32) (hJ : B_X10_conflicts_86 N k15 t0 h x1 x3 x4 x5 = some (hz, rz)) (hk0 : h.kd t0 = 13) {H : Heap} {locs : List Loc} {cells slots : Nat} (w : Wo D cs A s h0 h H locs cells slots) {ls : Array Slot} (hl : lv_has ls 6 [(0, .ref t0), (1, .int x1), (3, .int x3), (4, .int x4), (5, .int x5)]) : W p l e { frames := 1, cells := mc, slots := ms, locals := 30 } s m args below meth c H locs cells slots (MQ below (Zi D cs A hz rz) args s mc ms A) (F0 m 86 ls []) := by
  obtain ⟨hx, hb, hml, hown, hts, -⟩ := id C
  unfold B_X10_conflicts_86 at hJ
  refine lv_iconst (v := (1 : Int32)) hx hb dX10_conflicts_86 (by decide) ?_
  refine lv_istore_n (i := 2) (lv' := [(2, .int (1 : Int32)), (0, .ref t0), (1, .int x1), (3, .int x3), (4, .int x4), (5, .int x5)]) hx hb dX10_conflicts_87 rfl hl (by decide) rfl (fun ls hl => ?_)
  exact sb_X10_conflicts_88 C hz2 N k15 t0 m15 i15 _ _ _ _ _ _ hJ hk0 w (lv_sub (l' := [(0, .ref t0), (1, .int x1), (2, .int (1 : Int32)), (3, .int x3), (4, .int x4), (5, .int x5)]) hl [1, 2, 0, 3, 4, 5] rfl)
def B_X10_conflicts_69 (N : Nat) (k15 : Hp → Int32 → Int32 → Int32 → Int32 → Int32 → Option (Hp × Int32)) (t0 : Nat) (h : Hp) (x1 : Int32) (x5 : Int32) : Option (Hp × Int32) := dr h 30 (h.gr 1324 t0) (fun a1 => ck (¬ (x5 < 0 ∨ h.al a1 ≤ x5.toNatClampNeg)) (dr h 30 (h.gr 1325 t0) (fun a3 => ck (¬ (x5 < 0 ∨ h.al a3 ≤ x5.toNatClampNeg)) (B_X10_conflicts_86 N k15 t0 h x1 (h.bi a1 x5.toNatClampNeg) (h.bi a3 x5.toNatClampNeg) x5))))
theorem mb_X10_conflicts_69 (N : Nat) (k15 : Hp → Int32 → Int32 → Int32 → Int32 → Int32 → Option (Hp × Int32)) (t0 : Nat) (h : Hp) (x1 : Int32) (x5 : Int32) (m15 : ∀ (h : Hp) (x1 : Int32) (x2 : Int32) (x3 : Int32) (x4 : Int32) (x5 : Int32), k15 h x1 x2 x3 x4 x5 = some (hz, rz) → Mo h hz) (hJ : B_X10_conflicts_69 N k15 t0 h x1 x5 = some (hz, rz)) : Mo h hz := by
  unfold B_X10_conflicts_69 at hJ
  obtain ⟨a1, ea1, -, hJ⟩ := dr_some hJ
  obtain ⟨-, hJ⟩ := ck_some hJ
  obtain ⟨a3, ea3, -, hJ⟩ := dr_some hJ
  obtain ⟨-, hJ⟩ := ck_some hJ
  exact mb_X10_conflicts_86 N k15 t0 _ _ _ _ _ m15 hJ
set_option maxRecDepth 100000 in
set_option maxHeartbeats 4000000 in
theorem sb_X10_conflicts_69 (C : Cx p s m args meth c cX10_conflicts 6 (some .boolean) RX10 D cs A h0.se) (hz2 : hz.nx ≤ h0.nx + mc ∧ hz.su ≤ h0.su + ms) (N : Nat) (k15 : Hp → Int32 → Int32 → Int32 → Int32 → Int32 → Option (Hp × Int32)) (t0 : Nat) (m15 : ∀ (h : Hp) (x1 : Int32) (x2 : Int32) (x3 : Int32) (x4 : Int32) (x5 : Int32), k15 h x1 x2 x3 x4 x5 = some (hz, rz) → Mo h hz) (i15 : ∀ (h : Hp) (x1 : Int32) (x2 : Int32) (x3 : Int32) (x4 : Int32) (x5 : Int32) (H : Heap) (locs : List Loc) (cells slots : Nat) (ls : Array Slot), k15 h x1 x2 x3 x4 x5 = some (hz, rz) → h.kd t0 = 13 → Wo D cs A s h0 h H locs cells slots → lv_has ls 6 [(0, .ref t0), (1, .int x1), (2, .int x2), (3, .int x3), (4, .int x4), (5, .int x5)] → W p l e { frames := 1, cells := mc, slots := ms, locals := 30 } s m args below meth c H locs cells slots (MQ below (Zi D cs A hz rz) args s mc ms A) (F0 m 15 ls [])) (h : Hp) (x1 : Int32) (x5 : Int32) (hJ : B_X10_conflicts_69 N k15 t0 h x1 x5 = some (hz, rz)) (hk0 : h.kd t0 = 13) {H : Heap} {locs : List Loc} {cells slots : Nat} (w : Wo D cs A s h0 h H locs cells slots) {ls : Array Slot} (hl : lv_has ls 6 [(0, .ref t0), (1, .int x1), (5, .int x5)]) : W p l e { frames := 1, cells := mc, slots := ms, locals := 30 } s m args below meth c H locs cells slots (MQ below (Zi D cs A hz rz) args s mc ms A) (F0 m 69 ls []) := by
  obtain ⟨hx, hb, hml, hown, hts, -⟩ := id C
  unfold B_X10_conflicts_69 at hJ
  refine lv_aload_n hx hb dX10_conflicts_69 rfl (lv_at hl 0 rfl) ?_
  refine fg_1324 C w hk0 tw_6_187 dX10_conflicts_70 ?_
  refine lv_iload hx hb dX10_conflicts_73 (lv_at hl 2 rfl) ?_
  obtain ⟨a1, ea1, hka1, hJ⟩ := dr_some hJ
  rw [ea1]
  obtain ⟨hi2, hJ⟩ := ck_some hJ
  refine jr_ialdM C w hka1 hi2 dX10_conflicts_75 ?_
  refine lv_istore_n (i := 3) (lv' := [(3, .int (h.bi a1 x5.toNatClampNeg)), (0, .ref t0), (1, .int x1), (5, .int x5)]) hx hb dX10_conflicts_76 rfl hl (by decide) rfl (fun ls hl => ?_)
  refine lv_aload_n hx hb dX10_conflicts_77 rfl (lv_at hl 1 rfl) ?_
  refine fg_1325 C w hk0 tw_6_188 dX10_conflicts_78 ?_
  refine lv_iload hx hb dX10_conflicts_81 (lv_at hl 3 rfl) ?_
  obtain ⟨a3, ea3, hka3, hJ⟩ := dr_some hJ
  rw [ea3]
  obtain ⟨hi4, hJ⟩ := ck_some hJ
  refine jr_ialdM C w hka3 hi4 dX10_conflicts_83 ?_
  refine lv_istore (i := 4) (lv' := [(4, .int (h.bi a3 x5.toNatClampNeg)), (3, .int (h.bi a1 x5.toNatClampNeg)), (0, .ref t0), (1, .int x1), (5, .int x5)]) hx hb dX10_conflicts_84 hl (by decide) rfl (fun ls hl => ?_)
  exact sb_X10_conflicts_86 C hz2 N k15 t0 m15 i15 _ _ _ _ _ hJ hk0 w (lv_sub (l' := [(0, .ref t0), (1, .int x1), (3, .int (h.bi a1 x5.toNatClampNeg)), (4, .int (h.bi a3 x5.toNatClampNeg)), (5, .int x5)]) hl [2, 3, 1, 0, 4] rfl)
def B_X10_conflicts_47 (N : Nat) (k15 : Hp → Int32 → Int32 → Int32 → Int32 → Int32 → Option (Hp × Int32)) (t0 : Nat) (h : Hp) (x1 : Int32) (x2 : Int32) (x3 : Int32) (x4 : Int32) (x5 : Int32) (y0 : Int32) : Option (Hp × Int32) := if y0 = (-1 : Int32) then (B_X10_conflicts_88 N k15 t0 h x1 x2 x3 x4 x5) else (if x2 = 0 then (B_X10_conflicts_69 N k15 t0 h x1 x5) else (dr h 30 (h.gr 1324 t0) (fun a7 => ck (¬ (x5 < 0 ∨ h.al a7 ≤ x5.toNatClampNeg)) (if x3 < (h.bi a7 x5.toNatClampNeg) then (B_X10_conflicts_86 N k15 t0 h x1 x3 x4 x5) else (B_X10_conflicts_69 N k15 t0 h x1 x5)))))
theorem mb_X10_conflicts_47 (N : Nat) (k15 : Hp → Int32 → Int32 → Int32 → Int32 → Int32 → Option (Hp × Int32)) (t0 : Nat) (h : Hp) (x1 : Int32) (x2 : Int32) (x3 : Int32) (x4 : Int32) (x5 : Int32) (y0 : Int32) (m15 : ∀ (h : Hp) (x1 : Int32) (x2 : Int32) (x3 : Int32) (x4 : Int32) (x5 : Int32), k15 h x1 x2 x3 x4 x5 = some (hz, rz) → Mo h hz) (hJ : B_X10_conflicts_47 N k15 t0 h x1 x2 x3 x4 x5 y0 = some (hz, rz)) : Mo h hz := by
  unfold B_X10_conflicts_47 at hJ
  by_cases c5 : y0 = (-1 : Int32)
  · have hJ := it_pos c5 hJ
    exact mb_X10_conflicts_88 N k15 t0 _ _ _ _ _ _ m15 hJ
  · have hJ := it_neg c5 hJ
    by_cases c6 : x2 = 0
    · have hJ := it_pos c6 hJ
      exact mb_X10_conflicts_69 N k15 t0 _ _ _ m15 hJ
    · have hJ := it_neg c6 hJ
      obtain ⟨a7, ea7, -, hJ⟩ := dr_some hJ
      obtain ⟨-, hJ⟩ := ck_some hJ
      by_cases c9 : x3 < (h.bi a7 x5.toNatClampNeg)
      · have hJ := it_pos c9 hJ
        exact mb_X10_conflicts_86 N k15 t0 _ _ _ _ _ m15 hJ
      · have hJ := it_neg c9 hJ
        exact mb_X10_conflicts_69 N k15 t0 _ _ _ m15 hJ
set_option maxRecDepth 100000 in
set_option maxHeartbeats 4000000 in
theorem sb_X10_conflicts_47 (C : Cx p s m args meth c cX10_conflicts 6 (some .boolean) RX10 D cs A h0.se) (hz2 : hz.nx ≤ h0.nx + mc ∧ hz.su ≤ h0.su + ms) (N : Nat) (k15 : Hp → Int32 → Int32 → Int32 → Int32 → Int32 → Option (Hp × Int32)) (t0 : Nat) (m15 : ∀ (h : Hp) (x1 : Int32) (x2 : Int32) (x3 : Int32) (x4 : Int32) (x5 : Int32), k15 h x1 x2 x3 x4 x5 = some (hz, rz) → Mo h hz) (i15 : ∀ (h : Hp) (x1 : Int32) (x2 : Int32) (x3 : Int32) (x4 : Int32) (x5 : Int32) (H : Heap) (locs : List Loc) (cells slots : Nat) (ls : Array Slot), k15 h x1 x2 x3 x4 x5 = some (hz, rz) → h.kd t0 = 13 → Wo D cs A s h0 h H locs cells slots → lv_has ls 6 [(0, .ref t0), (1, .int x1), (2, .int x2), (3, .int x3), (4, .int x4), (5, .int x5)] → W p l e { frames := 1, cells := mc, slots := ms, locals := 30 } s m args below meth c H locs cells slots (MQ below (Zi D cs A hz rz) args s mc ms A) (F0 m 15 ls [])) (h : Hp) (x1 : Int32) (x2 : Int32) (x3 : Int32) (x4 : Int32) (x5 : Int32) (y0 : Int32) (hJ : B_X10_conflicts_47 N k15 t0 h x1 x2 x3 x4 x5 y0 = some (hz, rz)) (hk0 : h.kd t0 = 13) {H : Heap} {locs : List Loc} {cells slots : Nat} (w : Wo D cs A s h0 h H locs cells slots) {ls : Array Slot} (hl : lv_has ls 6 [(0, .ref t0), (1, .int x1), (2, .int x2), (3, .int x3), (4, .int x4), (5, .int x5)]) : W p l e { frames := 1, cells := mc, slots := ms, locals := 30 } s m args below meth c H locs cells slots (MQ below (Zi D cs A hz rz) args s mc ms A) (F0 m 47 ls [.int y0]) := by
  obtain ⟨hx, hb, hml, hown, hts, -⟩ := id C
  unfold B_X10_conflicts_47 at hJ
  refine lv_iconst (v := (-1 : Int32)) hx hb dX10_conflicts_47 (by decide) ?_
  refine lv_icmp_ne (tgt := 54) hx hb dX10_conflicts_48 (by decide) (fun c5 => ?_) (fun c5 => ?_)
  · have hJ := it_neg c5 hJ
    refine lv_iload_n hx hb dX10_conflicts_54 rfl (lv_at hl 2 rfl) ?_
    refine lv_if_eq (tgt := 69) hx hb dX10_conflicts_55 (by decide) (fun c6 => ?_) (fun c6 => ?_)
    · have hJ := it_pos c6 hJ
      exact sb_X10_conflicts_69 C hz2 N k15 t0 m15 i15 _ _ _ hJ hk0 w (lv_sub (l' := [(0, .ref t0), (1, .int x1), (5, .int x5)]) hl [0, 1, 5] rfl)
    · have hJ := it_neg c6 hJ
      refine lv_aload_n hx hb dX10_conflicts_58 rfl (lv_at hl 0 rfl) ?_
      refine fg_1324 C w hk0 tw_6_187 dX10_conflicts_59 ?_
      refine lv_iload hx hb dX10_conflicts_62 (lv_at hl 5 rfl) ?_
      obtain ⟨a7, ea7, hka7, hJ⟩ := dr_some hJ
      rw [ea7]
      obtain ⟨hi8, hJ⟩ := ck_some hJ
      refine jr_ialdM C w hka7 hi8 dX10_conflicts_64 ?_
      refine lv_iload_n hx hb dX10_conflicts_65 rfl (lv_at hl 3 rfl) ?_
      refine lv_icmp_gt (tgt := 86) hx hb dX10_conflicts_66 (by decide) (fun c9 => ?_) (fun c9 => ?_)
      · have hJ := it_pos c9 hJ
        exact sb_X10_conflicts_86 C hz2 N k15 t0 m15 i15 _ _ _ _ _ hJ hk0 w (lv_sub (l' := [(0, .ref t0), (1, .int x1), (3, .int x3), (4, .int x4), (5, .int x5)]) hl [0, 1, 3, 4, 5] rfl)
      · have hJ := it_neg c9 hJ
        exact sb_X10_conflicts_69 C hz2 N k15 t0 m15 i15 _ _ _ hJ hk0 w (lv_sub (l' := [(0, .ref t0), (1, .int x1), (5, .int x5)]) hl [0, 1, 5] rfl)
  · have hJ := it_pos c5 hJ
    refine lv_goto (tgt := 88) hx hb dX10_conflicts_51 (by decide) ?_
    exact sb_X10_conflicts_88 C hz2 N k15 t0 m15 i15 _ _ _ _ _ _ hJ hk0 w hl
def B_X10_conflicts_26 (N : Nat) (k15 : Hp → Int32 → Int32 → Int32 → Int32 → Int32 → Option (Hp × Int32)) (t0 : Nat) (h : Hp) (x1 : Int32) (x2 : Int32) (x3 : Int32) (x4 : Int32) (x5 : Int32) (y0 : Int32) : Option (Hp × Int32) := dr h 30 (h.gr 1303 t0) (fun a10 => ck (¬ (x1 < 0 ∨ h.al a10 ≤ x1.toNatClampNeg)) (if y0 ≤ (h.bi a10 x1.toNatClampNeg) then (B_X10_conflicts_88 N k15 t0 h x1 x2 x3 x4 x5) else (dr h 30 (h.gr 1324 t0) (fun a13 => ck (¬ (x5 < 0 ∨ h.al a13 ≤ x5.toNatClampNeg)) ((J_X10_ownOf N t0 h x1 (h.bi a13 x5.toNatClampNeg)).bind (fun z => B_X10_conflicts_47 N k15 t0 z.1 x1 x2 x3 x4 x5 z.2))))))
theorem mb_X10_conflicts_26 (N : Nat) (k15 : Hp → Int32 → Int32 → Int32 → Int32 → Int32 → Option (Hp × Int32)) (t0 : Nat) (h : Hp) (x1 : Int32) (x2 : Int32) (x3 : Int32) (x4 : Int32) (x5 : Int32) (y0 : Int32) (m15 : ∀ (h : Hp) (x1 : Int32) (x2 : Int32) (x3 : Int32) (x4 : Int32) (x5 : Int32), k15 h x1 x2 x3 x4 x5 = some (hz, rz) → Mo h hz) (hJ : B_X10_conflicts_26 N k15 t0 h x1 x2 x3 x4 x5 y0 = some (hz, rz)) : Mo h hz := by
  unfold B_X10_conflicts_26 at hJ
  obtain ⟨a10, ea10, -, hJ⟩ := dr_some hJ
  obtain ⟨-, hJ⟩ := ck_some hJ
  by_cases c12 : y0 ≤ (h.bi a10 x1.toNatClampNeg)
  · have hJ := it_pos c12 hJ
    exact mb_X10_conflicts_88 N k15 t0 _ _ _ _ _ _ m15 hJ
  · have hJ := it_neg c12 hJ
    obtain ⟨a13, ea13, -, hJ⟩ := dr_some hJ
    obtain ⟨-, hJ⟩ := ck_some hJ
    obtain ⟨⟨h15, r16⟩, e17, hJ⟩ := ob_some hJ
    exact (mo_X10_ownOf N t0 h x1 (h.bi a13 x5.toNatClampNeg) e17).tr (mb_X10_conflicts_47 N k15 t0 _ _ _ _ _ _ _ m15 hJ)
set_option maxRecDepth 100000 in
set_option maxHeartbeats 4000000 in
theorem sb_X10_conflicts_26 (C : Cx p s m args meth c cX10_conflicts 6 (some .boolean) RX10 D cs A h0.se) (hz2 : hz.nx ≤ h0.nx + mc ∧ hz.su ≤ h0.su + ms) (N : Nat) (k15 : Hp → Int32 → Int32 → Int32 → Int32 → Int32 → Option (Hp × Int32)) (t0 : Nat) (m15 : ∀ (h : Hp) (x1 : Int32) (x2 : Int32) (x3 : Int32) (x4 : Int32) (x5 : Int32), k15 h x1 x2 x3 x4 x5 = some (hz, rz) → Mo h hz) (i15 : ∀ (h : Hp) (x1 : Int32) (x2 : Int32) (x3 : Int32) (x4 : Int32) (x5 : Int32) (H : Heap) (locs : List Loc) (cells slots : Nat) (ls : Array Slot), k15 h x1 x2 x3 x4 x5 = some (hz, rz) → h.kd t0 = 13 → Wo D cs A s h0 h H locs cells slots → lv_has ls 6 [(0, .ref t0), (1, .int x1), (2, .int x2), (3, .int x3), (4, .int x4), (5, .int x5)] → W p l e { frames := 1, cells := mc, slots := ms, locals := 30 } s m args below meth c H locs cells slots (MQ below (Zi D cs A hz rz) args s mc ms A) (F0 m 15 ls [])) (h : Hp) (x1 : Int32) (x2 : Int32) (x3 : Int32) (x4 : Int32) (x5 : Int32) (y0 : Int32) (hJ : B_X10_conflicts_26 N k15 t0 h x1 x2 x3 x4 x5 y0 = some (hz, rz)) (hk0 : h.kd t0 = 13) {H : Heap} {locs : List Loc} {cells slots : Nat} (w : Wo D cs A s h0 h H locs cells slots) {ls : Array Slot} (hl : lv_has ls 6 [(0, .ref t0), (1, .int x1), (2, .int x2), (3, .int x3), (4, .int x4), (5, .int x5)]) : W p l e { frames := 1, cells := mc, slots := ms, locals := 30 } s m args below meth c H locs cells slots (MQ below (Zi D cs A hz rz) args s mc ms A) (F0 m 26 ls [.int y0]) := by
  obtain ⟨hx, hb, hml, hown, hts, -⟩ := id C
  unfold B_X10_conflicts_26 at hJ
  refine lv_aload_n hx hb dX10_conflicts_26 rfl (lv_at hl 0 rfl) ?_
  refine fg_1303 C w hk0 tw_6_166 dX10_conflicts_27 ?_
  refine lv_iload_n hx hb dX10_conflicts_30 rfl (lv_at hl 1 rfl) ?_
  obtain ⟨a10, ea10, hka10, hJ⟩ := dr_some hJ
  rw [ea10]
  obtain ⟨hi11, hJ⟩ := ck_some hJ
  refine jr_ialdM C w hka10 hi11 dX10_conflicts_31 ?_
  refine lv_icmp_le (tgt := 88) hx hb dX10_conflicts_32 (by decide) (fun c12 => ?_) (fun c12 => ?_)
  · have hJ := it_pos c12 hJ
    exact sb_X10_conflicts_88 C hz2 N k15 t0 m15 i15 _ _ _ _ _ _ hJ hk0 w hl
  · have hJ := it_neg c12 hJ
    refine lv_aload_n hx hb dX10_conflicts_35 rfl (lv_at hl 0 rfl) ?_
    refine lv_iload_n hx hb dX10_conflicts_36 rfl (lv_at hl 1 rfl) ?_
    refine lv_aload_n hx hb dX10_conflicts_37 rfl (lv_at hl 0 rfl) ?_
    refine fg_1324 C w hk0 tw_6_187 dX10_conflicts_38 ?_
    refine lv_iload hx hb dX10_conflicts_41 (lv_at hl 5 rfl) ?_
    obtain ⟨a13, ea13, hka13, hJ⟩ := dr_some hJ
    rw [ea13]
    obtain ⟨hi14, hJ⟩ := ck_some hJ
    refine jr_ialdM C w hka13 hi14 dX10_conflicts_43 ?_
    obtain ⟨⟨h15, r16⟩, e17, hJ⟩ := ob_some hJ
    refine jc_Vi (As := [.int x1, .int (h.bi a13 x5.toNatClampNeg)]) C w (cc_X10_ownOf N t0 h x1 (h.bi a13 x5.toNatClampNeg) hk0 e17) (mo_X10_ownOf N t0 h x1 (h.bi a13 x5.toNatClampNeg) e17) (mb_X10_conflicts_47 N k15 t0 _ _ _ _ _ _ _ m15 hJ) hz2 hk0 (by decide) rfl (fs := fs13 h t0) rfl rfl ⟨tw_7_186, tw_7_183, tw_7_185, ts_42, tw_1_7⟩ cd_X10_ownOf ⟨by decide, by decide⟩ hl.1 (by first | exact Nat.le_of_ble_eq_true rfl | simp [rf_cat, cat_i, cat_l, cat_r]) rfl dX10_conflicts_44 (fun H locs w1 => ?_)
    have hk18 := kd_keep w (mo_X10_ownOf N t0 h x1 (h.bi a13 x5.toNatClampNeg) e17) hk0 (by decide)
    have w := w1
    exact sb_X10_conflicts_47 C hz2 N k15 t0 m15 i15 _ _ _ _ _ _ _ hJ hk18 w hl
def B_X10_conflicts_119 (N : Nat) (t0 : Nat) (h : Hp) (x2 : Int32) : Option (Hp × Int32) := ck (x2 = 0 ∨ x2 = 1) (some (h, x2))
theorem mb_X10_conflicts_119 (N : Nat) (t0 : Nat) (h : Hp) (x2 : Int32) (hJ : B_X10_conflicts_119 N t0 h x2 = some (hz, rz)) : Mo h hz := by
  unfold B_X10_conflicts_119 at hJ
  obtain ⟨-, hJ⟩ := ck_some hJ
  obtain ⟨rfl, -⟩ := rs2 hJ
  exact ⟨fun _ _ => rfl, Nat.le_refl _, Nat.le_refl _, rfl, fun _ _ => rfl⟩
set_option maxRecDepth 100000 in
set_option maxHeartbeats 4000000 in
theorem sb_X10_conflicts_119 (C : Cx p s m args meth c cX10_conflicts 6 (some .boolean) RX10 D cs A h0.se) (hz2 : hz.nx ≤ h0.nx + mc ∧ hz.su ≤ h0.su + ms) (N : Nat) (t0 : Nat) (h : Hp) (x2 : Int32) (hJ : B_X10_conflicts_119 N t0 h x2 = some (hz, rz)) (hk0 : h.kd t0 = 13) {H : Heap} {locs : List Loc} {cells slots : Nat} (w : Wo D cs A s h0 h H locs cells slots) {ls : Array Slot} (hl : lv_has ls 6 [(0, .ref t0), (2, .int x2)]) : W p l e { frames := 1, cells := mc, slots := ms, locals := 30 } s m args below meth c H locs cells slots (MQ below (Zi D cs A hz rz) args s mc ms A) (F0 m 119 ls []) := by
  obtain ⟨hx, hb, hml, hown, hts, -⟩ := id C
  unfold B_X10_conflicts_119 at hJ
  refine lv_iload_n hx hb dX10_conflicts_119 rfl (lv_at hl 1 rfl) ?_
  obtain ⟨hzo19, hJ⟩ := ck_some hJ
  obtain ⟨rfl, rfl⟩ := rs2 hJ
  exact jr_zret C w hzo19 hz2 dX10_conflicts_120
def B_X10_conflicts_15 (N : Nat) (k15 : Hp → Int32 → Int32 → Int32 → Int32 → Int32 → Option (Hp × Int32)) (t0 : Nat) (h : Hp) (x1 : Int32) (x2 : Int32) (x3 : Int32) (x4 : Int32) (x5 : Int32) : Option (Hp × Int32) := if x5 < 0 then (if x2 = 0 then (B_X10_conflicts_119 N t0 h x2) else (B_X10_conflicts_119 N t0 ((((h.sgi 1347 t0 (1 : Int32)).sgi 1348 t0 x1).sgi 1349 t0 x4).sgi 1350 t0 x3) x2)) else ((J_X10_momentOf N t0 h x5).bind (fun z => B_X10_conflicts_26 N k15 t0 z.1 x1 x2 x3 x4 x5 z.2))
theorem mb_X10_conflicts_15 (N : Nat) (k15 : Hp → Int32 → Int32 → Int32 → Int32 → Int32 → Option (Hp × Int32)) (t0 : Nat) (h : Hp) (x1 : Int32) (x2 : Int32) (x3 : Int32) (x4 : Int32) (x5 : Int32) (m15 : ∀ (h : Hp) (x1 : Int32) (x2 : Int32) (x3 : Int32) (x4 : Int32) (x5 : Int32), k15 h x1 x2 x3 x4 x5 = some (hz, rz) → Mo h hz) (hJ : B_X10_conflicts_15 N k15 t0 h x1 x2 x3 x4 x5 = some (hz, rz)) : Mo h hz := by
  unfold B_X10_conflicts_15 at hJ
  by_cases c20 : x5 < 0
  · have hJ := it_pos c20 hJ
    by_cases c21 : x2 = 0
    · have hJ := it_pos c21 hJ
      exact mb_X10_conflicts_119 N t0 _ _ hJ
    · have hJ := it_neg c21 hJ
      exact (Mo.tr (show Mo h ((((h.sgi 1347 t0 (1 : Int32)).sgi 1348 t0 x1).sgi 1349 t0 x4).sgi 1350 t0 x3) from ⟨fun _ _ => rfl, Nat.le_refl _, Nat.le_refl _, rfl, fun _ _ => rfl⟩) (mb_X10_conflicts_119 N t0 _ _ hJ))
  · have hJ := it_neg c20 hJ
    obtain ⟨⟨h22, r23⟩, e24, hJ⟩ := ob_some hJ
    exact (mo_X10_momentOf N t0 h x5 e24).tr (mb_X10_conflicts_26 N k15 t0 _ _ _ _ _ _ _ m15 hJ)
set_option maxRecDepth 100000 in
set_option maxHeartbeats 4000000 in
theorem sb_X10_conflicts_15 (C : Cx p s m args meth c cX10_conflicts 6 (some .boolean) RX10 D cs A h0.se) (hz2 : hz.nx ≤ h0.nx + mc ∧ hz.su ≤ h0.su + ms) (N : Nat) (k15 : Hp → Int32 → Int32 → Int32 → Int32 → Int32 → Option (Hp × Int32)) (t0 : Nat) (m15 : ∀ (h : Hp) (x1 : Int32) (x2 : Int32) (x3 : Int32) (x4 : Int32) (x5 : Int32), k15 h x1 x2 x3 x4 x5 = some (hz, rz) → Mo h hz) (i15 : ∀ (h : Hp) (x1 : Int32) (x2 : Int32) (x3 : Int32) (x4 : Int32) (x5 : Int32) (H : Heap) (locs : List Loc) (cells slots : Nat) (ls : Array Slot), k15 h x1 x2 x3 x4 x5 = some (hz, rz) → h.kd t0 = 13 → Wo D cs A s h0 h H locs cells slots → lv_has ls 6 [(0, .ref t0), (1, .int x1), (2, .int x2), (3, .int x3), (4, .int x4), (5, .int x5)] → W p l e { frames := 1, cells := mc, slots := ms, locals := 30 } s m args below meth c H locs cells slots (MQ below (Zi D cs A hz rz) args s mc ms A) (F0 m 15 ls [])) (h : Hp) (x1 : Int32) (x2 : Int32) (x3 : Int32) (x4 : Int32) (x5 : Int32) (hJ : B_X10_conflicts_15 N k15 t0 h x1 x2 x3 x4 x5 = some (hz, rz)) (hk0 : h.kd t0 = 13) {H : Heap} {locs : List Loc} {cells slots : Nat} (w : Wo D cs A s h0 h H locs cells slots) {ls : Array Slot} (hl : lv_has ls 6 [(0, .ref t0), (1, .int x1), (2, .int x2), (3, .int x3), (4, .int x4), (5, .int x5)]) : W p l e { frames := 1, cells := mc, slots := ms, locals := 30 } s m args below meth c H locs cells slots (MQ below (Zi D cs A hz rz) args s mc ms A) (F0 m 15 ls []) := by
  obtain ⟨hx, hb, hml, hown, hts, -⟩ := id C
  unfold B_X10_conflicts_15 at hJ
  refine lv_iload hx hb dX10_conflicts_15 (lv_at hl 5 rfl) ?_
  refine lv_if_lt (tgt := 94) hx hb dX10_conflicts_17 (by decide) (fun c20 => ?_) (fun c20 => ?_)
  · have hJ := it_pos c20 hJ
    refine lv_iload_n hx hb dX10_conflicts_94 rfl (lv_at hl 2 rfl) ?_
    refine lv_if_eq (tgt := 119) hx hb dX10_conflicts_95 (by decide) (fun c21 => ?_) (fun c21 => ?_)
    · have hJ := it_pos c21 hJ
      exact sb_X10_conflicts_119 C hz2 N t0 _ _ hJ hk0 w (lv_sub (l' := [(0, .ref t0), (2, .int x2)]) hl [0, 2] rfl)
    · have hJ := it_neg c21 hJ
      refine lv_aload_n hx hb dX10_conflicts_98 rfl (lv_at hl 0 rfl) ?_
      refine lv_iconst (v := (1 : Int32)) hx hb dX10_conflicts_99 (by decide) ?_
      refine fp_1347 (x := (1 : Int32)) C w hk0 tw_6_210 dX10_conflicts_100 (fun H locs w => ?_)
      refine lv_aload_n hx hb dX10_conflicts_103 rfl (lv_at hl 0 rfl) ?_
      refine lv_iload_n hx hb dX10_conflicts_104 rfl (lv_at hl 1 rfl) ?_
      refine fp_1348 (x := x1) C w hk0 tw_6_211 dX10_conflicts_105 (fun H locs w => ?_)
      refine lv_aload_n hx hb dX10_conflicts_108 rfl (lv_at hl 0 rfl) ?_
      refine lv_iload hx hb dX10_conflicts_109 (lv_at hl 4 rfl) ?_
      refine fp_1349 (x := x4) C w hk0 tw_6_212 dX10_conflicts_111 (fun H locs w => ?_)
      refine lv_aload_n hx hb dX10_conflicts_114 rfl (lv_at hl 0 rfl) ?_
      refine lv_iload_n hx hb dX10_conflicts_115 rfl (lv_at hl 3 rfl) ?_
      refine fp_1350 (x := x3) C w hk0 tw_6_213 dX10_conflicts_116 (fun H locs w => ?_)
      exact sb_X10_conflicts_119 C hz2 N t0 _ _ hJ hk0 w (lv_sub (l' := [(0, .ref t0), (2, .int x2)]) hl [0, 2] rfl)
  · have hJ := it_neg c20 hJ
    refine lv_aload_n hx hb dX10_conflicts_20 rfl (lv_at hl 0 rfl) ?_
    refine lv_iload hx hb dX10_conflicts_21 (lv_at hl 5 rfl) ?_
    obtain ⟨⟨h22, r23⟩, e24, hJ⟩ := ob_some hJ
    refine jc_Vi (As := [.int x5]) C w (cc_X10_momentOf N t0 h x5 hk0 e24) (mo_X10_momentOf N t0 h x5 e24) (mb_X10_conflicts_26 N k15 t0 _ _ _ _ _ _ _ m15 hJ) hz2 hk0 (by decide) rfl (fs := fs13 h t0) rfl rfl ⟨tw_7_182, tw_7_179, tw_7_181, ts_41, tw_1_7⟩ cd_X10_momentOf ⟨by decide, by decide⟩ hl.1 (by first | exact Nat.le_of_ble_eq_true rfl | simp [rf_cat, cat_i, cat_l, cat_r]) rfl dX10_conflicts_23 (fun H locs w1 => ?_)
    have hk25 := kd_keep w (mo_X10_momentOf N t0 h x5 e24) hk0 (by decide)
    have w := w1
    exact sb_X10_conflicts_26 C hz2 N k15 t0 m15 i15 _ _ _ _ _ _ _ hJ hk25 w hl
def L_X10_conflicts_15 (N : Nat) (t0 : Nat) : Nat → Hp → Int32 → Int32 → Int32 → Int32 → Int32 → Option (Hp × Int32)
  | 0 => fun _ _ _ _ _ _ => none
  | n + 1 => fun h x1 x2 x3 x4 x5 => B_X10_conflicts_15 N (L_X10_conflicts_15 N t0 n) t0 h x1 x2 x3 x4 x5
theorem ml_X10_conflicts_15 (N : Nat) (t0 : Nat) : ∀ (n : Nat) (h : Hp) (x1 : Int32) (x2 : Int32) (x3 : Int32) (x4 : Int32) (x5 : Int32), L_X10_conflicts_15 N t0 n h x1 x2 x3 x4 x5 = some (hz, rz) → Mo h hz := by
  intro n
  induction n with
  | zero => intro h x1 x2 x3 x4 x5 hJ; cases hJ
  | succ n ih => intro h x1 x2 x3 x4 x5 hJ; exact mb_X10_conflicts_15 N (L_X10_conflicts_15 N t0 n) t0 h x1 x2 x3 x4 x5 ih hJ
theorem sl_X10_conflicts_15 (C : Cx p s m args meth c cX10_conflicts 6 (some .boolean) RX10 D cs A h0.se) (hz2 : hz.nx ≤ h0.nx + mc ∧ hz.su ≤ h0.su + ms) (N : Nat) (t0 : Nat) : ∀ n : Nat, ∀ (h : Hp) (x1 : Int32) (x2 : Int32) (x3 : Int32) (x4 : Int32) (x5 : Int32) (H : Heap) (locs : List Loc) (cells slots : Nat) (ls : Array Slot), L_X10_conflicts_15 N t0 n h x1 x2 x3 x4 x5 = some (hz, rz) → h.kd t0 = 13 → Wo D cs A s h0 h H locs cells slots → lv_has ls 6 [(0, .ref t0), (1, .int x1), (2, .int x2), (3, .int x3), (4, .int x4), (5, .int x5)] → W p l e { frames := 1, cells := mc, slots := ms, locals := 30 } s m args below meth c H locs cells slots (MQ below (Zi D cs A hz rz) args s mc ms A) (F0 m 15 ls []) := by
  intro n
  induction n with
  | zero => intro h x1 x2 x3 x4 x5 H locs cells slots ls hJ; cases hJ
  | succ n ih =>
    intro h x1 x2 x3 x4 x5 H locs cells slots ls hJ hk0 w hl
    exact sb_X10_conflicts_15 C hz2 N (L_X10_conflicts_15 N t0 n) t0 (ml_X10_conflicts_15 N t0 n) ih h x1 x2 x3 x4 x5 hJ hk0 w hl
def B_X10_conflicts_0 (N : Nat) (t0 : Nat) (h : Hp) (x1 : Int32) : Option (Hp × Int32) := L_X10_conflicts_15 N t0 N h x1 (0 : Int32) (0 : Int32) (0 : Int32) ((h.gi 1328 t0) - (1 : Int32))
theorem mb_X10_conflicts_0 (N : Nat) (t0 : Nat) (h : Hp) (x1 : Int32) (hJ : B_X10_conflicts_0 N t0 h x1 = some (hz, rz)) : Mo h hz := by
  unfold B_X10_conflicts_0 at hJ
  exact ml_X10_conflicts_15 N t0 N _ _ _ _ _ _ hJ
set_option maxRecDepth 100000 in
set_option maxHeartbeats 4000000 in
theorem sb_X10_conflicts_0 (C : Cx p s m args meth c cX10_conflicts 6 (some .boolean) RX10 D cs A h0.se) (hz2 : hz.nx ≤ h0.nx + mc ∧ hz.su ≤ h0.su + ms) (N : Nat) (t0 : Nat) (h : Hp) (x1 : Int32) (hJ : B_X10_conflicts_0 N t0 h x1 = some (hz, rz)) (hk0 : h.kd t0 = 13) {H : Heap} {locs : List Loc} {cells slots : Nat} (w : Wo D cs A s h0 h H locs cells slots) {ls : Array Slot} (hl : lv_has ls 6 [(0, .ref t0), (1, .int x1)]) : W p l e { frames := 1, cells := mc, slots := ms, locals := 30 } s m args below meth c H locs cells slots (MQ below (Zi D cs A hz rz) args s mc ms A) (F0 m 0 ls []) := by
  obtain ⟨hx, hb, hml, hown, hts, -⟩ := id C
  unfold B_X10_conflicts_0 at hJ
  refine lv_iconst (v := (0 : Int32)) hx hb dX10_conflicts_0 (by decide) ?_
  refine lv_istore_n (i := 2) (lv' := [(2, .int (0 : Int32)), (0, .ref t0), (1, .int x1)]) hx hb dX10_conflicts_1 rfl hl (by decide) rfl (fun ls hl => ?_)
  refine lv_iconst (v := (0 : Int32)) hx hb dX10_conflicts_2 (by decide) ?_
  refine lv_istore_n (i := 3) (lv' := [(3, .int (0 : Int32)), (2, .int (0 : Int32)), (0, .ref t0), (1, .int x1)]) hx hb dX10_conflicts_3 rfl hl (by decide) rfl (fun ls hl => ?_)
  refine lv_iconst (v := (0 : Int32)) hx hb dX10_conflicts_4 (by decide) ?_
  refine lv_istore (i := 4) (lv' := [(4, .int (0 : Int32)), (3, .int (0 : Int32)), (2, .int (0 : Int32)), (0, .ref t0), (1, .int x1)]) hx hb dX10_conflicts_5 hl (by decide) rfl (fun ls hl => ?_)
  refine lv_aload_n hx hb dX10_conflicts_7 rfl (lv_at hl 3 rfl) ?_
  refine fg_1328 C w hk0 tw_6_191 dX10_conflicts_8 ?_
  refine lv_iconst (v := (1 : Int32)) hx hb dX10_conflicts_11 (by decide) ?_
  refine lv_isub hx hb dX10_conflicts_12 ?_
  refine lv_istore (i := 5) (lv' := [(5, .int ((h.gi 1328 t0) - (1 : Int32))), (4, .int (0 : Int32)), (3, .int (0 : Int32)), (2, .int (0 : Int32)), (0, .ref t0), (1, .int x1)]) hx hb dX10_conflicts_13 hl (by decide) rfl (fun ls hl => ?_)
  exact sl_X10_conflicts_15 C hz2 N t0 N _ _ _ _ _ _ _ _ _ _ _ hJ hk0 w (lv_sub (l' := [(0, .ref t0), (1, .int x1), (2, .int (0 : Int32)), (3, .int (0 : Int32)), (4, .int (0 : Int32)), (5, .int ((h.gi 1328 t0) - (1 : Int32)))]) hl [4, 5, 3, 2, 1, 0] rfl)
def J_X10_conflicts (N : Nat) (t0 : Nat) (h : Hp) (x1 : Int32) : Option (Hp × Int32) := B_X10_conflicts_0 N t0 h x1
theorem mo_X10_conflicts (N : Nat) (t0 : Nat) (h : Hp) (x1 : Int32) (hJ : J_X10_conflicts N t0 h x1 = some (hz, rz)) : Mo h hz := mb_X10_conflicts_0 N t0 h x1 hJ
theorem cd_X10_conflicts : Cd yX10_conflicts 1 := ⟨by decide +kernel, by decide +kernel, by decide +kernel⟩
theorem cc_X10_conflicts (N : Nat) (t0 : Nat) (h : Hp) (x1 : Int32) (hk0 : h.kd t0 = 13) (hJ : J_X10_conflicts N t0 h x1 = some (hz, rz)) : Ci l yX10_conflicts cX10_conflicts 6 (some .boolean) 1 30 D cs h hz [.ref t0, .int x1] rz := by
  intro mc ms g1 g2
  refine je_any (by decide) (by simp [lg_sl, rf_cat, cat_i, cat_l, cat_r]) ?_
  intro p e s m args below meth c C hin2 w ls hl
  have hl : lv_has ls 6 [(0, .ref t0), (1, .int x1)] := hl
  exact sb_X10_conflicts_0 C ⟨g1, g2⟩ N t0 h x1 hJ hk0 w hl
end G_X10_conflicts
section G_X10_atMoment
variable {p : Program} {l : Launch} {e : Env} {s : State} {m : MethodId} {args : Array Value} {below : List Frame} {meth : Method} {c : Code} {D : va_G} {cs : C4} {A : Nat → Prop} {h0 hz : Hp} {mc ms : Nat} {rz : Int32}
def B_X10_atMoment_32 (N : Nat) (k2 : Hp → Int32 → Int32 → Option (Hp × Int32)) (t0 : Nat) (h : Hp) (x1 : Int32) (x2 : Int32) : Option (Hp × Int32) := k2 h x1 (x2 + (1 : Int32))
theorem mb_X10_atMoment_32 (N : Nat) (k2 : Hp → Int32 → Int32 → Option (Hp × Int32)) (t0 : Nat) (h : Hp) (x1 : Int32) (x2 : Int32) (m2 : ∀ (h : Hp) (x1 : Int32) (x2 : Int32), k2 h x1 x2 = some (hz, rz) → Mo h hz) (hJ : B_X10_atMoment_32 N k2 t0 h x1 x2 = some (hz, rz)) : Mo h hz := by
  unfold B_X10_atMoment_32 at hJ
  exact m2 _ _ _ hJ
set_option maxRecDepth 100000 in
set_option maxHeartbeats 4000000 in
theorem sb_X10_atMoment_32 (C : Cx p s m args meth c cX10_atMoment 3 (some .int) RX10 D cs A h0.se) (hz2 : hz.nx ≤ h0.nx + mc ∧ hz.su ≤ h0.su + ms) (N : Nat) (k2 : Hp → Int32 → Int32 → Option (Hp × Int32)) (t0 : Nat) (m2 : ∀ (h : Hp) (x1 : Int32) (x2 : Int32), k2 h x1 x2 = some (hz, rz) → Mo h hz) (i2 : ∀ (h : Hp) (x1 : Int32) (x2 : Int32) (H : Heap) (locs : List Loc) (cells slots : Nat) (ls : Array Slot), k2 h x1 x2 = some (hz, rz) → h.kd t0 = 13 → Wo D cs A s h0 h H locs cells slots → lv_has ls 3 [(0, .ref t0), (1, .int x1), (2, .int x2)] → W p l e { frames := 0, cells := mc, slots := ms, locals := 0 } s m args below meth c H locs cells slots (MQ below (Zi D cs A hz rz) args s mc ms A) (F0 m 2 ls [])) (h : Hp) (x1 : Int32) (x2 : Int32) (hJ : B_X10_atMoment_32 N k2 t0 h x1 x2 = some (hz, rz)) (hk0 : h.kd t0 = 13) {H : Heap} {locs : List Loc} {cells slots : Nat} (w : Wo D cs A s h0 h H locs cells slots) {ls : Array Slot} (hl : lv_has ls 3 [(0, .ref t0), (1, .int x1), (2, .int x2)]) : W p l e { frames := 0, cells := mc, slots := ms, locals := 0 } s m args below meth c H locs cells slots (MQ below (Zi D cs A hz rz) args s mc ms A) (F0 m 32 ls []) := by
  obtain ⟨hx, hb, hml, hown, hts, -⟩ := id C
  unfold B_X10_atMoment_32 at hJ
  refine lv_iinc (v := x2 + (1 : Int32)) (lv' := [(2, .int (x2 + (1 : Int32))), (0, .ref t0), (1, .int x1)]) hx hb dX10_atMoment_32 hl (k := 2) rfl rfl (by decide) rfl (fun ls hl => ?_)
  refine lv_goto (tgt := 2) hx hb dX10_atMoment_35 (by decide) ?_
  exact i2 _ _ _ _ _ _ _ _ hJ hk0 w (lv_sub (l' := [(0, .ref t0), (1, .int x1), (2, .int (x2 + (1 : Int32)))]) hl [1, 2, 0] rfl)
def B_X10_atMoment_2 (N : Nat) (k2 : Hp → Int32 → Int32 → Option (Hp × Int32)) (t0 : Nat) (h : Hp) (x1 : Int32) (x2 : Int32) : Option (Hp × Int32) := if (h.gi 1311 t0) < x2 then (some (h, (0 : Int32))) else (dr h 30 (h.gr 1301 t0) (fun a2 => ck (¬ (x2 < 0 ∨ h.al a2 ≤ x2.toNatClampNeg)) (if (h.bi a2 x2.toNatClampNeg) = (2 : Int32) then (dr h 30 (h.gr 1304 t0) (fun a5 => ck (¬ (x2 < 0 ∨ h.al a5 ≤ x2.toNatClampNeg)) (if (h.bi a5 x2.toNatClampNeg) = x1 then (some (h, x2)) else (B_X10_atMoment_32 N k2 t0 h x1 x2)))) else (B_X10_atMoment_32 N k2 t0 h x1 x2))))
theorem mb_X10_atMoment_2 (N : Nat) (k2 : Hp → Int32 → Int32 → Option (Hp × Int32)) (t0 : Nat) (h : Hp) (x1 : Int32) (x2 : Int32) (m2 : ∀ (h : Hp) (x1 : Int32) (x2 : Int32), k2 h x1 x2 = some (hz, rz) → Mo h hz) (hJ : B_X10_atMoment_2 N k2 t0 h x1 x2 = some (hz, rz)) : Mo h hz := by
  unfold B_X10_atMoment_2 at hJ
  by_cases c1 : (h.gi 1311 t0) < x2
  · have hJ := it_pos c1 hJ
    obtain ⟨rfl, -⟩ := rs2 hJ
    exact ⟨fun _ _ => rfl, Nat.le_refl _, Nat.le_refl _, rfl, fun _ _ => rfl⟩
  · have hJ := it_neg c1 hJ
    obtain ⟨a2, ea2, -, hJ⟩ := dr_some hJ
    obtain ⟨-, hJ⟩ := ck_some hJ
    by_cases c4 : (h.bi a2 x2.toNatClampNeg) = (2 : Int32)
    · have hJ := it_pos c4 hJ
      obtain ⟨a5, ea5, -, hJ⟩ := dr_some hJ
      obtain ⟨-, hJ⟩ := ck_some hJ
      by_cases c7 : (h.bi a5 x2.toNatClampNeg) = x1
      · have hJ := it_pos c7 hJ
        obtain ⟨rfl, -⟩ := rs2 hJ
        exact ⟨fun _ _ => rfl, Nat.le_refl _, Nat.le_refl _, rfl, fun _ _ => rfl⟩
      · have hJ := it_neg c7 hJ
        exact mb_X10_atMoment_32 N k2 t0 _ _ _ m2 hJ
    · have hJ := it_neg c4 hJ
      exact mb_X10_atMoment_32 N k2 t0 _ _ _ m2 hJ
set_option maxRecDepth 100000 in
set_option maxHeartbeats 4000000 in
theorem sb_X10_atMoment_2 (C : Cx p s m args meth c cX10_atMoment 3 (some .int) RX10 D cs A h0.se) (hz2 : hz.nx ≤ h0.nx + mc ∧ hz.su ≤ h0.su + ms) (N : Nat) (k2 : Hp → Int32 → Int32 → Option (Hp × Int32)) (t0 : Nat) (m2 : ∀ (h : Hp) (x1 : Int32) (x2 : Int32), k2 h x1 x2 = some (hz, rz) → Mo h hz) (i2 : ∀ (h : Hp) (x1 : Int32) (x2 : Int32) (H : Heap) (locs : List Loc) (cells slots : Nat) (ls : Array Slot), k2 h x1 x2 = some (hz, rz) → h.kd t0 = 13 → Wo D cs A s h0 h H locs cells slots → lv_has ls 3 [(0, .ref t0), (1, .int x1), (2, .int x2)] → W p l e { frames := 0, cells := mc, slots := ms, locals := 0 } s m args below meth c H locs cells slots (MQ below (Zi D cs A hz rz) args s mc ms A) (F0 m 2 ls [])) (h : Hp) (x1 : Int32) (x2 : Int32) (hJ : B_X10_atMoment_2 N k2 t0 h x1 x2 = some (hz, rz)) (hk0 : h.kd t0 = 13) {H : Heap} {locs : List Loc} {cells slots : Nat} (w : Wo D cs A s h0 h H locs cells slots) {ls : Array Slot} (hl : lv_has ls 3 [(0, .ref t0), (1, .int x1), (2, .int x2)]) : W p l e { frames := 0, cells := mc, slots := ms, locals := 0 } s m args below meth c H locs cells slots (MQ below (Zi D cs A hz rz) args s mc ms A) (F0 m 2 ls []) := by
  obtain ⟨hx, hb, hml, hown, hts, -⟩ := id C
  unfold B_X10_atMoment_2 at hJ
  refine lv_iload_n hx hb dX10_atMoment_2 rfl (lv_at hl 2 rfl) ?_
  refine lv_aload_n hx hb dX10_atMoment_3 rfl (lv_at hl 0 rfl) ?_
  refine fg_1311 C w hk0 tw_6_174 dX10_atMoment_4 ?_
  refine lv_icmp_gt (tgt := 38) hx hb dX10_atMoment_7 (by decide) (fun c1 => ?_) (fun c1 => ?_)
  · have hJ := it_pos c1 hJ
    refine lv_iconst (v := (0 : Int32)) hx hb dX10_atMoment_38 (by decide) ?_
    obtain ⟨rfl, rfl⟩ := rs2 hJ
    exact jr_iret C w hz2 dX10_atMoment_39
  · have hJ := it_neg c1 hJ
    refine lv_aload_n hx hb dX10_atMoment_10 rfl (lv_at hl 0 rfl) ?_
    refine fg_1301 C w hk0 tw_6_164 dX10_atMoment_11 ?_
    refine lv_iload_n hx hb dX10_atMoment_14 rfl (lv_at hl 2 rfl) ?_
    obtain ⟨a2, ea2, hka2, hJ⟩ := dr_some hJ
    rw [ea2]
    obtain ⟨hi3, hJ⟩ := ck_some hJ
    refine jr_ialdM C w hka2 hi3 dX10_atMoment_15 ?_
    refine lv_iconst (v := (2 : Int32)) hx hb dX10_atMoment_16 (by decide) ?_
    refine lv_icmp_ne (tgt := 32) hx hb dX10_atMoment_17 (by decide) (fun c4 => ?_) (fun c4 => ?_)
    · have hJ := it_neg c4 hJ
      exact sb_X10_atMoment_32 C hz2 N k2 t0 m2 i2 _ _ _ hJ hk0 w hl
    · have hJ := it_pos c4 hJ
      refine lv_aload_n hx hb dX10_atMoment_20 rfl (lv_at hl 0 rfl) ?_
      refine fg_1304 C w hk0 tw_6_167 dX10_atMoment_21 ?_
      refine lv_iload_n hx hb dX10_atMoment_24 rfl (lv_at hl 2 rfl) ?_
      obtain ⟨a5, ea5, hka5, hJ⟩ := dr_some hJ
      rw [ea5]
      obtain ⟨hi6, hJ⟩ := ck_some hJ
      refine jr_ialdM C w hka5 hi6 dX10_atMoment_25 ?_
      refine lv_iload_n hx hb dX10_atMoment_26 rfl (lv_at hl 1 rfl) ?_
      refine lv_icmp_ne (tgt := 32) hx hb dX10_atMoment_27 (by decide) (fun c7 => ?_) (fun c7 => ?_)
      · have hJ := it_neg c7 hJ
        exact sb_X10_atMoment_32 C hz2 N k2 t0 m2 i2 _ _ _ hJ hk0 w hl
      · have hJ := it_pos c7 hJ
        refine lv_iload_n hx hb dX10_atMoment_30 rfl (lv_at hl 2 rfl) ?_
        obtain ⟨rfl, rfl⟩ := rs2 hJ
        exact jr_iret C w hz2 dX10_atMoment_31
def L_X10_atMoment_2 (N : Nat) (t0 : Nat) : Nat → Hp → Int32 → Int32 → Option (Hp × Int32)
  | 0 => fun _ _ _ => none
  | n + 1 => fun h x1 x2 => B_X10_atMoment_2 N (L_X10_atMoment_2 N t0 n) t0 h x1 x2
theorem ml_X10_atMoment_2 (N : Nat) (t0 : Nat) : ∀ (n : Nat) (h : Hp) (x1 : Int32) (x2 : Int32), L_X10_atMoment_2 N t0 n h x1 x2 = some (hz, rz) → Mo h hz := by
  intro n
  induction n with
  | zero => intro h x1 x2 hJ; cases hJ
  | succ n ih => intro h x1 x2 hJ; exact mb_X10_atMoment_2 N (L_X10_atMoment_2 N t0 n) t0 h x1 x2 ih hJ
theorem sl_X10_atMoment_2 (C : Cx p s m args meth c cX10_atMoment 3 (some .int) RX10 D cs A h0.se) (hz2 : hz.nx ≤ h0.nx + mc ∧ hz.su ≤ h0.su + ms) (N : Nat) (t0 : Nat) : ∀ n : Nat, ∀ (h : Hp) (x1 : Int32) (x2 : Int32) (H : Heap) (locs : List Loc) (cells slots : Nat) (ls : Array Slot), L_X10_atMoment_2 N t0 n h x1 x2 = some (hz, rz) → h.kd t0 = 13 → Wo D cs A s h0 h H locs cells slots → lv_has ls 3 [(0, .ref t0), (1, .int x1), (2, .int x2)] → W p l e { frames := 0, cells := mc, slots := ms, locals := 0 } s m args below meth c H locs cells slots (MQ below (Zi D cs A hz rz) args s mc ms A) (F0 m 2 ls []) := by
  intro n
  induction n with
  | zero => intro h x1 x2 H locs cells slots ls hJ; cases hJ
  | succ n ih =>
    intro h x1 x2 H locs cells slots ls hJ hk0 w hl
    exact sb_X10_atMoment_2 C hz2 N (L_X10_atMoment_2 N t0 n) t0 (ml_X10_atMoment_2 N t0 n) ih h x1 x2 hJ hk0 w hl
def B_X10_atMoment_0 (N : Nat) (t0 : Nat) (h : Hp) (x1 : Int32) : Option (Hp × Int32) := L_X10_atMoment_2 N t0 N h x1 (1 : Int32)
theorem mb_X10_atMoment_0 (N : Nat) (t0 : Nat) (h : Hp) (x1 : Int32) (hJ : B_X10_atMoment_0 N t0 h x1 = some (hz, rz)) : Mo h hz := by
  unfold B_X10_atMoment_0 at hJ
  exact ml_X10_atMoment_2 N t0 N _ _ _ hJ
set_option maxRecDepth 100000 in
set_option maxHeartbeats 4000000 in
theorem sb_X10_atMoment_0 (C : Cx p s m args meth c cX10_atMoment 3 (some .int) RX10 D cs A h0.se) (hz2 : hz.nx ≤ h0.nx + mc ∧ hz.su ≤ h0.su + ms) (N : Nat) (t0 : Nat) (h : Hp) (x1 : Int32) (hJ : B_X10_atMoment_0 N t0 h x1 = some (hz, rz)) (hk0 : h.kd t0 = 13) {H : Heap} {locs : List Loc} {cells slots : Nat} (w : Wo D cs A s h0 h H locs cells slots) {ls : Array Slot} (hl : lv_has ls 3 [(0, .ref t0), (1, .int x1)]) : W p l e { frames := 0, cells := mc, slots := ms, locals := 0 } s m args below meth c H locs cells slots (MQ below (Zi D cs A hz rz) args s mc ms A) (F0 m 0 ls []) := by
  obtain ⟨hx, hb, hml, hown, hts, -⟩ := id C
  unfold B_X10_atMoment_0 at hJ
  refine lv_iconst (v := (1 : Int32)) hx hb dX10_atMoment_0 (by decide) ?_
  refine lv_istore_n (i := 2) (lv' := [(2, .int (1 : Int32)), (0, .ref t0), (1, .int x1)]) hx hb dX10_atMoment_1 rfl hl (by decide) rfl (fun ls hl => ?_)
  exact sl_X10_atMoment_2 C hz2 N t0 N _ _ _ _ _ _ _ _ hJ hk0 w (lv_sub (l' := [(0, .ref t0), (1, .int x1), (2, .int (1 : Int32))]) hl [1, 2, 0] rfl)
def J_X10_atMoment (N : Nat) (t0 : Nat) (h : Hp) (x1 : Int32) : Option (Hp × Int32) := B_X10_atMoment_0 N t0 h x1
theorem mo_X10_atMoment (N : Nat) (t0 : Nat) (h : Hp) (x1 : Int32) (hJ : J_X10_atMoment N t0 h x1 = some (hz, rz)) : Mo h hz := mb_X10_atMoment_0 N t0 h x1 hJ
theorem cd_X10_atMoment : Cd yX10_atMoment 1 := ⟨by decide +kernel, by decide +kernel, by decide +kernel⟩
theorem cc_X10_atMoment (N : Nat) (t0 : Nat) (h : Hp) (x1 : Int32) (hk0 : h.kd t0 = 13) (hJ : J_X10_atMoment N t0 h x1 = some (hz, rz)) : Ci l yX10_atMoment cX10_atMoment 3 (some .int) 0 0 D cs h hz [.ref t0, .int x1] rz := by
  intro mc ms g1 g2
  refine je_any (by decide) (by simp [lg_sl, rf_cat, cat_i, cat_l, cat_r]) ?_
  intro p e s m args below meth c C hin2 w ls hl
  have hl : lv_has ls 3 [(0, .ref t0), (1, .int x1)] := hl
  exact sb_X10_atMoment_0 C ⟨g1, g2⟩ N t0 h x1 hJ hk0 w hl
end G_X10_atMoment
section G_X10_danger
variable {p : Program} {l : Launch} {e : Env} {s : State} {m : MethodId} {args : Array Value} {below : List Frame} {meth : Method} {c : Code} {D : va_G} {cs : C4} {A : Nat → Prop} {h0 hz : Hp} {mc ms : Nat}
def B_X10_danger_25 (N : Nat) (t0 : Nat) (h : Hp) (y0 : Option Nat) (y1 : Int32) : Option (Hp × Unit) := dr h 13 y0 (fun a1 => some (h.sgi 1350 a1 y1, ()))
theorem mb_X10_danger_25 (N : Nat) (t0 : Nat) (h : Hp) (y0 : Option Nat) (y1 : Int32) (hJ : B_X10_danger_25 N t0 h y0 y1 = some (hz, ())) : Mo h hz := by
  unfold B_X10_danger_25 at hJ
  obtain ⟨a1, ea1, -, hJ⟩ := dr_some hJ
  obtain ⟨rfl, -⟩ := rs2 hJ
  exact ⟨fun _ _ => rfl, Nat.le_refl _, Nat.le_refl _, rfl, fun _ _ => rfl⟩
set_option maxRecDepth 100000 in
set_option maxHeartbeats 4000000 in
theorem sb_X10_danger_25 (C : Cx p s m args meth c cX10_danger 3 none RX10 D cs A h0.se) (hz2 : hz.nx ≤ h0.nx + mc ∧ hz.su ≤ h0.su + ms) (N : Nat) (t0 : Nat) (h : Hp) (y0 : Option Nat) (y1 : Int32) (hJ : B_X10_danger_25 N t0 h y0 y1 = some (hz, ())) (hk0 : h.kd t0 = 13) {H : Heap} {locs : List Loc} {cells slots : Nat} (w : Wo D cs A s h0 h H locs cells slots) {ls : Array Slot} (hl : lv_has ls 3 [(0, .ref t0)]) : W p l e { frames := 3, cells := mc, slots := ms, locals := 90 } s m args below meth c H locs cells slots (MQ below (Zv D cs A hz) args s mc ms A) (F0 m 25 ls [.int y1, va_rf y0]) := by
  obtain ⟨hx, hb, hml, hown, hts, -⟩ := id C
  unfold B_X10_danger_25 at hJ
  obtain ⟨a1, ea1, hka1, hJ⟩ := dr_some hJ
  rw [ea1]
  refine fp_1350 (x := y1) C w hka1 tw_6_213 dX10_danger_25 (fun H locs w => ?_)
  obtain ⟨rfl, -⟩ := rs2 hJ
  exact jr_vret C w hz2 dX10_danger_28
def B_X10_danger_22 (N : Nat) (t0 : Nat) (h : Hp) (y0 : Option Nat) (y1 : Option Nat) (y2 : Int32) : Option (Hp × Unit) := dr h 13 y1 (fun a2 => (J_X10_atMoment N a2 h y2).bind (fun z => B_X10_danger_25 N t0 z.1 y0 z.2))
theorem mb_X10_danger_22 (N : Nat) (t0 : Nat) (h : Hp) (y0 : Option Nat) (y1 : Option Nat) (y2 : Int32) (hJ : B_X10_danger_22 N t0 h y0 y1 y2 = some (hz, ())) : Mo h hz := by
  unfold B_X10_danger_22 at hJ
  obtain ⟨a2, ea2, -, hJ⟩ := dr_some hJ
  obtain ⟨⟨h3, r4⟩, e5, hJ⟩ := ob_some hJ
  exact (mo_X10_atMoment N a2 h y2 e5).tr (mb_X10_danger_25 N t0 _ _ _ hJ)
set_option maxRecDepth 100000 in
set_option maxHeartbeats 4000000 in
theorem sb_X10_danger_22 (C : Cx p s m args meth c cX10_danger 3 none RX10 D cs A h0.se) (hz2 : hz.nx ≤ h0.nx + mc ∧ hz.su ≤ h0.su + ms) (N : Nat) (t0 : Nat) (h : Hp) (y0 : Option Nat) (y1 : Option Nat) (y2 : Int32) (hJ : B_X10_danger_22 N t0 h y0 y1 y2 = some (hz, ())) (hk0 : h.kd t0 = 13) {H : Heap} {locs : List Loc} {cells slots : Nat} (w : Wo D cs A s h0 h H locs cells slots) {ls : Array Slot} (hl : lv_has ls 3 [(0, .ref t0)]) : W p l e { frames := 3, cells := mc, slots := ms, locals := 90 } s m args below meth c H locs cells slots (MQ below (Zv D cs A hz) args s mc ms A) (F0 m 22 ls [.int y2, va_rf y1, va_rf y0]) := by
  obtain ⟨hx, hb, hml, hown, hts, -⟩ := id C
  unfold B_X10_danger_22 at hJ
  obtain ⟨a2, ea2, hka2, hJ⟩ := dr_some hJ
  rw [ea2]
  obtain ⟨⟨h3, r4⟩, e5, hJ⟩ := ob_some hJ
  refine jc_Vi (As := [.int y2]) C w (cc_X10_atMoment N a2 h y2 hka2 e5) (mo_X10_atMoment N a2 h y2 e5) (mb_X10_danger_25 N t0 _ _ _ hJ) hz2 hka2 (by decide) rfl (fs := fs13 h a2) rfl rfl ⟨tw_7_206, tw_7_203, tw_7_205, ts_47, tw_1_7⟩ cd_X10_atMoment ⟨by decide, by decide⟩ hl.1 (by first | exact Nat.le_of_ble_eq_true rfl | simp [rf_cat, cat_i, cat_l, cat_r]) rfl dX10_danger_22 (fun H locs w1 => ?_)
  have hk6 := kd_keep w (mo_X10_atMoment N a2 h y2 e5) hk0 (by decide)
  have w := w1
  exact sb_X10_danger_25 C hz2 N t0 _ _ _ hJ hk6 w hl
def B_X10_danger_0 (N : Nat) (t0 : Nat) (h : Hp) (x1 : Int32) (x2 : Int32) : Option (Hp × Unit) := (J_X10_outOf N t0 (((h.sgi 1347 t0 (2 : Int32)).sgi 1348 t0 x1).sgi 1349 t0 x2) x2).bind (fun z => B_X10_danger_22 N t0 z.1 (some t0) (some t0) z.2)
theorem mb_X10_danger_0 (N : Nat) (t0 : Nat) (h : Hp) (x1 : Int32) (x2 : Int32) (hJ : B_X10_danger_0 N t0 h x1 x2 = some (hz, ())) : Mo h hz := by
  unfold B_X10_danger_0 at hJ
  obtain ⟨⟨h7, r8⟩, e9, hJ⟩ := ob_some hJ
  exact (Mo.tr (show Mo h (((h.sgi 1347 t0 (2 : Int32)).sgi 1348 t0 x1).sgi 1349 t0 x2) from ⟨fun _ _ => rfl, Nat.le_refl _, Nat.le_refl _, rfl, fun _ _ => rfl⟩) ((mo_X10_outOf N t0 (((h.sgi 1347 t0 (2 : Int32)).sgi 1348 t0 x1).sgi 1349 t0 x2) x2 e9).tr (mb_X10_danger_22 N t0 _ _ _ _ hJ)))
set_option maxRecDepth 100000 in
set_option maxHeartbeats 4000000 in
theorem sb_X10_danger_0 (C : Cx p s m args meth c cX10_danger 3 none RX10 D cs A h0.se) (hz2 : hz.nx ≤ h0.nx + mc ∧ hz.su ≤ h0.su + ms) (N : Nat) (t0 : Nat) (h : Hp) (x1 : Int32) (x2 : Int32) (hJ : B_X10_danger_0 N t0 h x1 x2 = some (hz, ())) (hk0 : h.kd t0 = 13) {H : Heap} {locs : List Loc} {cells slots : Nat} (w : Wo D cs A s h0 h H locs cells slots) {ls : Array Slot} (hl : lv_has ls 3 [(0, .ref t0), (1, .int x1), (2, .int x2)]) : W p l e { frames := 3, cells := mc, slots := ms, locals := 90 } s m args below meth c H locs cells slots (MQ below (Zv D cs A hz) args s mc ms A) (F0 m 0 ls []) := by
  obtain ⟨hx, hb, hml, hown, hts, -⟩ := id C
  unfold B_X10_danger_0 at hJ
  refine lv_aload_n hx hb dX10_danger_0 rfl (lv_at hl 0 rfl) ?_
  refine lv_iconst (v := (2 : Int32)) hx hb dX10_danger_1 (by decide) ?_
  refine fp_1347 (x := (2 : Int32)) C w hk0 tw_6_210 dX10_danger_2 (fun H locs w => ?_)
  refine lv_aload_n hx hb dX10_danger_5 rfl (lv_at hl 0 rfl) ?_
  refine lv_iload_n hx hb dX10_danger_6 rfl (lv_at hl 1 rfl) ?_
  refine fp_1348 (x := x1) C w hk0 tw_6_211 dX10_danger_7 (fun H locs w => ?_)
  refine lv_aload_n hx hb dX10_danger_10 rfl (lv_at hl 0 rfl) ?_
  refine lv_iload_n hx hb dX10_danger_11 rfl (lv_at hl 2 rfl) ?_
  refine fp_1349 (x := x2) C w hk0 tw_6_212 dX10_danger_12 (fun H locs w => ?_)
  refine lv_aload_n hx hb dX10_danger_15 rfl (lv_at hl 0 rfl) ?_
  refine lv_aload_n hx hb dX10_danger_16 rfl (lv_at hl 0 rfl) ?_
  refine lv_aload_n hx hb dX10_danger_17 rfl (lv_at hl 0 rfl) ?_
  refine lv_iload_n hx hb dX10_danger_18 rfl (lv_at hl 2 rfl) ?_
  obtain ⟨⟨h7, r8⟩, e9, hJ⟩ := ob_some hJ
  refine jc_Vi (As := [.int x2]) C w (cc_X10_outOf N t0 (((h.sgi 1347 t0 (2 : Int32)).sgi 1348 t0 x1).sgi 1349 t0 x2) x2 hk0 e9) (mo_X10_outOf N t0 (((h.sgi 1347 t0 (2 : Int32)).sgi 1348 t0 x1).sgi 1349 t0 x2) x2 e9) (mb_X10_danger_22 N t0 _ _ _ _ hJ) hz2 hk0 (by decide) rfl (fs := fs13 (((h.sgi 1347 t0 (2 : Int32)).sgi 1348 t0 x1).sgi 1349 t0 x2) t0) rfl rfl ⟨tw_7_149, tw_7_146, tw_7_148, ts_34, tw_1_7⟩ cd_X10_outOf ⟨by decide, by decide⟩ hl.1 (by first | exact Nat.le_of_ble_eq_true rfl | simp [rf_cat, cat_i, cat_l, cat_r]) rfl dX10_danger_19 (fun H locs w1 => ?_)
  have hk10 := kd_keep w (mo_X10_outOf N t0 (((h.sgi 1347 t0 (2 : Int32)).sgi 1348 t0 x1).sgi 1349 t0 x2) x2 e9) hk0 (by decide)
  have w := w1
  exact sb_X10_danger_22 C hz2 N t0 _ _ _ _ hJ hk10 w (lv_sub (l' := [(0, .ref t0)]) hl [0] rfl)
def J_X10_danger (N : Nat) (t0 : Nat) (h : Hp) (x1 : Int32) (x2 : Int32) : Option (Hp × Unit) := B_X10_danger_0 N t0 h x1 x2
theorem mo_X10_danger (N : Nat) (t0 : Nat) (h : Hp) (x1 : Int32) (x2 : Int32) (hJ : J_X10_danger N t0 h x1 x2 = some (hz, ())) : Mo h hz := mb_X10_danger_0 N t0 h x1 x2 hJ
theorem cd_X10_danger : Cd yX10_danger 2 := ⟨by decide +kernel, by decide +kernel, by decide +kernel⟩
theorem cc_X10_danger (N : Nat) (t0 : Nat) (h : Hp) (x1 : Int32) (x2 : Int32) (hk0 : h.kd t0 = 13) (hJ : J_X10_danger N t0 h x1 x2 = some (hz, ())) : Cv l yX10_danger cX10_danger 3 none 3 90 D cs h hz [.ref t0, .int x1, .int x2] := by
  intro mc ms g1 g2
  refine je_any (by decide) (by simp [lg_sl, rf_cat, cat_i, cat_l, cat_r]) ?_
  intro p e s m args below meth c C hin2 w ls hl
  have hl : lv_has ls 3 [(0, .ref t0), (1, .int x1), (2, .int x2)] := hl
  exact sb_X10_danger_0 C ⟨g1, g2⟩ N t0 h x1 x2 hJ hk0 w hl
end G_X10_danger
section G_X10_ends
variable {p : Program} {l : Launch} {e : Env} {s : State} {m : MethodId} {args : Array Value} {below : List Frame} {meth : Method} {c : Code} {D : va_G} {cs : C4} {A : Nat → Prop} {h0 hz : Hp} {mc ms : Nat}
def B_X10_ends_21 (N : Nat) (t0 : Nat) (h : Hp) : Option (Hp × Unit) := some (h, ())
theorem mb_X10_ends_21 (N : Nat) (t0 : Nat) (h : Hp) (hJ : B_X10_ends_21 N t0 h = some (hz, ())) : Mo h hz := by
  unfold B_X10_ends_21 at hJ
  obtain ⟨rfl, -⟩ := rs2 hJ
  exact ⟨fun _ _ => rfl, Nat.le_refl _, Nat.le_refl _, rfl, fun _ _ => rfl⟩
set_option maxRecDepth 100000 in
set_option maxHeartbeats 4000000 in
theorem sb_X10_ends_21 (C : Cx p s m args meth c cX10_ends 3 none RX10 D cs A h0.se) (hz2 : hz.nx ≤ h0.nx + mc ∧ hz.su ≤ h0.su + ms) (N : Nat) (t0 : Nat) (h : Hp) (hJ : B_X10_ends_21 N t0 h = some (hz, ())) (hk0 : h.kd t0 = 13) {H : Heap} {locs : List Loc} {cells slots : Nat} (w : Wo D cs A s h0 h H locs cells slots) {ls : Array Slot} (hl : lv_has ls 3 [(0, .ref t0)]) : W p l e { frames := 5, cells := mc, slots := ms, locals := 150 } s m args below meth c H locs cells slots (MQ below (Zv D cs A hz) args s mc ms A) (F0 m 21 ls []) := by
  obtain ⟨hx, hb, hml, hown, hts, -⟩ := id C
  unfold B_X10_ends_21 at hJ
  obtain ⟨rfl, -⟩ := rs2 hJ
  exact jr_vret C w hz2 dX10_ends_21
def B_X10_ends_0 (N : Nat) (t0 : Nat) (h : Hp) (x1 : Int32) (x2 : Int32) : Option (Hp × Unit) := dr h 30 (h.gr 1301 t0) (fun a1 => ck (¬ (x1 < 0 ∨ h.al a1 ≤ x1.toNatClampNeg)) (dr (h.sbi a1 x1.toNatClampNeg x2) 30 ((h.sbi a1 x1.toNatClampNeg x2).gr 1306 t0) (fun a3 => ck (¬ (x1 < 0 ∨ (h.sbi a1 x1.toNatClampNeg x2).al a3 ≤ x1.toNatClampNeg)) ((J_X10_judge N t0 ((h.sbi a1 x1.toNatClampNeg x2).sbi a3 x1.toNatClampNeg ((h.sbi a1 x1.toNatClampNeg x2).gi 1313 t0))).bind (fun z => B_X10_ends_21 N t0 z.1)))))
theorem mb_X10_ends_0 (N : Nat) (t0 : Nat) (h : Hp) (x1 : Int32) (x2 : Int32) (hJ : B_X10_ends_0 N t0 h x1 x2 = some (hz, ())) : Mo h hz := by
  unfold B_X10_ends_0 at hJ
  obtain ⟨a1, ea1, -, hJ⟩ := dr_some hJ
  obtain ⟨-, hJ⟩ := ck_some hJ
  obtain ⟨a3, ea3, -, hJ⟩ := dr_some hJ
  obtain ⟨-, hJ⟩ := ck_some hJ
  obtain ⟨⟨h5, r6⟩, e7, hJ⟩ := ob_some hJ
  exact (Mo.tr (show Mo h ((h.sbi a1 x1.toNatClampNeg x2).sbi a3 x1.toNatClampNeg ((h.sbi a1 x1.toNatClampNeg x2).gi 1313 t0)) from ⟨fun _ _ => rfl, Nat.le_refl _, Nat.le_refl _, rfl, fun _ _ => rfl⟩) ((mo_X10_judge N t0 ((h.sbi a1 x1.toNatClampNeg x2).sbi a3 x1.toNatClampNeg ((h.sbi a1 x1.toNatClampNeg x2).gi 1313 t0)) e7).tr (mb_X10_ends_21 N t0 _ hJ)))
set_option maxRecDepth 100000 in
set_option maxHeartbeats 4000000 in
theorem sb_X10_ends_0 (C : Cx p s m args meth c cX10_ends 3 none RX10 D cs A h0.se) (hz2 : hz.nx ≤ h0.nx + mc ∧ hz.su ≤ h0.su + ms) (N : Nat) (t0 : Nat) (h : Hp) (x1 : Int32) (x2 : Int32) (hJ : B_X10_ends_0 N t0 h x1 x2 = some (hz, ())) (hk0 : h.kd t0 = 13) {H : Heap} {locs : List Loc} {cells slots : Nat} (w : Wo D cs A s h0 h H locs cells slots) {ls : Array Slot} (hl : lv_has ls 3 [(0, .ref t0), (1, .int x1), (2, .int x2)]) : W p l e { frames := 5, cells := mc, slots := ms, locals := 150 } s m args below meth c H locs cells slots (MQ below (Zv D cs A hz) args s mc ms A) (F0 m 0 ls []) := by
  obtain ⟨hx, hb, hml, hown, hts, -⟩ := id C
  unfold B_X10_ends_0 at hJ
  refine lv_aload_n hx hb dX10_ends_0 rfl (lv_at hl 0 rfl) ?_
  refine fg_1301 C w hk0 tw_6_164 dX10_ends_1 ?_
  refine lv_iload_n hx hb dX10_ends_4 rfl (lv_at hl 1 rfl) ?_
  refine lv_iload_n hx hb dX10_ends_5 rfl (lv_at hl 2 rfl) ?_
  obtain ⟨a1, ea1, hka1, hJ⟩ := dr_some hJ
  rw [ea1]
  obtain ⟨hi2, hJ⟩ := ck_some hJ
  refine jr_iastM C w hka1 hi2 dX10_ends_6 (fun H locs w => ?_)
  refine lv_aload_n hx hb dX10_ends_7 rfl (lv_at hl 0 rfl) ?_
  refine fg_1306 C w hk0 tw_6_169 dX10_ends_8 ?_
  refine lv_iload_n hx hb dX10_ends_11 rfl (lv_at hl 1 rfl) ?_
  refine lv_aload_n hx hb dX10_ends_12 rfl (lv_at hl 0 rfl) ?_
  refine fg_1313 C w hk0 tw_6_176 dX10_ends_13 ?_
  obtain ⟨a3, ea3, hka3, hJ⟩ := dr_some hJ
  rw [ea3]
  obtain ⟨hi4, hJ⟩ := ck_some hJ
  refine jr_iastM C w hka3 hi4 dX10_ends_16 (fun H locs w => ?_)
  refine lv_aload_n hx hb dX10_ends_17 rfl (lv_at hl 0 rfl) ?_
  obtain ⟨⟨h5, r6⟩, e7, hJ⟩ := ob_some hJ
  refine jc_Vv (As := []) C w (cc_X10_judge N t0 ((h.sbi a1 x1.toNatClampNeg x2).sbi a3 x1.toNatClampNeg ((h.sbi a1 x1.toNatClampNeg x2).gi 1313 t0)) hk0 e7) (mo_X10_judge N t0 ((h.sbi a1 x1.toNatClampNeg x2).sbi a3 x1.toNatClampNeg ((h.sbi a1 x1.toNatClampNeg x2).gi 1313 t0)) e7) (mb_X10_ends_21 N t0 _ hJ) hz2 hk0 (by decide) rfl (fs := fs13 ((h.sbi a1 x1.toNatClampNeg x2).sbi a3 x1.toNatClampNeg ((h.sbi a1 x1.toNatClampNeg x2).gi 1313 t0)) t0) rfl rfl ⟨tw_7_141, tw_7_138, tw_7_140, ts_32, tw_1_7⟩ cd_X10_judge ⟨by decide, by decide⟩ hl.1 (by first | exact Nat.le_of_ble_eq_true rfl | simp [rf_cat, cat_i, cat_l, cat_r]) rfl dX10_ends_18 (fun H locs w1 => ?_)
  have hk8 := kd_keep w (mo_X10_judge N t0 ((h.sbi a1 x1.toNatClampNeg x2).sbi a3 x1.toNatClampNeg ((h.sbi a1 x1.toNatClampNeg x2).gi 1313 t0)) e7) hk0 (by decide)
  have w := w1
  exact sb_X10_ends_21 C hz2 N t0 _ hJ hk8 w (lv_sub (l' := [(0, .ref t0)]) hl [0] rfl)
def J_X10_ends (N : Nat) (t0 : Nat) (h : Hp) (x1 : Int32) (x2 : Int32) : Option (Hp × Unit) := B_X10_ends_0 N t0 h x1 x2
theorem mo_X10_ends (N : Nat) (t0 : Nat) (h : Hp) (x1 : Int32) (x2 : Int32) (hJ : J_X10_ends N t0 h x1 x2 = some (hz, ())) : Mo h hz := mb_X10_ends_0 N t0 h x1 x2 hJ
theorem cd_X10_ends : Cd yX10_ends 2 := ⟨by decide +kernel, by decide +kernel, by decide +kernel⟩
theorem cc_X10_ends (N : Nat) (t0 : Nat) (h : Hp) (x1 : Int32) (x2 : Int32) (hk0 : h.kd t0 = 13) (hJ : J_X10_ends N t0 h x1 x2 = some (hz, ())) : Cv l yX10_ends cX10_ends 3 none 5 150 D cs h hz [.ref t0, .int x1, .int x2] := by
  intro mc ms g1 g2
  refine je_any (by decide) (by simp [lg_sl, rf_cat, cat_i, cat_l, cat_r]) ?_
  intro p e s m args below meth c C hin2 w ls hl
  have hl : lv_has ls 3 [(0, .ref t0), (1, .int x1), (2, .int x2)] := hl
  exact sb_X10_ends_0 C ⟨g1, g2⟩ N t0 h x1 x2 hJ hk0 w hl
end G_X10_ends
section G_X10_gatherKeys
variable {p : Program} {l : Launch} {e : Env} {s : State} {m : MethodId} {args : Array Value} {below : List Frame} {meth : Method} {c : Code} {D : va_G} {cs : C4} {A : Nat → Prop} {h0 hz : Hp} {mc ms : Nat}
def B_X10_gatherKeys_59 (N : Nat) (k7 : Hp → Int32 → Option (Hp × Unit)) (k25 : Hp → Int32 → Int32 → Int32 → Int32 → Option (Hp × Unit)) (t0 : Nat) (h : Hp) (x1 : Int32) (x2 : Int32) (x4 : Int32) (y0 : Int32) : Option (Hp × Unit) := k25 h x1 x2 y0 (x4 + (1 : Int32))
theorem mb_X10_gatherKeys_59 (N : Nat) (k7 : Hp → Int32 → Option (Hp × Unit)) (k25 : Hp → Int32 → Int32 → Int32 → Int32 → Option (Hp × Unit)) (t0 : Nat) (h : Hp) (x1 : Int32) (x2 : Int32) (x4 : Int32) (y0 : Int32) (m7 : ∀ (h : Hp) (x1 : Int32), k7 h x1 = some (hz, ()) → Mo h hz) (m25 : ∀ (h : Hp) (x1 : Int32) (x2 : Int32) (x3 : Int32) (x4 : Int32), k25 h x1 x2 x3 x4 = some (hz, ()) → Mo h hz) (hJ : B_X10_gatherKeys_59 N k7 k25 t0 h x1 x2 x4 y0 = some (hz, ())) : Mo h hz := by
  unfold B_X10_gatherKeys_59 at hJ
  exact m25 _ _ _ _ _ hJ
set_option maxRecDepth 100000 in
set_option maxHeartbeats 4000000 in
theorem sb_X10_gatherKeys_59 (C : Cx p s m args meth c cX10_gatherKeys 5 none RX10 D cs A h0.se) (hz2 : hz.nx ≤ h0.nx + mc ∧ hz.su ≤ h0.su + ms) (N : Nat) (k7 : Hp → Int32 → Option (Hp × Unit)) (k25 : Hp → Int32 → Int32 → Int32 → Int32 → Option (Hp × Unit)) (t0 : Nat) (m7 : ∀ (h : Hp) (x1 : Int32), k7 h x1 = some (hz, ()) → Mo h hz) (m25 : ∀ (h : Hp) (x1 : Int32) (x2 : Int32) (x3 : Int32) (x4 : Int32), k25 h x1 x2 x3 x4 = some (hz, ()) → Mo h hz) (i7 : ∀ (h : Hp) (x1 : Int32) (H : Heap) (locs : List Loc) (cells slots : Nat) (ls : Array Slot), k7 h x1 = some (hz, ()) → h.kd t0 = 13 → Wo D cs A s h0 h H locs cells slots → lv_has ls 5 [(0, .ref t0), (1, .int x1)] → W p l e { frames := 0, cells := mc, slots := ms, locals := 0 } s m args below meth c H locs cells slots (MQ below (Zv D cs A hz) args s mc ms A) (F0 m 7 ls [])) (i25 : ∀ (h : Hp) (x1 : Int32) (x2 : Int32) (x3 : Int32) (x4 : Int32) (H : Heap) (locs : List Loc) (cells slots : Nat) (ls : Array Slot), k25 h x1 x2 x3 x4 = some (hz, ()) → h.kd t0 = 13 → Wo D cs A s h0 h H locs cells slots → lv_has ls 5 [(0, .ref t0), (1, .int x1), (2, .int x2), (3, .int x3), (4, .int x4)] → W p l e { frames := 0, cells := mc, slots := ms, locals := 0 } s m args below meth c H locs cells slots (MQ below (Zv D cs A hz) args s mc ms A) (F0 m 25 ls [])) (h : Hp) (x1 : Int32) (x2 : Int32) (x4 : Int32) (y0 : Int32) (hJ : B_X10_gatherKeys_59 N k7 k25 t0 h x1 x2 x4 y0 = some (hz, ())) (hk0 : h.kd t0 = 13) {H : Heap} {locs : List Loc} {cells slots : Nat} (w : Wo D cs A s h0 h H locs cells slots) {ls : Array Slot} (hl : lv_has ls 5 [(0, .ref t0), (1, .int x1), (2, .int x2), (4, .int x4)]) : W p l e { frames := 0, cells := mc, slots := ms, locals := 0 } s m args below meth c H locs cells slots (MQ below (Zv D cs A hz) args s mc ms A) (F0 m 59 ls [.int y0]) := by
  obtain ⟨hx, hb, hml, hown, hts, -⟩ := id C
  unfold B_X10_gatherKeys_59 at hJ
  refine lv_istore_n (i := 3) (lv' := [(3, .int y0), (0, .ref t0), (1, .int x1), (2, .int x2), (4, .int x4)]) hx hb dX10_gatherKeys_59 rfl hl (by decide) rfl (fun ls hl => ?_)
  refine lv_iinc (v := x4 + (1 : Int32)) (lv' := [(4, .int (x4 + (1 : Int32))), (3, .int y0), (0, .ref t0), (1, .int x1), (2, .int x2)]) hx hb dX10_gatherKeys_60 hl (k := 4) rfl rfl (by decide) rfl (fun ls hl => ?_)
  refine lv_goto (tgt := 25) hx hb dX10_gatherKeys_63 (by decide) ?_
  exact i25 _ _ _ _ _ _ _ _ _ _ hJ hk0 w (lv_sub (l' := [(0, .ref t0), (1, .int x1), (2, .int x2), (3, .int y0), (4, .int (x4 + (1 : Int32)))]) hl [2, 3, 4, 1, 0] rfl)
def B_X10_gatherKeys_54 (N : Nat) (k7 : Hp → Int32 → Option (Hp × Unit)) (k25 : Hp → Int32 → Int32 → Int32 → Int32 → Option (Hp × Unit)) (t0 : Nat) (h : Hp) (x1 : Int32) (x2 : Int32) (x4 : Int32) : Option (Hp × Unit) := B_X10_gatherKeys_59 N k7 k25 t0 h x1 x2 x4 (1 : Int32)
theorem mb_X10_gatherKeys_54 (N : Nat) (k7 : Hp → Int32 → Option (Hp × Unit)) (k25 : Hp → Int32 → Int32 → Int32 → Int32 → Option (Hp × Unit)) (t0 : Nat) (h : Hp) (x1 : Int32) (x2 : Int32) (x4 : Int32) (m7 : ∀ (h : Hp) (x1 : Int32), k7 h x1 = some (hz, ()) → Mo h hz) (m25 : ∀ (h : Hp) (x1 : Int32) (x2 : Int32) (x3 : Int32) (x4 : Int32), k25 h x1 x2 x3 x4 = some (hz, ()) → Mo h hz) (hJ : B_X10_gatherKeys_54 N k7 k25 t0 h x1 x2 x4 = some (hz, ())) : Mo h hz := by
  unfold B_X10_gatherKeys_54 at hJ
  exact mb_X10_gatherKeys_59 N k7 k25 t0 _ _ _ _ _ m7 m25 hJ
set_option maxRecDepth 100000 in
set_option maxHeartbeats 4000000 in
theorem sb_X10_gatherKeys_54 (C : Cx p s m args meth c cX10_gatherKeys 5 none RX10 D cs A h0.se) (hz2 : hz.nx ≤ h0.nx + mc ∧ hz.su ≤ h0.su + ms) (N : Nat) (k7 : Hp → Int32 → Option (Hp × Unit)) (k25 : Hp → Int32 → Int32 → Int32 → Int32 → Option (Hp × Unit)) (t0 : Nat) (m7 : ∀ (h : Hp) (x1 : Int32), k7 h x1 = some (hz, ()) → Mo h hz) (m25 : ∀ (h : Hp) (x1 : Int32) (x2 : Int32) (x3 : Int32) (x4 : Int32), k25 h x1 x2 x3 x4 = some (hz, ()) → Mo h hz) (i7 : ∀ (h : Hp) (x1 : Int32) (H : Heap) (locs : List Loc) (cells slots : Nat) (ls : Array Slot), k7 h x1 = some (hz, ()) → h.kd t0 = 13 → Wo D cs A s h0 h H locs cells slots → lv_has ls 5 [(0, .ref t0), (1, .int x1)] → W p l e { frames := 0, cells := mc, slots := ms, locals := 0 } s m args below meth c H locs cells slots (MQ below (Zv D cs A hz) args s mc ms A) (F0 m 7 ls [])) (i25 : ∀ (h : Hp) (x1 : Int32) (x2 : Int32) (x3 : Int32) (x4 : Int32) (H : Heap) (locs : List Loc) (cells slots : Nat) (ls : Array Slot), k25 h x1 x2 x3 x4 = some (hz, ()) → h.kd t0 = 13 → Wo D cs A s h0 h H locs cells slots → lv_has ls 5 [(0, .ref t0), (1, .int x1), (2, .int x2), (3, .int x3), (4, .int x4)] → W p l e { frames := 0, cells := mc, slots := ms, locals := 0 } s m args below meth c H locs cells slots (MQ below (Zv D cs A hz) args s mc ms A) (F0 m 25 ls [])) (h : Hp) (x1 : Int32) (x2 : Int32) (x4 : Int32) (hJ : B_X10_gatherKeys_54 N k7 k25 t0 h x1 x2 x4 = some (hz, ())) (hk0 : h.kd t0 = 13) {H : Heap} {locs : List Loc} {cells slots : Nat} (w : Wo D cs A s h0 h H locs cells slots) {ls : Array Slot} (hl : lv_has ls 5 [(0, .ref t0), (1, .int x1), (2, .int x2), (4, .int x4)]) : W p l e { frames := 0, cells := mc, slots := ms, locals := 0 } s m args below meth c H locs cells slots (MQ below (Zv D cs A hz) args s mc ms A) (F0 m 54 ls []) := by
  obtain ⟨hx, hb, hml, hown, hts, -⟩ := id C
  unfold B_X10_gatherKeys_54 at hJ
  refine lv_iconst (v := (1 : Int32)) hx hb dX10_gatherKeys_54 (by decide) ?_
  refine lv_goto (tgt := 59) hx hb dX10_gatherKeys_55 (by decide) ?_
  exact sb_X10_gatherKeys_59 C hz2 N k7 k25 t0 m7 m25 i7 i25 _ _ _ _ _ hJ hk0 w hl
def B_X10_gatherKeys_136 (N : Nat) (k7 : Hp → Int32 → Option (Hp × Unit)) (t0 : Nat) (h : Hp) (x1 : Int32) : Option (Hp × Unit) := k7 h (x1 + (1 : Int32))
theorem mb_X10_gatherKeys_136 (N : Nat) (k7 : Hp → Int32 → Option (Hp × Unit)) (t0 : Nat) (h : Hp) (x1 : Int32) (m7 : ∀ (h : Hp) (x1 : Int32), k7 h x1 = some (hz, ()) → Mo h hz) (hJ : B_X10_gatherKeys_136 N k7 t0 h x1 = some (hz, ())) : Mo h hz := by
  unfold B_X10_gatherKeys_136 at hJ
  exact m7 _ _ hJ
set_option maxRecDepth 100000 in
set_option maxHeartbeats 4000000 in
theorem sb_X10_gatherKeys_136 (C : Cx p s m args meth c cX10_gatherKeys 5 none RX10 D cs A h0.se) (hz2 : hz.nx ≤ h0.nx + mc ∧ hz.su ≤ h0.su + ms) (N : Nat) (k7 : Hp → Int32 → Option (Hp × Unit)) (t0 : Nat) (m7 : ∀ (h : Hp) (x1 : Int32), k7 h x1 = some (hz, ()) → Mo h hz) (i7 : ∀ (h : Hp) (x1 : Int32) (H : Heap) (locs : List Loc) (cells slots : Nat) (ls : Array Slot), k7 h x1 = some (hz, ()) → h.kd t0 = 13 → Wo D cs A s h0 h H locs cells slots → lv_has ls 5 [(0, .ref t0), (1, .int x1)] → W p l e { frames := 0, cells := mc, slots := ms, locals := 0 } s m args below meth c H locs cells slots (MQ below (Zv D cs A hz) args s mc ms A) (F0 m 7 ls [])) (h : Hp) (x1 : Int32) (hJ : B_X10_gatherKeys_136 N k7 t0 h x1 = some (hz, ())) (hk0 : h.kd t0 = 13) {H : Heap} {locs : List Loc} {cells slots : Nat} (w : Wo D cs A s h0 h H locs cells slots) {ls : Array Slot} (hl : lv_has ls 5 [(0, .ref t0), (1, .int x1)]) : W p l e { frames := 0, cells := mc, slots := ms, locals := 0 } s m args below meth c H locs cells slots (MQ below (Zv D cs A hz) args s mc ms A) (F0 m 136 ls []) := by
  obtain ⟨hx, hb, hml, hown, hts, -⟩ := id C
  unfold B_X10_gatherKeys_136 at hJ
  refine lv_iinc (v := x1 + (1 : Int32)) (lv' := [(1, .int (x1 + (1 : Int32))), (0, .ref t0)]) hx hb dX10_gatherKeys_136 hl (k := 1) rfl rfl (by decide) rfl (fun ls hl => ?_)
  refine lv_goto (tgt := 7) hx hb dX10_gatherKeys_139 (by decide) ?_
  exact i7 _ _ _ _ _ _ _ hJ hk0 w (lv_sub (l' := [(0, .ref t0), (1, .int (x1 + (1 : Int32)))]) hl [1, 0] rfl)
def B_X10_gatherKeys_114 (N : Nat) (k7 : Hp → Int32 → Option (Hp × Unit)) (t0 : Nat) (h : Hp) (x1 : Int32) (x2 : Int32) : Option (Hp × Unit) := dr h 30 (h.gr 1315 t0) (fun a1 => ck (¬ (x1 < 0 ∨ h.al a1 ≤ x1.toNatClampNeg)) (dr h 30 (h.gr 1352 t0) (fun a3 => ck (¬ (x2 < 0 ∨ h.al a3 ≤ x2.toNatClampNeg)) (B_X10_gatherKeys_136 N k7 t0 ((h.sbi a3 x2.toNatClampNeg (h.bi a1 x1.toNatClampNeg)).sgi 1353 t0 (((h.sbi a3 x2.toNatClampNeg (h.bi a1 x1.toNatClampNeg)).gi 1353 t0) + (1 : Int32))) x1))))
theorem mb_X10_gatherKeys_114 (N : Nat) (k7 : Hp → Int32 → Option (Hp × Unit)) (t0 : Nat) (h : Hp) (x1 : Int32) (x2 : Int32) (m7 : ∀ (h : Hp) (x1 : Int32), k7 h x1 = some (hz, ()) → Mo h hz) (hJ : B_X10_gatherKeys_114 N k7 t0 h x1 x2 = some (hz, ())) : Mo h hz := by
  unfold B_X10_gatherKeys_114 at hJ
  obtain ⟨a1, ea1, -, hJ⟩ := dr_some hJ
  obtain ⟨-, hJ⟩ := ck_some hJ
  obtain ⟨a3, ea3, -, hJ⟩ := dr_some hJ
  obtain ⟨-, hJ⟩ := ck_some hJ
  exact (Mo.tr (show Mo h ((h.sbi a3 x2.toNatClampNeg (h.bi a1 x1.toNatClampNeg)).sgi 1353 t0 (((h.sbi a3 x2.toNatClampNeg (h.bi a1 x1.toNatClampNeg)).gi 1353 t0) + (1 : Int32))) from ⟨fun _ _ => rfl, Nat.le_refl _, Nat.le_refl _, rfl, fun _ _ => rfl⟩) (mb_X10_gatherKeys_136 N k7 t0 _ _ m7 hJ))
set_option maxRecDepth 100000 in
set_option maxHeartbeats 4000000 in
theorem sb_X10_gatherKeys_114 (C : Cx p s m args meth c cX10_gatherKeys 5 none RX10 D cs A h0.se) (hz2 : hz.nx ≤ h0.nx + mc ∧ hz.su ≤ h0.su + ms) (N : Nat) (k7 : Hp → Int32 → Option (Hp × Unit)) (t0 : Nat) (m7 : ∀ (h : Hp) (x1 : Int32), k7 h x1 = some (hz, ()) → Mo h hz) (i7 : ∀ (h : Hp) (x1 : Int32) (H : Heap) (locs : List Loc) (cells slots : Nat) (ls : Array Slot), k7 h x1 = some (hz, ()) → h.kd t0 = 13 → Wo D cs A s h0 h H locs cells slots → lv_has ls 5 [(0, .ref t0), (1, .int x1)] → W p l e { frames := 0, cells := mc, slots := ms, locals := 0 } s m args below meth c H locs cells slots (MQ below (Zv D cs A hz) args s mc ms A) (F0 m 7 ls [])) (h : Hp) (x1 : Int32) (x2 : Int32) (hJ : B_X10_gatherKeys_114 N k7 t0 h x1 x2 = some (hz, ())) (hk0 : h.kd t0 = 13) {H : Heap} {locs : List Loc} {cells slots : Nat} (w : Wo D cs A s h0 h H locs cells slots) {ls : Array Slot} (hl : lv_has ls 5 [(0, .ref t0), (1, .int x1), (2, .int x2)]) : W p l e { frames := 0, cells := mc, slots := ms, locals := 0 } s m args below meth c H locs cells slots (MQ below (Zv D cs A hz) args s mc ms A) (F0 m 114 ls []) := by
  obtain ⟨hx, hb, hml, hown, hts, -⟩ := id C
  unfold B_X10_gatherKeys_114 at hJ
  refine lv_aload_n hx hb dX10_gatherKeys_114 rfl (lv_at hl 0 rfl) ?_
  refine fg_1352 C w hk0 tw_6_215 dX10_gatherKeys_115 ?_
  refine lv_iload_n hx hb dX10_gatherKeys_118 rfl (lv_at hl 2 rfl) ?_
  refine lv_aload_n hx hb dX10_gatherKeys_119 rfl (lv_at hl 0 rfl) ?_
  refine fg_1315 C w hk0 tw_6_178 dX10_gatherKeys_120 ?_
  refine lv_iload_n hx hb dX10_gatherKeys_123 rfl (lv_at hl 1 rfl) ?_
  obtain ⟨a1, ea1, hka1, hJ⟩ := dr_some hJ
  rw [ea1]
  obtain ⟨hi2, hJ⟩ := ck_some hJ
  refine jr_ialdM C w hka1 hi2 dX10_gatherKeys_124 ?_
  obtain ⟨a3, ea3, hka3, hJ⟩ := dr_some hJ
  rw [ea3]
  obtain ⟨hi4, hJ⟩ := ck_some hJ
  refine jr_iastM C w hka3 hi4 dX10_gatherKeys_125 (fun H locs w => ?_)
  refine lv_aload_n hx hb dX10_gatherKeys_126 rfl (lv_at hl 0 rfl) ?_
  refine lv_dup hx hb dX10_gatherKeys_127 rfl ?_
  refine fg_1353 C w hk0 tw_6_216 dX10_gatherKeys_128 ?_
  refine lv_iconst (v := (1 : Int32)) hx hb dX10_gatherKeys_131 (by decide) ?_
  refine lv_iadd hx hb dX10_gatherKeys_132 ?_
  refine fp_1353 (x := ((h.sbi a3 x2.toNatClampNeg (h.bi a1 x1.toNatClampNeg)).gi 1353 t0) + (1 : Int32)) C w hk0 tw_6_216 dX10_gatherKeys_133 (fun H locs w => ?_)
  exact sb_X10_gatherKeys_136 C hz2 N k7 t0 m7 i7 _ _ hJ hk0 w (lv_sub (l' := [(0, .ref t0), (1, .int x1)]) hl [0, 1] rfl)
def B_X10_gatherKeys_73 (N : Nat) (k7 : Hp → Int32 → Option (Hp × Unit)) (k73 : Hp → Int32 → Int32 → Option (Hp × Unit)) (t0 : Nat) (h : Hp) (x1 : Int32) (x2 : Int32) : Option (Hp × Unit) := if x2 ≤ 0 then (B_X10_gatherKeys_114 N k7 t0 h x1 x2) else (dr h 30 (h.gr 1352 t0) (fun a6 => ck (¬ (x2 - (1 : Int32) < 0 ∨ h.al a6 ≤ (x2 - (1 : Int32)).toNatClampNeg)) (dr h 30 (h.gr 1315 t0) (fun a8 => ck (¬ (x1 < 0 ∨ h.al a8 ≤ x1.toNatClampNeg)) (if (h.bi a6 (x2 - (1 : Int32)).toNatClampNeg) ≤ (h.bi a8 x1.toNatClampNeg) then (B_X10_gatherKeys_114 N k7 t0 h x1 x2) else (dr h 30 (h.gr 1352 t0) (fun a11 => ck (¬ (x2 - (1 : Int32) < 0 ∨ h.al a11 ≤ (x2 - (1 : Int32)).toNatClampNeg)) (ck (¬ (x2 < 0 ∨ h.al a11 ≤ x2.toNatClampNeg)) (k73 (h.sbi a11 x2.toNatClampNeg (h.bi a11 (x2 - (1 : Int32)).toNatClampNeg)) x1 (x2 + (-1 : Int32)))))))))))
theorem mb_X10_gatherKeys_73 (N : Nat) (k7 : Hp → Int32 → Option (Hp × Unit)) (k73 : Hp → Int32 → Int32 → Option (Hp × Unit)) (t0 : Nat) (h : Hp) (x1 : Int32) (x2 : Int32) (m7 : ∀ (h : Hp) (x1 : Int32), k7 h x1 = some (hz, ()) → Mo h hz) (m73 : ∀ (h : Hp) (x1 : Int32) (x2 : Int32), k73 h x1 x2 = some (hz, ()) → Mo h hz) (hJ : B_X10_gatherKeys_73 N k7 k73 t0 h x1 x2 = some (hz, ())) : Mo h hz := by
  unfold B_X10_gatherKeys_73 at hJ
  by_cases c5 : x2 ≤ 0
  · have hJ := it_pos c5 hJ
    exact mb_X10_gatherKeys_114 N k7 t0 _ _ _ m7 hJ
  · have hJ := it_neg c5 hJ
    obtain ⟨a6, ea6, -, hJ⟩ := dr_some hJ
    obtain ⟨-, hJ⟩ := ck_some hJ
    obtain ⟨a8, ea8, -, hJ⟩ := dr_some hJ
    obtain ⟨-, hJ⟩ := ck_some hJ
    by_cases c10 : (h.bi a6 (x2 - (1 : Int32)).toNatClampNeg) ≤ (h.bi a8 x1.toNatClampNeg)
    · have hJ := it_pos c10 hJ
      exact mb_X10_gatherKeys_114 N k7 t0 _ _ _ m7 hJ
    · have hJ := it_neg c10 hJ
      obtain ⟨a11, ea11, -, hJ⟩ := dr_some hJ
      obtain ⟨-, hJ⟩ := ck_some hJ
      obtain ⟨-, hJ⟩ := ck_some hJ
      exact (Mo.tr (show Mo h (h.sbi a11 x2.toNatClampNeg (h.bi a11 (x2 - (1 : Int32)).toNatClampNeg)) from ⟨fun _ _ => rfl, Nat.le_refl _, Nat.le_refl _, rfl, fun _ _ => rfl⟩) (m73 _ _ _ hJ))
set_option maxRecDepth 100000 in
set_option maxHeartbeats 4000000 in
theorem sb_X10_gatherKeys_73 (C : Cx p s m args meth c cX10_gatherKeys 5 none RX10 D cs A h0.se) (hz2 : hz.nx ≤ h0.nx + mc ∧ hz.su ≤ h0.su + ms) (N : Nat) (k7 : Hp → Int32 → Option (Hp × Unit)) (k73 : Hp → Int32 → Int32 → Option (Hp × Unit)) (t0 : Nat) (m7 : ∀ (h : Hp) (x1 : Int32), k7 h x1 = some (hz, ()) → Mo h hz) (m73 : ∀ (h : Hp) (x1 : Int32) (x2 : Int32), k73 h x1 x2 = some (hz, ()) → Mo h hz) (i7 : ∀ (h : Hp) (x1 : Int32) (H : Heap) (locs : List Loc) (cells slots : Nat) (ls : Array Slot), k7 h x1 = some (hz, ()) → h.kd t0 = 13 → Wo D cs A s h0 h H locs cells slots → lv_has ls 5 [(0, .ref t0), (1, .int x1)] → W p l e { frames := 0, cells := mc, slots := ms, locals := 0 } s m args below meth c H locs cells slots (MQ below (Zv D cs A hz) args s mc ms A) (F0 m 7 ls [])) (i73 : ∀ (h : Hp) (x1 : Int32) (x2 : Int32) (H : Heap) (locs : List Loc) (cells slots : Nat) (ls : Array Slot), k73 h x1 x2 = some (hz, ()) → h.kd t0 = 13 → Wo D cs A s h0 h H locs cells slots → lv_has ls 5 [(0, .ref t0), (1, .int x1), (2, .int x2)] → W p l e { frames := 0, cells := mc, slots := ms, locals := 0 } s m args below meth c H locs cells slots (MQ below (Zv D cs A hz) args s mc ms A) (F0 m 73 ls [])) (h : Hp) (x1 : Int32) (x2 : Int32) (hJ : B_X10_gatherKeys_73 N k7 k73 t0 h x1 x2 = some (hz, ())) (hk0 : h.kd t0 = 13) {H : Heap} {locs : List Loc} {cells slots : Nat} (w : Wo D cs A s h0 h H locs cells slots) {ls : Array Slot} (hl : lv_has ls 5 [(0, .ref t0), (1, .int x1), (2, .int x2)]) : W p l e { frames := 0, cells := mc, slots := ms, locals := 0 } s m args below meth c H locs cells slots (MQ below (Zv D cs A hz) args s mc ms A) (F0 m 73 ls []) := by
  obtain ⟨hx, hb, hml, hown, hts, -⟩ := id C
  unfold B_X10_gatherKeys_73 at hJ
  refine lv_iload_n hx hb dX10_gatherKeys_73 rfl (lv_at hl 2 rfl) ?_
  refine lv_if_le (tgt := 114) hx hb dX10_gatherKeys_74 (by decide) (fun c5 => ?_) (fun c5 => ?_)
  · have hJ := it_pos c5 hJ
    exact sb_X10_gatherKeys_114 C hz2 N k7 t0 m7 i7 _ _ _ hJ hk0 w hl
  · have hJ := it_neg c5 hJ
    refine lv_aload_n hx hb dX10_gatherKeys_77 rfl (lv_at hl 0 rfl) ?_
    refine fg_1352 C w hk0 tw_6_215 dX10_gatherKeys_78 ?_
    refine lv_iload_n hx hb dX10_gatherKeys_81 rfl (lv_at hl 2 rfl) ?_
    refine lv_iconst (v := (1 : Int32)) hx hb dX10_gatherKeys_82 (by decide) ?_
    refine lv_isub hx hb dX10_gatherKeys_83 ?_
    obtain ⟨a6, ea6, hka6, hJ⟩ := dr_some hJ
    rw [ea6]
    obtain ⟨hi7, hJ⟩ := ck_some hJ
    refine jr_ialdM C w hka6 hi7 dX10_gatherKeys_84 ?_
    refine lv_aload_n hx hb dX10_gatherKeys_85 rfl (lv_at hl 0 rfl) ?_
    refine fg_1315 C w hk0 tw_6_178 dX10_gatherKeys_86 ?_
    refine lv_iload_n hx hb dX10_gatherKeys_89 rfl (lv_at hl 1 rfl) ?_
    obtain ⟨a8, ea8, hka8, hJ⟩ := dr_some hJ
    rw [ea8]
    obtain ⟨hi9, hJ⟩ := ck_some hJ
    refine jr_ialdM C w hka8 hi9 dX10_gatherKeys_90 ?_
    refine lv_icmp_le (tgt := 114) hx hb dX10_gatherKeys_91 (by decide) (fun c10 => ?_) (fun c10 => ?_)
    · have hJ := it_pos c10 hJ
      exact sb_X10_gatherKeys_114 C hz2 N k7 t0 m7 i7 _ _ _ hJ hk0 w hl
    · have hJ := it_neg c10 hJ
      refine lv_aload_n hx hb dX10_gatherKeys_94 rfl (lv_at hl 0 rfl) ?_
      refine fg_1352 C w hk0 tw_6_215 dX10_gatherKeys_95 ?_
      refine lv_iload_n hx hb dX10_gatherKeys_98 rfl (lv_at hl 2 rfl) ?_
      refine lv_aload_n hx hb dX10_gatherKeys_99 rfl (lv_at hl 0 rfl) ?_
      refine fg_1352 C w hk0 tw_6_215 dX10_gatherKeys_100 ?_
      refine lv_iload_n hx hb dX10_gatherKeys_103 rfl (lv_at hl 2 rfl) ?_
      refine lv_iconst (v := (1 : Int32)) hx hb dX10_gatherKeys_104 (by decide) ?_
      refine lv_isub hx hb dX10_gatherKeys_105 ?_
      obtain ⟨a11, ea11, hka11, hJ⟩ := dr_some hJ
      rw [ea11]
      obtain ⟨hi12, hJ⟩ := ck_some hJ
      refine jr_ialdM C w hka11 hi12 dX10_gatherKeys_106 ?_
      obtain ⟨hi13, hJ⟩ := ck_some hJ
      refine jr_iastM C w hka11 hi13 dX10_gatherKeys_107 (fun H locs w => ?_)
      refine lv_iinc (v := x2 + (-1 : Int32)) (lv' := [(2, .int (x2 + (-1 : Int32))), (0, .ref t0), (1, .int x1)]) hx hb dX10_gatherKeys_108 hl (k := 2) rfl rfl (by decide) rfl (fun ls hl => ?_)
      refine lv_goto (tgt := 73) hx hb dX10_gatherKeys_111 (by decide) ?_
      exact i73 _ _ _ _ _ _ _ _ hJ hk0 w (lv_sub (l' := [(0, .ref t0), (1, .int x1), (2, .int (x2 + (-1 : Int32)))]) hl [1, 2, 0] rfl)
def L_X10_gatherKeys_73 (N : Nat) (k7 : Hp → Int32 → Option (Hp × Unit)) (t0 : Nat) : Nat → Hp → Int32 → Int32 → Option (Hp × Unit)
  | 0 => fun _ _ _ => none
  | n + 1 => fun h x1 x2 => B_X10_gatherKeys_73 N k7 (L_X10_gatherKeys_73 N k7 t0 n) t0 h x1 x2
theorem ml_X10_gatherKeys_73 (N : Nat) (k7 : Hp → Int32 → Option (Hp × Unit)) (t0 : Nat) (m7 : ∀ (h : Hp) (x1 : Int32), k7 h x1 = some (hz, ()) → Mo h hz) : ∀ (n : Nat) (h : Hp) (x1 : Int32) (x2 : Int32), L_X10_gatherKeys_73 N k7 t0 n h x1 x2 = some (hz, ()) → Mo h hz := by
  intro n
  induction n with
  | zero => intro h x1 x2 hJ; cases hJ
  | succ n ih => intro h x1 x2 hJ; exact mb_X10_gatherKeys_73 N k7 (L_X10_gatherKeys_73 N k7 t0 n) t0 h x1 x2 m7 ih hJ
theorem sl_X10_gatherKeys_73 (C : Cx p s m args meth c cX10_gatherKeys 5 none RX10 D cs A h0.se) (hz2 : hz.nx ≤ h0.nx + mc ∧ hz.su ≤ h0.su + ms) (N : Nat) (k7 : Hp → Int32 → Option (Hp × Unit)) (t0 : Nat) (m7 : ∀ (h : Hp) (x1 : Int32), k7 h x1 = some (hz, ()) → Mo h hz) (i7 : ∀ (h : Hp) (x1 : Int32) (H : Heap) (locs : List Loc) (cells slots : Nat) (ls : Array Slot), k7 h x1 = some (hz, ()) → h.kd t0 = 13 → Wo D cs A s h0 h H locs cells slots → lv_has ls 5 [(0, .ref t0), (1, .int x1)] → W p l e { frames := 0, cells := mc, slots := ms, locals := 0 } s m args below meth c H locs cells slots (MQ below (Zv D cs A hz) args s mc ms A) (F0 m 7 ls [])) : ∀ n : Nat, ∀ (h : Hp) (x1 : Int32) (x2 : Int32) (H : Heap) (locs : List Loc) (cells slots : Nat) (ls : Array Slot), L_X10_gatherKeys_73 N k7 t0 n h x1 x2 = some (hz, ()) → h.kd t0 = 13 → Wo D cs A s h0 h H locs cells slots → lv_has ls 5 [(0, .ref t0), (1, .int x1), (2, .int x2)] → W p l e { frames := 0, cells := mc, slots := ms, locals := 0 } s m args below meth c H locs cells slots (MQ below (Zv D cs A hz) args s mc ms A) (F0 m 73 ls []) := by
  intro n
  induction n with
  | zero => intro h x1 x2 H locs cells slots ls hJ; cases hJ
  | succ n ih =>
    intro h x1 x2 H locs cells slots ls hJ hk0 w hl
    exact sb_X10_gatherKeys_73 C hz2 N k7 (L_X10_gatherKeys_73 N k7 t0 n) t0 m7 (ml_X10_gatherKeys_73 N k7 t0 m7 n) i7 ih h x1 x2 hJ hk0 w hl
def B_X10_gatherKeys_25 (N : Nat) (k7 : Hp → Int32 → Option (Hp × Unit)) (k25 : Hp → Int32 → Int32 → Int32 → Int32 → Option (Hp × Unit)) (t0 : Nat) (h : Hp) (x1 : Int32) (x2 : Int32) (x3 : Int32) (x4 : Int32) : Option (Hp × Unit) := if (h.gi 1353 t0) ≤ x4 then (if x3 = 0 then (L_X10_gatherKeys_73 N k7 t0 N h x1 x2) else (B_X10_gatherKeys_136 N k7 t0 h x1)) else (if x3 = 0 then (dr h 30 (h.gr 1352 t0) (fun a17 => ck (¬ (x4 < 0 ∨ h.al a17 ≤ x4.toNatClampNeg)) (dr h 30 (h.gr 1315 t0) (fun a19 => ck (¬ (x1 < 0 ∨ h.al a19 ≤ x1.toNatClampNeg)) (if (h.bi a17 x4.toNatClampNeg) = (h.bi a19 x1.toNatClampNeg) then (B_X10_gatherKeys_54 N k7 k25 t0 h x1 x2 x4) else (B_X10_gatherKeys_59 N k7 k25 t0 h x1 x2 x4 (0 : Int32))))))) else (B_X10_gatherKeys_54 N k7 k25 t0 h x1 x2 x4))
theorem mb_X10_gatherKeys_25 (N : Nat) (k7 : Hp → Int32 → Option (Hp × Unit)) (k25 : Hp → Int32 → Int32 → Int32 → Int32 → Option (Hp × Unit)) (t0 : Nat) (h : Hp) (x1 : Int32) (x2 : Int32) (x3 : Int32) (x4 : Int32) (m7 : ∀ (h : Hp) (x1 : Int32), k7 h x1 = some (hz, ()) → Mo h hz) (m25 : ∀ (h : Hp) (x1 : Int32) (x2 : Int32) (x3 : Int32) (x4 : Int32), k25 h x1 x2 x3 x4 = some (hz, ()) → Mo h hz) (hJ : B_X10_gatherKeys_25 N k7 k25 t0 h x1 x2 x3 x4 = some (hz, ())) : Mo h hz := by
  unfold B_X10_gatherKeys_25 at hJ
  by_cases c14 : (h.gi 1353 t0) ≤ x4
  · have hJ := it_pos c14 hJ
    by_cases c15 : x3 = 0
    · have hJ := it_pos c15 hJ
      exact ml_X10_gatherKeys_73 N k7 t0 m7 N _ _ _ hJ
    · have hJ := it_neg c15 hJ
      exact mb_X10_gatherKeys_136 N k7 t0 _ _ m7 hJ
  · have hJ := it_neg c14 hJ
    by_cases c16 : x3 = 0
    · have hJ := it_pos c16 hJ
      obtain ⟨a17, ea17, -, hJ⟩ := dr_some hJ
      obtain ⟨-, hJ⟩ := ck_some hJ
      obtain ⟨a19, ea19, -, hJ⟩ := dr_some hJ
      obtain ⟨-, hJ⟩ := ck_some hJ
      by_cases c21 : (h.bi a17 x4.toNatClampNeg) = (h.bi a19 x1.toNatClampNeg)
      · have hJ := it_pos c21 hJ
        exact mb_X10_gatherKeys_54 N k7 k25 t0 _ _ _ _ m7 m25 hJ
      · have hJ := it_neg c21 hJ
        exact mb_X10_gatherKeys_59 N k7 k25 t0 _ _ _ _ _ m7 m25 hJ
    · have hJ := it_neg c16 hJ
      exact mb_X10_gatherKeys_54 N k7 k25 t0 _ _ _ _ m7 m25 hJ
set_option maxRecDepth 100000 in
set_option maxHeartbeats 4000000 in
theorem sb_X10_gatherKeys_25 (C : Cx p s m args meth c cX10_gatherKeys 5 none RX10 D cs A h0.se) (hz2 : hz.nx ≤ h0.nx + mc ∧ hz.su ≤ h0.su + ms) (N : Nat) (k7 : Hp → Int32 → Option (Hp × Unit)) (k25 : Hp → Int32 → Int32 → Int32 → Int32 → Option (Hp × Unit)) (t0 : Nat) (m7 : ∀ (h : Hp) (x1 : Int32), k7 h x1 = some (hz, ()) → Mo h hz) (m25 : ∀ (h : Hp) (x1 : Int32) (x2 : Int32) (x3 : Int32) (x4 : Int32), k25 h x1 x2 x3 x4 = some (hz, ()) → Mo h hz) (i7 : ∀ (h : Hp) (x1 : Int32) (H : Heap) (locs : List Loc) (cells slots : Nat) (ls : Array Slot), k7 h x1 = some (hz, ()) → h.kd t0 = 13 → Wo D cs A s h0 h H locs cells slots → lv_has ls 5 [(0, .ref t0), (1, .int x1)] → W p l e { frames := 0, cells := mc, slots := ms, locals := 0 } s m args below meth c H locs cells slots (MQ below (Zv D cs A hz) args s mc ms A) (F0 m 7 ls [])) (i25 : ∀ (h : Hp) (x1 : Int32) (x2 : Int32) (x3 : Int32) (x4 : Int32) (H : Heap) (locs : List Loc) (cells slots : Nat) (ls : Array Slot), k25 h x1 x2 x3 x4 = some (hz, ()) → h.kd t0 = 13 → Wo D cs A s h0 h H locs cells slots → lv_has ls 5 [(0, .ref t0), (1, .int x1), (2, .int x2), (3, .int x3), (4, .int x4)] → W p l e { frames := 0, cells := mc, slots := ms, locals := 0 } s m args below meth c H locs cells slots (MQ below (Zv D cs A hz) args s mc ms A) (F0 m 25 ls [])) (h : Hp) (x1 : Int32) (x2 : Int32) (x3 : Int32) (x4 : Int32) (hJ : B_X10_gatherKeys_25 N k7 k25 t0 h x1 x2 x3 x4 = some (hz, ())) (hk0 : h.kd t0 = 13) {H : Heap} {locs : List Loc} {cells slots : Nat} (w : Wo D cs A s h0 h H locs cells slots) {ls : Array Slot} (hl : lv_has ls 5 [(0, .ref t0), (1, .int x1), (2, .int x2), (3, .int x3), (4, .int x4)]) : W p l e { frames := 0, cells := mc, slots := ms, locals := 0 } s m args below meth c H locs cells slots (MQ below (Zv D cs A hz) args s mc ms A) (F0 m 25 ls []) := by
  obtain ⟨hx, hb, hml, hown, hts, -⟩ := id C
  unfold B_X10_gatherKeys_25 at hJ
  refine lv_iload hx hb dX10_gatherKeys_25 (lv_at hl 4 rfl) ?_
  refine lv_aload_n hx hb dX10_gatherKeys_27 rfl (lv_at hl 0 rfl) ?_
  refine fg_1353 C w hk0 tw_6_216 dX10_gatherKeys_28 ?_
  refine lv_icmp_ge (tgt := 66) hx hb dX10_gatherKeys_31 (by decide) (fun c14 => ?_) (fun c14 => ?_)
  · have hJ := it_pos c14 hJ
    refine lv_iload_n hx hb dX10_gatherKeys_66 rfl (lv_at hl 3 rfl) ?_
    refine lv_if_eq (tgt := 73) hx hb dX10_gatherKeys_67 (by decide) (fun c15 => ?_) (fun c15 => ?_)
    · have hJ := it_pos c15 hJ
      exact sl_X10_gatherKeys_73 C hz2 N k7 t0 m7 i7 N _ _ _ _ _ _ _ _ hJ hk0 w (lv_sub (l' := [(0, .ref t0), (1, .int x1), (2, .int x2)]) hl [0, 1, 2] rfl)
    · have hJ := it_neg c15 hJ
      refine lv_goto (tgt := 136) hx hb dX10_gatherKeys_70 (by decide) ?_
      exact sb_X10_gatherKeys_136 C hz2 N k7 t0 m7 i7 _ _ hJ hk0 w (lv_sub (l' := [(0, .ref t0), (1, .int x1)]) hl [0, 1] rfl)
  · have hJ := it_neg c14 hJ
    refine lv_iload_n hx hb dX10_gatherKeys_34 rfl (lv_at hl 3 rfl) ?_
    refine lv_if_ne (tgt := 54) hx hb dX10_gatherKeys_35 (by decide) (fun c16 => ?_) (fun c16 => ?_)
    · have hJ := it_neg c16 hJ
      exact sb_X10_gatherKeys_54 C hz2 N k7 k25 t0 m7 m25 i7 i25 _ _ _ _ hJ hk0 w (lv_sub (l' := [(0, .ref t0), (1, .int x1), (2, .int x2), (4, .int x4)]) hl [0, 1, 2, 4] rfl)
    · have hJ := it_pos c16 hJ
      refine lv_aload_n hx hb dX10_gatherKeys_38 rfl (lv_at hl 0 rfl) ?_
      refine fg_1352 C w hk0 tw_6_215 dX10_gatherKeys_39 ?_
      refine lv_iload hx hb dX10_gatherKeys_42 (lv_at hl 4 rfl) ?_
      obtain ⟨a17, ea17, hka17, hJ⟩ := dr_some hJ
      rw [ea17]
      obtain ⟨hi18, hJ⟩ := ck_some hJ
      refine jr_ialdM C w hka17 hi18 dX10_gatherKeys_44 ?_
      refine lv_aload_n hx hb dX10_gatherKeys_45 rfl (lv_at hl 0 rfl) ?_
      refine fg_1315 C w hk0 tw_6_178 dX10_gatherKeys_46 ?_
      refine lv_iload_n hx hb dX10_gatherKeys_49 rfl (lv_at hl 1 rfl) ?_
      obtain ⟨a19, ea19, hka19, hJ⟩ := dr_some hJ
      rw [ea19]
      obtain ⟨hi20, hJ⟩ := ck_some hJ
      refine jr_ialdM C w hka19 hi20 dX10_gatherKeys_50 ?_
      refine lv_icmp_ne (tgt := 58) hx hb dX10_gatherKeys_51 (by decide) (fun c21 => ?_) (fun c21 => ?_)
      · have hJ := it_neg c21 hJ
        refine lv_iconst (v := (0 : Int32)) hx hb dX10_gatherKeys_58 (by decide) ?_
        exact sb_X10_gatherKeys_59 C hz2 N k7 k25 t0 m7 m25 i7 i25 _ _ _ _ _ hJ hk0 w (lv_sub (l' := [(0, .ref t0), (1, .int x1), (2, .int x2), (4, .int x4)]) hl [0, 1, 2, 4] rfl)
      · have hJ := it_pos c21 hJ
        exact sb_X10_gatherKeys_54 C hz2 N k7 k25 t0 m7 m25 i7 i25 _ _ _ _ hJ hk0 w (lv_sub (l' := [(0, .ref t0), (1, .int x1), (2, .int x2), (4, .int x4)]) hl [0, 1, 2, 4] rfl)
def L_X10_gatherKeys_25 (N : Nat) (k7 : Hp → Int32 → Option (Hp × Unit)) (t0 : Nat) : Nat → Hp → Int32 → Int32 → Int32 → Int32 → Option (Hp × Unit)
  | 0 => fun _ _ _ _ _ => none
  | n + 1 => fun h x1 x2 x3 x4 => B_X10_gatherKeys_25 N k7 (L_X10_gatherKeys_25 N k7 t0 n) t0 h x1 x2 x3 x4
theorem ml_X10_gatherKeys_25 (N : Nat) (k7 : Hp → Int32 → Option (Hp × Unit)) (t0 : Nat) (m7 : ∀ (h : Hp) (x1 : Int32), k7 h x1 = some (hz, ()) → Mo h hz) : ∀ (n : Nat) (h : Hp) (x1 : Int32) (x2 : Int32) (x3 : Int32) (x4 : Int32), L_X10_gatherKeys_25 N k7 t0 n h x1 x2 x3 x4 = some (hz, ()) → Mo h hz := by
  intro n
  induction n with
  | zero => intro h x1 x2 x3 x4 hJ; cases hJ
  | succ n ih => intro h x1 x2 x3 x4 hJ; exact mb_X10_gatherKeys_25 N k7 (L_X10_gatherKeys_25 N k7 t0 n) t0 h x1 x2 x3 x4 m7 ih hJ
theorem sl_X10_gatherKeys_25 (C : Cx p s m args meth c cX10_gatherKeys 5 none RX10 D cs A h0.se) (hz2 : hz.nx ≤ h0.nx + mc ∧ hz.su ≤ h0.su + ms) (N : Nat) (k7 : Hp → Int32 → Option (Hp × Unit)) (t0 : Nat) (m7 : ∀ (h : Hp) (x1 : Int32), k7 h x1 = some (hz, ()) → Mo h hz) (i7 : ∀ (h : Hp) (x1 : Int32) (H : Heap) (locs : List Loc) (cells slots : Nat) (ls : Array Slot), k7 h x1 = some (hz, ()) → h.kd t0 = 13 → Wo D cs A s h0 h H locs cells slots → lv_has ls 5 [(0, .ref t0), (1, .int x1)] → W p l e { frames := 0, cells := mc, slots := ms, locals := 0 } s m args below meth c H locs cells slots (MQ below (Zv D cs A hz) args s mc ms A) (F0 m 7 ls [])) : ∀ n : Nat, ∀ (h : Hp) (x1 : Int32) (x2 : Int32) (x3 : Int32) (x4 : Int32) (H : Heap) (locs : List Loc) (cells slots : Nat) (ls : Array Slot), L_X10_gatherKeys_25 N k7 t0 n h x1 x2 x3 x4 = some (hz, ()) → h.kd t0 = 13 → Wo D cs A s h0 h H locs cells slots → lv_has ls 5 [(0, .ref t0), (1, .int x1), (2, .int x2), (3, .int x3), (4, .int x4)] → W p l e { frames := 0, cells := mc, slots := ms, locals := 0 } s m args below meth c H locs cells slots (MQ below (Zv D cs A hz) args s mc ms A) (F0 m 25 ls []) := by
  intro n
  induction n with
  | zero => intro h x1 x2 x3 x4 H locs cells slots ls hJ; cases hJ
  | succ n ih =>
    intro h x1 x2 x3 x4 H locs cells slots ls hJ hk0 w hl
    exact sb_X10_gatherKeys_25 C hz2 N k7 (L_X10_gatherKeys_25 N k7 t0 n) t0 m7 (ml_X10_gatherKeys_25 N k7 t0 m7 n) i7 ih h x1 x2 x3 x4 hJ hk0 w hl
def B_X10_gatherKeys_7 (N : Nat) (k7 : Hp → Int32 → Option (Hp × Unit)) (t0 : Nat) (h : Hp) (x1 : Int32) : Option (Hp × Unit) := if (h.gi 1319 t0) ≤ x1 then (some (h, ())) else (L_X10_gatherKeys_25 N k7 t0 N h x1 (h.gi 1353 t0) (0 : Int32) (0 : Int32))
theorem mb_X10_gatherKeys_7 (N : Nat) (k7 : Hp → Int32 → Option (Hp × Unit)) (t0 : Nat) (h : Hp) (x1 : Int32) (m7 : ∀ (h : Hp) (x1 : Int32), k7 h x1 = some (hz, ()) → Mo h hz) (hJ : B_X10_gatherKeys_7 N k7 t0 h x1 = some (hz, ())) : Mo h hz := by
  unfold B_X10_gatherKeys_7 at hJ
  by_cases c22 : (h.gi 1319 t0) ≤ x1
  · have hJ := it_pos c22 hJ
    obtain ⟨rfl, -⟩ := rs2 hJ
    exact ⟨fun _ _ => rfl, Nat.le_refl _, Nat.le_refl _, rfl, fun _ _ => rfl⟩
  · have hJ := it_neg c22 hJ
    exact ml_X10_gatherKeys_25 N k7 t0 m7 N _ _ _ _ _ hJ
set_option maxRecDepth 100000 in
set_option maxHeartbeats 4000000 in
theorem sb_X10_gatherKeys_7 (C : Cx p s m args meth c cX10_gatherKeys 5 none RX10 D cs A h0.se) (hz2 : hz.nx ≤ h0.nx + mc ∧ hz.su ≤ h0.su + ms) (N : Nat) (k7 : Hp → Int32 → Option (Hp × Unit)) (t0 : Nat) (m7 : ∀ (h : Hp) (x1 : Int32), k7 h x1 = some (hz, ()) → Mo h hz) (i7 : ∀ (h : Hp) (x1 : Int32) (H : Heap) (locs : List Loc) (cells slots : Nat) (ls : Array Slot), k7 h x1 = some (hz, ()) → h.kd t0 = 13 → Wo D cs A s h0 h H locs cells slots → lv_has ls 5 [(0, .ref t0), (1, .int x1)] → W p l e { frames := 0, cells := mc, slots := ms, locals := 0 } s m args below meth c H locs cells slots (MQ below (Zv D cs A hz) args s mc ms A) (F0 m 7 ls [])) (h : Hp) (x1 : Int32) (hJ : B_X10_gatherKeys_7 N k7 t0 h x1 = some (hz, ())) (hk0 : h.kd t0 = 13) {H : Heap} {locs : List Loc} {cells slots : Nat} (w : Wo D cs A s h0 h H locs cells slots) {ls : Array Slot} (hl : lv_has ls 5 [(0, .ref t0), (1, .int x1)]) : W p l e { frames := 0, cells := mc, slots := ms, locals := 0 } s m args below meth c H locs cells slots (MQ below (Zv D cs A hz) args s mc ms A) (F0 m 7 ls []) := by
  obtain ⟨hx, hb, hml, hown, hts, -⟩ := id C
  unfold B_X10_gatherKeys_7 at hJ
  refine lv_iload_n hx hb dX10_gatherKeys_7 rfl (lv_at hl 1 rfl) ?_
  refine lv_aload_n hx hb dX10_gatherKeys_8 rfl (lv_at hl 0 rfl) ?_
  refine fg_1319 C w hk0 tw_6_182 dX10_gatherKeys_9 ?_
  refine lv_icmp_ge (tgt := 142) hx hb dX10_gatherKeys_12 (by decide) (fun c22 => ?_) (fun c22 => ?_)
  · have hJ := it_pos c22 hJ
    obtain ⟨rfl, -⟩ := rs2 hJ
    exact jr_vret C w hz2 dX10_gatherKeys_142
  · have hJ := it_neg c22 hJ
    refine lv_aload_n hx hb dX10_gatherKeys_15 rfl (lv_at hl 0 rfl) ?_
    refine fg_1353 C w hk0 tw_6_216 dX10_gatherKeys_16 ?_
    refine lv_istore_n (i := 2) (lv' := [(2, .int (h.gi 1353 t0)), (0, .ref t0), (1, .int x1)]) hx hb dX10_gatherKeys_19 rfl hl (by decide) rfl (fun ls hl => ?_)
    refine lv_iconst (v := (0 : Int32)) hx hb dX10_gatherKeys_20 (by decide) ?_
    refine lv_istore_n (i := 3) (lv' := [(3, .int (0 : Int32)), (2, .int (h.gi 1353 t0)), (0, .ref t0), (1, .int x1)]) hx hb dX10_gatherKeys_21 rfl hl (by decide) rfl (fun ls hl => ?_)
    refine lv_iconst (v := (0 : Int32)) hx hb dX10_gatherKeys_22 (by decide) ?_
    refine lv_istore (i := 4) (lv' := [(4, .int (0 : Int32)), (3, .int (0 : Int32)), (2, .int (h.gi 1353 t0)), (0, .ref t0), (1, .int x1)]) hx hb dX10_gatherKeys_23 hl (by decide) rfl (fun ls hl => ?_)
    exact sl_X10_gatherKeys_25 C hz2 N k7 t0 m7 i7 N _ _ _ _ _ _ _ _ _ _ hJ hk0 w (lv_sub (l' := [(0, .ref t0), (1, .int x1), (2, .int (h.gi 1353 t0)), (3, .int (0 : Int32)), (4, .int (0 : Int32))]) hl [3, 4, 2, 1, 0] rfl)
def L_X10_gatherKeys_7 (N : Nat) (t0 : Nat) : Nat → Hp → Int32 → Option (Hp × Unit)
  | 0 => fun _ _ => none
  | n + 1 => fun h x1 => B_X10_gatherKeys_7 N (L_X10_gatherKeys_7 N t0 n) t0 h x1
theorem ml_X10_gatherKeys_7 (N : Nat) (t0 : Nat) : ∀ (n : Nat) (h : Hp) (x1 : Int32), L_X10_gatherKeys_7 N t0 n h x1 = some (hz, ()) → Mo h hz := by
  intro n
  induction n with
  | zero => intro h x1 hJ; cases hJ
  | succ n ih => intro h x1 hJ; exact mb_X10_gatherKeys_7 N (L_X10_gatherKeys_7 N t0 n) t0 h x1 ih hJ
theorem sl_X10_gatherKeys_7 (C : Cx p s m args meth c cX10_gatherKeys 5 none RX10 D cs A h0.se) (hz2 : hz.nx ≤ h0.nx + mc ∧ hz.su ≤ h0.su + ms) (N : Nat) (t0 : Nat) : ∀ n : Nat, ∀ (h : Hp) (x1 : Int32) (H : Heap) (locs : List Loc) (cells slots : Nat) (ls : Array Slot), L_X10_gatherKeys_7 N t0 n h x1 = some (hz, ()) → h.kd t0 = 13 → Wo D cs A s h0 h H locs cells slots → lv_has ls 5 [(0, .ref t0), (1, .int x1)] → W p l e { frames := 0, cells := mc, slots := ms, locals := 0 } s m args below meth c H locs cells slots (MQ below (Zv D cs A hz) args s mc ms A) (F0 m 7 ls []) := by
  intro n
  induction n with
  | zero => intro h x1 H locs cells slots ls hJ; cases hJ
  | succ n ih =>
    intro h x1 H locs cells slots ls hJ hk0 w hl
    exact sb_X10_gatherKeys_7 C hz2 N (L_X10_gatherKeys_7 N t0 n) t0 (ml_X10_gatherKeys_7 N t0 n) ih h x1 hJ hk0 w hl
def B_X10_gatherKeys_0 (N : Nat) (t0 : Nat) (h : Hp) : Option (Hp × Unit) := L_X10_gatherKeys_7 N t0 N (h.sgi 1353 t0 (0 : Int32)) (0 : Int32)
theorem mb_X10_gatherKeys_0 (N : Nat) (t0 : Nat) (h : Hp) (hJ : B_X10_gatherKeys_0 N t0 h = some (hz, ())) : Mo h hz := by
  unfold B_X10_gatherKeys_0 at hJ
  exact (Mo.tr (show Mo h (h.sgi 1353 t0 (0 : Int32)) from ⟨fun _ _ => rfl, Nat.le_refl _, Nat.le_refl _, rfl, fun _ _ => rfl⟩) (ml_X10_gatherKeys_7 N t0 N _ _ hJ))
set_option maxRecDepth 100000 in
set_option maxHeartbeats 4000000 in
theorem sb_X10_gatherKeys_0 (C : Cx p s m args meth c cX10_gatherKeys 5 none RX10 D cs A h0.se) (hz2 : hz.nx ≤ h0.nx + mc ∧ hz.su ≤ h0.su + ms) (N : Nat) (t0 : Nat) (h : Hp) (hJ : B_X10_gatherKeys_0 N t0 h = some (hz, ())) (hk0 : h.kd t0 = 13) {H : Heap} {locs : List Loc} {cells slots : Nat} (w : Wo D cs A s h0 h H locs cells slots) {ls : Array Slot} (hl : lv_has ls 5 [(0, .ref t0)]) : W p l e { frames := 0, cells := mc, slots := ms, locals := 0 } s m args below meth c H locs cells slots (MQ below (Zv D cs A hz) args s mc ms A) (F0 m 0 ls []) := by
  obtain ⟨hx, hb, hml, hown, hts, -⟩ := id C
  unfold B_X10_gatherKeys_0 at hJ
  refine lv_aload_n hx hb dX10_gatherKeys_0 rfl (lv_at hl 0 rfl) ?_
  refine lv_iconst (v := (0 : Int32)) hx hb dX10_gatherKeys_1 (by decide) ?_
  refine fp_1353 (x := (0 : Int32)) C w hk0 tw_6_216 dX10_gatherKeys_2 (fun H locs w => ?_)
  refine lv_iconst (v := (0 : Int32)) hx hb dX10_gatherKeys_5 (by decide) ?_
  refine lv_istore_n (i := 1) (lv' := [(1, .int (0 : Int32)), (0, .ref t0)]) hx hb dX10_gatherKeys_6 rfl hl (by decide) rfl (fun ls hl => ?_)
  exact sl_X10_gatherKeys_7 C hz2 N t0 N _ _ _ _ _ _ _ hJ hk0 w (lv_sub (l' := [(0, .ref t0), (1, .int (0 : Int32))]) hl [1, 0] rfl)
def J_X10_gatherKeys (N : Nat) (t0 : Nat) (h : Hp) : Option (Hp × Unit) := B_X10_gatherKeys_0 N t0 h
theorem mo_X10_gatherKeys (N : Nat) (t0 : Nat) (h : Hp) (hJ : J_X10_gatherKeys N t0 h = some (hz, ())) : Mo h hz := mb_X10_gatherKeys_0 N t0 h hJ
theorem cd_X10_gatherKeys : Cd yX10_gatherKeys 0 := ⟨by decide +kernel, by decide +kernel, by decide +kernel⟩
theorem cc_X10_gatherKeys (N : Nat) (t0 : Nat) (h : Hp) (hk0 : h.kd t0 = 13) (hJ : J_X10_gatherKeys N t0 h = some (hz, ())) : Cv l yX10_gatherKeys cX10_gatherKeys 5 none 0 0 D cs h hz [.ref t0] := by
  intro mc ms g1 g2
  refine je_any (by decide) (by simp [lg_sl, rf_cat, cat_i, cat_l, cat_r]) ?_
  intro p e s m args below meth c C hin2 w ls hl
  have hl : lv_has ls 5 [(0, .ref t0)] := hl
  exact sb_X10_gatherKeys_0 C ⟨g1, g2⟩ N t0 h hJ hk0 w hl
end G_X10_gatherKeys
section G_X10_isIdle
variable {p : Program} {l : Launch} {e : Env} {s : State} {m : MethodId} {args : Array Value} {below : List Frame} {meth : Method} {c : Code} {D : va_G} {cs : C4} {A : Nat → Prop} {h0 hz : Hp} {mc ms : Nat} {rz : Int32}
def B_X10_isIdle_44 (N : Nat) (t0 : Nat) (h : Hp) (y0 : Int32) : Option (Hp × Int32) := ck (y0 = 0 ∨ y0 = 1) (some (h, y0))
theorem mb_X10_isIdle_44 (N : Nat) (t0 : Nat) (h : Hp) (y0 : Int32) (hJ : B_X10_isIdle_44 N t0 h y0 = some (hz, rz)) : Mo h hz := by
  unfold B_X10_isIdle_44 at hJ
  obtain ⟨-, hJ⟩ := ck_some hJ
  obtain ⟨rfl, -⟩ := rs2 hJ
  exact ⟨fun _ _ => rfl, Nat.le_refl _, Nat.le_refl _, rfl, fun _ _ => rfl⟩
set_option maxRecDepth 100000 in
set_option maxHeartbeats 4000000 in
theorem sb_X10_isIdle_44 (C : Cx p s m args meth c cX10_isIdle 2 (some .boolean) RX10 D cs A h0.se) (hz2 : hz.nx ≤ h0.nx + mc ∧ hz.su ≤ h0.su + ms) (N : Nat) (t0 : Nat) (h : Hp) (y0 : Int32) (hJ : B_X10_isIdle_44 N t0 h y0 = some (hz, rz)) (hk0 : h.kd t0 = 13) {H : Heap} {locs : List Loc} {cells slots : Nat} (w : Wo D cs A s h0 h H locs cells slots) {ls : Array Slot} (hl : lv_has ls 2 [(0, .ref t0)]) : W p l e { frames := 0, cells := mc, slots := ms, locals := 0 } s m args below meth c H locs cells slots (MQ below (Zi D cs A hz rz) args s mc ms A) (F0 m 44 ls [.int y0]) := by
  obtain ⟨hx, hb, hml, hown, hts, -⟩ := id C
  unfold B_X10_isIdle_44 at hJ
  obtain ⟨hzo1, hJ⟩ := ck_some hJ
  obtain ⟨rfl, rfl⟩ := rs2 hJ
  exact jr_zret C w hzo1 hz2 dX10_isIdle_44
def B_X10_isIdle_29 (N : Nat) (t0 : Nat) (h : Hp) (y0 : Option Nat) (y1 : Int32) : Option (Hp × Int32) := dr h 13 y0 (fun a2 => if ((h.sgi 1300 a2 y1).gi 1300 t0) ≤ 0 then (B_X10_isIdle_44 N t0 (h.sgi 1300 a2 y1) (0 : Int32)) else (B_X10_isIdle_44 N t0 (h.sgi 1300 a2 y1) (1 : Int32)))
theorem mb_X10_isIdle_29 (N : Nat) (t0 : Nat) (h : Hp) (y0 : Option Nat) (y1 : Int32) (hJ : B_X10_isIdle_29 N t0 h y0 y1 = some (hz, rz)) : Mo h hz := by
  unfold B_X10_isIdle_29 at hJ
  obtain ⟨a2, ea2, -, hJ⟩ := dr_some hJ
  by_cases c3 : ((h.sgi 1300 a2 y1).gi 1300 t0) ≤ 0
  · have hJ := it_pos c3 hJ
    exact (Mo.tr (show Mo h (h.sgi 1300 a2 y1) from ⟨fun _ _ => rfl, Nat.le_refl _, Nat.le_refl _, rfl, fun _ _ => rfl⟩) (mb_X10_isIdle_44 N t0 _ _ hJ))
  · have hJ := it_neg c3 hJ
    exact (Mo.tr (show Mo h (h.sgi 1300 a2 y1) from ⟨fun _ _ => rfl, Nat.le_refl _, Nat.le_refl _, rfl, fun _ _ => rfl⟩) (mb_X10_isIdle_44 N t0 _ _ hJ))
set_option maxRecDepth 100000 in
set_option maxHeartbeats 4000000 in
theorem sb_X10_isIdle_29 (C : Cx p s m args meth c cX10_isIdle 2 (some .boolean) RX10 D cs A h0.se) (hz2 : hz.nx ≤ h0.nx + mc ∧ hz.su ≤ h0.su + ms) (N : Nat) (t0 : Nat) (h : Hp) (y0 : Option Nat) (y1 : Int32) (hJ : B_X10_isIdle_29 N t0 h y0 y1 = some (hz, rz)) (hk0 : h.kd t0 = 13) {H : Heap} {locs : List Loc} {cells slots : Nat} (w : Wo D cs A s h0 h H locs cells slots) {ls : Array Slot} (hl : lv_has ls 2 [(0, .ref t0)]) : W p l e { frames := 0, cells := mc, slots := ms, locals := 0 } s m args below meth c H locs cells slots (MQ below (Zi D cs A hz rz) args s mc ms A) (F0 m 29 ls [.int y1, va_rf y0]) := by
  obtain ⟨hx, hb, hml, hown, hts, -⟩ := id C
  unfold B_X10_isIdle_29 at hJ
  obtain ⟨a2, ea2, hka2, hJ⟩ := dr_some hJ
  rw [ea2]
  refine fp_1300 (x := y1) C w hka2 tw_6_163 dX10_isIdle_29 (fun H locs w => ?_)
  refine lv_aload_n hx hb dX10_isIdle_32 rfl (lv_at hl 0 rfl) ?_
  refine fg_1300 C w hk0 tw_6_163 dX10_isIdle_33 ?_
  refine lv_if_le (tgt := 43) hx hb dX10_isIdle_36 (by decide) (fun c3 => ?_) (fun c3 => ?_)
  · have hJ := it_pos c3 hJ
    refine lv_iconst (v := (0 : Int32)) hx hb dX10_isIdle_43 (by decide) ?_
    exact sb_X10_isIdle_44 C hz2 N t0 _ _ hJ hk0 w hl
  · have hJ := it_neg c3 hJ
    refine lv_iconst (v := (1 : Int32)) hx hb dX10_isIdle_39 (by decide) ?_
    refine lv_goto (tgt := 44) hx hb dX10_isIdle_40 (by decide) ?_
    exact sb_X10_isIdle_44 C hz2 N t0 _ _ hJ hk0 w hl
def B_X10_isIdle_24 (N : Nat) (t0 : Nat) (h : Hp) (y0 : Option Nat) : Option (Hp × Int32) := B_X10_isIdle_29 N t0 h y0 (1 : Int32)
theorem mb_X10_isIdle_24 (N : Nat) (t0 : Nat) (h : Hp) (y0 : Option Nat) (hJ : B_X10_isIdle_24 N t0 h y0 = some (hz, rz)) : Mo h hz := by
  unfold B_X10_isIdle_24 at hJ
  exact mb_X10_isIdle_29 N t0 _ _ _ hJ
set_option maxRecDepth 100000 in
set_option maxHeartbeats 4000000 in
theorem sb_X10_isIdle_24 (C : Cx p s m args meth c cX10_isIdle 2 (some .boolean) RX10 D cs A h0.se) (hz2 : hz.nx ≤ h0.nx + mc ∧ hz.su ≤ h0.su + ms) (N : Nat) (t0 : Nat) (h : Hp) (y0 : Option Nat) (hJ : B_X10_isIdle_24 N t0 h y0 = some (hz, rz)) (hk0 : h.kd t0 = 13) {H : Heap} {locs : List Loc} {cells slots : Nat} (w : Wo D cs A s h0 h H locs cells slots) {ls : Array Slot} (hl : lv_has ls 2 [(0, .ref t0)]) : W p l e { frames := 0, cells := mc, slots := ms, locals := 0 } s m args below meth c H locs cells slots (MQ below (Zi D cs A hz rz) args s mc ms A) (F0 m 24 ls [va_rf y0]) := by
  obtain ⟨hx, hb, hml, hown, hts, -⟩ := id C
  unfold B_X10_isIdle_24 at hJ
  refine lv_iconst (v := (1 : Int32)) hx hb dX10_isIdle_24 (by decide) ?_
  refine lv_goto (tgt := 29) hx hb dX10_isIdle_25 (by decide) ?_
  exact sb_X10_isIdle_29 C hz2 N t0 _ _ _ hJ hk0 w hl
def B_X10_isIdle_0 (N : Nat) (t0 : Nat) (h : Hp) (x1 : Int32) : Option (Hp × Int32) := if x1 < (1 : Int32) then (B_X10_isIdle_24 N t0 h (some t0)) else (if (h.gi 1311 t0) < x1 then (B_X10_isIdle_24 N t0 h (some t0)) else (dr h 30 (h.gr 1301 t0) (fun a6 => ck (¬ (x1 < 0 ∨ h.al a6 ≤ x1.toNatClampNeg)) (if (h.bi a6 x1.toNatClampNeg) = (1 : Int32) then (B_X10_isIdle_29 N t0 h (some t0) (0 : Int32)) else (B_X10_isIdle_24 N t0 h (some t0))))))
theorem mb_X10_isIdle_0 (N : Nat) (t0 : Nat) (h : Hp) (x1 : Int32) (hJ : B_X10_isIdle_0 N t0 h x1 = some (hz, rz)) : Mo h hz := by
  unfold B_X10_isIdle_0 at hJ
  by_cases c4 : x1 < (1 : Int32)
  · have hJ := it_pos c4 hJ
    exact mb_X10_isIdle_24 N t0 _ _ hJ
  · have hJ := it_neg c4 hJ
    by_cases c5 : (h.gi 1311 t0) < x1
    · have hJ := it_pos c5 hJ
      exact mb_X10_isIdle_24 N t0 _ _ hJ
    · have hJ := it_neg c5 hJ
      obtain ⟨a6, ea6, -, hJ⟩ := dr_some hJ
      obtain ⟨-, hJ⟩ := ck_some hJ
      by_cases c8 : (h.bi a6 x1.toNatClampNeg) = (1 : Int32)
      · have hJ := it_pos c8 hJ
        exact mb_X10_isIdle_29 N t0 _ _ _ hJ
      · have hJ := it_neg c8 hJ
        exact mb_X10_isIdle_24 N t0 _ _ hJ
set_option maxRecDepth 100000 in
set_option maxHeartbeats 4000000 in
theorem sb_X10_isIdle_0 (C : Cx p s m args meth c cX10_isIdle 2 (some .boolean) RX10 D cs A h0.se) (hz2 : hz.nx ≤ h0.nx + mc ∧ hz.su ≤ h0.su + ms) (N : Nat) (t0 : Nat) (h : Hp) (x1 : Int32) (hJ : B_X10_isIdle_0 N t0 h x1 = some (hz, rz)) (hk0 : h.kd t0 = 13) {H : Heap} {locs : List Loc} {cells slots : Nat} (w : Wo D cs A s h0 h H locs cells slots) {ls : Array Slot} (hl : lv_has ls 2 [(0, .ref t0), (1, .int x1)]) : W p l e { frames := 0, cells := mc, slots := ms, locals := 0 } s m args below meth c H locs cells slots (MQ below (Zi D cs A hz rz) args s mc ms A) (F0 m 0 ls []) := by
  obtain ⟨hx, hb, hml, hown, hts, -⟩ := id C
  unfold B_X10_isIdle_0 at hJ
  refine lv_aload_n hx hb dX10_isIdle_0 rfl (lv_at hl 0 rfl) ?_
  refine lv_iload_n hx hb dX10_isIdle_1 rfl (lv_at hl 1 rfl) ?_
  refine lv_iconst (v := (1 : Int32)) hx hb dX10_isIdle_2 (by decide) ?_
  refine lv_icmp_lt (tgt := 24) hx hb dX10_isIdle_3 (by decide) (fun c4 => ?_) (fun c4 => ?_)
  · have hJ := it_pos c4 hJ
    exact sb_X10_isIdle_24 C hz2 N t0 _ _ hJ hk0 w (lv_sub (l' := [(0, .ref t0)]) hl [0] rfl)
  · have hJ := it_neg c4 hJ
    refine lv_iload_n hx hb dX10_isIdle_6 rfl (lv_at hl 1 rfl) ?_
    refine lv_aload_n hx hb dX10_isIdle_7 rfl (lv_at hl 0 rfl) ?_
    refine fg_1311 C w hk0 tw_6_174 dX10_isIdle_8 ?_
    refine lv_icmp_gt (tgt := 24) hx hb dX10_isIdle_11 (by decide) (fun c5 => ?_) (fun c5 => ?_)
    · have hJ := it_pos c5 hJ
      exact sb_X10_isIdle_24 C hz2 N t0 _ _ hJ hk0 w (lv_sub (l' := [(0, .ref t0)]) hl [0] rfl)
    · have hJ := it_neg c5 hJ
      refine lv_aload_n hx hb dX10_isIdle_14 rfl (lv_at hl 0 rfl) ?_
      refine fg_1301 C w hk0 tw_6_164 dX10_isIdle_15 ?_
      refine lv_iload_n hx hb dX10_isIdle_18 rfl (lv_at hl 1 rfl) ?_
      obtain ⟨a6, ea6, hka6, hJ⟩ := dr_some hJ
      rw [ea6]
      obtain ⟨hi7, hJ⟩ := ck_some hJ
      refine jr_ialdM C w hka6 hi7 dX10_isIdle_19 ?_
      refine lv_iconst (v := (1 : Int32)) hx hb dX10_isIdle_20 (by decide) ?_
      refine lv_icmp_eq (tgt := 28) hx hb dX10_isIdle_21 (by decide) (fun c8 => ?_) (fun c8 => ?_)
      · have hJ := it_pos c8 hJ
        refine lv_iconst (v := (0 : Int32)) hx hb dX10_isIdle_28 (by decide) ?_
        exact sb_X10_isIdle_29 C hz2 N t0 _ _ _ hJ hk0 w (lv_sub (l' := [(0, .ref t0)]) hl [0] rfl)
      · have hJ := it_neg c8 hJ
        exact sb_X10_isIdle_24 C hz2 N t0 _ _ hJ hk0 w (lv_sub (l' := [(0, .ref t0)]) hl [0] rfl)
def J_X10_isIdle (N : Nat) (t0 : Nat) (h : Hp) (x1 : Int32) : Option (Hp × Int32) := B_X10_isIdle_0 N t0 h x1
theorem mo_X10_isIdle (N : Nat) (t0 : Nat) (h : Hp) (x1 : Int32) (hJ : J_X10_isIdle N t0 h x1 = some (hz, rz)) : Mo h hz := mb_X10_isIdle_0 N t0 h x1 hJ
theorem cd_X10_isIdle : Cd yX10_isIdle 1 := ⟨by decide +kernel, by decide +kernel, by decide +kernel⟩
theorem cc_X10_isIdle (N : Nat) (t0 : Nat) (h : Hp) (x1 : Int32) (hk0 : h.kd t0 = 13) (hJ : J_X10_isIdle N t0 h x1 = some (hz, rz)) : Ci l yX10_isIdle cX10_isIdle 2 (some .boolean) 0 0 D cs h hz [.ref t0, .int x1] rz := by
  intro mc ms g1 g2
  refine je_any (by decide) (by simp [lg_sl, rf_cat, cat_i, cat_l, cat_r]) ?_
  intro p e s m args below meth c C hin2 w ls hl
  have hl : lv_has ls 2 [(0, .ref t0), (1, .int x1)] := hl
  exact sb_X10_isIdle_0 C ⟨g1, g2⟩ N t0 h x1 hJ hk0 w hl
end G_X10_isIdle
section G_X10_mayNot
variable {p : Program} {l : Launch} {e : Env} {s : State} {m : MethodId} {args : Array Value} {below : List Frame} {meth : Method} {c : Code} {D : va_G} {cs : C4} {A : Nat → Prop} {h0 hz : Hp} {mc ms : Nat} {rz : Int32}
def B_X10_mayNot_42 (N : Nat) (t0 : Nat) (h : Hp) (y0 : Int32) : Option (Hp × Int32) := ck (y0 = 0 ∨ y0 = 1) (some (h, y0))
theorem mb_X10_mayNot_42 (N : Nat) (t0 : Nat) (h : Hp) (y0 : Int32) (hJ : B_X10_mayNot_42 N t0 h y0 = some (hz, rz)) : Mo h hz := by
  unfold B_X10_mayNot_42 at hJ
  obtain ⟨-, hJ⟩ := ck_some hJ
  obtain ⟨rfl, -⟩ := rs2 hJ
  exact ⟨fun _ _ => rfl, Nat.le_refl _, Nat.le_refl _, rfl, fun _ _ => rfl⟩
set_option maxRecDepth 100000 in
set_option maxHeartbeats 4000000 in
theorem sb_X10_mayNot_42 (C : Cx p s m args meth c cX10_mayNot 4 (some .boolean) RX10 D cs A h0.se) (hz2 : hz.nx ≤ h0.nx + mc ∧ hz.su ≤ h0.su + ms) (N : Nat) (t0 : Nat) (h : Hp) (y0 : Int32) (hJ : B_X10_mayNot_42 N t0 h y0 = some (hz, rz)) (hk0 : h.kd t0 = 13) {H : Heap} {locs : List Loc} {cells slots : Nat} (w : Wo D cs A s h0 h H locs cells slots) {ls : Array Slot} (hl : lv_has ls 4 [(0, .ref t0)]) : W p l e { frames := 3, cells := mc, slots := ms, locals := 90 } s m args below meth c H locs cells slots (MQ below (Zi D cs A hz rz) args s mc ms A) (F0 m 42 ls [.int y0]) := by
  obtain ⟨hx, hb, hml, hown, hts, -⟩ := id C
  unfold B_X10_mayNot_42 at hJ
  obtain ⟨hzo1, hJ⟩ := ck_some hJ
  obtain ⟨rfl, rfl⟩ := rs2 hJ
  exact jr_zret C w hzo1 hz2 dX10_mayNot_42
def B_X10_mayNot_41 (N : Nat) (t0 : Nat) (h : Hp) : Option (Hp × Int32) := B_X10_mayNot_42 N t0 h (0 : Int32)
theorem mb_X10_mayNot_41 (N : Nat) (t0 : Nat) (h : Hp) (hJ : B_X10_mayNot_41 N t0 h = some (hz, rz)) : Mo h hz := by
  unfold B_X10_mayNot_41 at hJ
  exact mb_X10_mayNot_42 N t0 _ _ hJ
set_option maxRecDepth 100000 in
set_option maxHeartbeats 4000000 in
theorem sb_X10_mayNot_41 (C : Cx p s m args meth c cX10_mayNot 4 (some .boolean) RX10 D cs A h0.se) (hz2 : hz.nx ≤ h0.nx + mc ∧ hz.su ≤ h0.su + ms) (N : Nat) (t0 : Nat) (h : Hp) (hJ : B_X10_mayNot_41 N t0 h = some (hz, rz)) (hk0 : h.kd t0 = 13) {H : Heap} {locs : List Loc} {cells slots : Nat} (w : Wo D cs A s h0 h H locs cells slots) {ls : Array Slot} (hl : lv_has ls 4 [(0, .ref t0)]) : W p l e { frames := 3, cells := mc, slots := ms, locals := 90 } s m args below meth c H locs cells slots (MQ below (Zi D cs A hz rz) args s mc ms A) (F0 m 41 ls []) := by
  obtain ⟨hx, hb, hml, hown, hts, -⟩ := id C
  unfold B_X10_mayNot_41 at hJ
  refine lv_iconst (v := (0 : Int32)) hx hb dX10_mayNot_41 (by decide) ?_
  exact sb_X10_mayNot_42 C hz2 N t0 _ _ hJ hk0 w hl
def B_X10_mayNot_34 (N : Nat) (t0 : Nat) (h : Hp) (y0 : Int32) (y1 : Int32) : Option (Hp × Int32) := if y1 < y0 then (B_X10_mayNot_41 N t0 h) else (B_X10_mayNot_42 N t0 h (1 : Int32))
theorem mb_X10_mayNot_34 (N : Nat) (t0 : Nat) (h : Hp) (y0 : Int32) (y1 : Int32) (hJ : B_X10_mayNot_34 N t0 h y0 y1 = some (hz, rz)) : Mo h hz := by
  unfold B_X10_mayNot_34 at hJ
  by_cases c2 : y1 < y0
  · have hJ := it_pos c2 hJ
    exact mb_X10_mayNot_41 N t0 _ hJ
  · have hJ := it_neg c2 hJ
    exact mb_X10_mayNot_42 N t0 _ _ hJ
set_option maxRecDepth 100000 in
set_option maxHeartbeats 4000000 in
theorem sb_X10_mayNot_34 (C : Cx p s m args meth c cX10_mayNot 4 (some .boolean) RX10 D cs A h0.se) (hz2 : hz.nx ≤ h0.nx + mc ∧ hz.su ≤ h0.su + ms) (N : Nat) (t0 : Nat) (h : Hp) (y0 : Int32) (y1 : Int32) (hJ : B_X10_mayNot_34 N t0 h y0 y1 = some (hz, rz)) (hk0 : h.kd t0 = 13) {H : Heap} {locs : List Loc} {cells slots : Nat} (w : Wo D cs A s h0 h H locs cells slots) {ls : Array Slot} (hl : lv_has ls 4 [(0, .ref t0)]) : W p l e { frames := 3, cells := mc, slots := ms, locals := 90 } s m args below meth c H locs cells slots (MQ below (Zi D cs A hz rz) args s mc ms A) (F0 m 34 ls [.int y1, .int y0]) := by
  obtain ⟨hx, hb, hml, hown, hts, -⟩ := id C
  unfold B_X10_mayNot_34 at hJ
  refine lv_icmp_gt (tgt := 41) hx hb dX10_mayNot_34 (by decide) (fun c2 => ?_) (fun c2 => ?_)
  · have hJ := it_pos c2 hJ
    exact sb_X10_mayNot_41 C hz2 N t0 _ hJ hk0 w hl
  · have hJ := it_neg c2 hJ
    refine lv_iconst (v := (1 : Int32)) hx hb dX10_mayNot_37 (by decide) ?_
    refine lv_goto (tgt := 42) hx hb dX10_mayNot_38 (by decide) ?_
    exact sb_X10_mayNot_42 C hz2 N t0 _ _ hJ hk0 w hl
def B_X10_mayNot_5 (N : Nat) (t0 : Nat) (h : Hp) (x1 : Int32) (y0 : Int32) : Option (Hp × Int32) := if y0 = 0 then (B_X10_mayNot_41 N t0 h) else (dr h 32 (h.gr 1302 t0) (fun a4 => ck (¬ (x1 < 0 ∨ h.al a4 ≤ x1.toNatClampNeg)) (if (h.bi a4 x1.toNatClampNeg) = 0 then ((J_X10_endOf N t0 h x1).bind (fun z => B_X10_mayNot_34 N t0 z.1 y0 z.2)) else (dr h 30 (h.gr 1303 t0) (fun a11 => ck (¬ (x1 < 0 ∨ h.al a11 ≤ x1.toNatClampNeg)) (B_X10_mayNot_34 N t0 h y0 (h.bi a11 x1.toNatClampNeg)))))))
theorem mb_X10_mayNot_5 (N : Nat) (t0 : Nat) (h : Hp) (x1 : Int32) (y0 : Int32) (hJ : B_X10_mayNot_5 N t0 h x1 y0 = some (hz, rz)) : Mo h hz := by
  unfold B_X10_mayNot_5 at hJ
  by_cases c3 : y0 = 0
  · have hJ := it_pos c3 hJ
    exact mb_X10_mayNot_41 N t0 _ hJ
  · have hJ := it_neg c3 hJ
    obtain ⟨a4, ea4, -, hJ⟩ := dr_some hJ
    obtain ⟨-, hJ⟩ := ck_some hJ
    by_cases c6 : (h.bi a4 x1.toNatClampNeg) = 0
    · have hJ := it_pos c6 hJ
      obtain ⟨⟨h7, r8⟩, e9, hJ⟩ := ob_some hJ
      exact (mo_X10_endOf N t0 h x1 e9).tr (mb_X10_mayNot_34 N t0 _ _ _ hJ)
    · have hJ := it_neg c6 hJ
      obtain ⟨a11, ea11, -, hJ⟩ := dr_some hJ
      obtain ⟨-, hJ⟩ := ck_some hJ
      exact mb_X10_mayNot_34 N t0 _ _ _ hJ
set_option maxRecDepth 100000 in
set_option maxHeartbeats 4000000 in
theorem sb_X10_mayNot_5 (C : Cx p s m args meth c cX10_mayNot 4 (some .boolean) RX10 D cs A h0.se) (hz2 : hz.nx ≤ h0.nx + mc ∧ hz.su ≤ h0.su + ms) (N : Nat) (t0 : Nat) (h : Hp) (x1 : Int32) (y0 : Int32) (hJ : B_X10_mayNot_5 N t0 h x1 y0 = some (hz, rz)) (hk0 : h.kd t0 = 13) {H : Heap} {locs : List Loc} {cells slots : Nat} (w : Wo D cs A s h0 h H locs cells slots) {ls : Array Slot} (hl : lv_has ls 4 [(0, .ref t0), (1, .int x1)]) : W p l e { frames := 3, cells := mc, slots := ms, locals := 90 } s m args below meth c H locs cells slots (MQ below (Zi D cs A hz rz) args s mc ms A) (F0 m 5 ls [.int y0]) := by
  obtain ⟨hx, hb, hml, hown, hts, -⟩ := id C
  unfold B_X10_mayNot_5 at hJ
  refine lv_istore_n (i := 3) (lv' := [(3, .int y0), (0, .ref t0), (1, .int x1)]) hx hb dX10_mayNot_5 rfl hl (by decide) rfl (fun ls hl => ?_)
  refine lv_iload_n hx hb dX10_mayNot_6 rfl (lv_at hl 0 rfl) ?_
  refine lv_if_eq (tgt := 41) hx hb dX10_mayNot_7 (by decide) (fun c3 => ?_) (fun c3 => ?_)
  · have hJ := it_pos c3 hJ
    exact sb_X10_mayNot_41 C hz2 N t0 _ hJ hk0 w (lv_sub (l' := [(0, .ref t0)]) hl [1] rfl)
  · have hJ := it_neg c3 hJ
    refine lv_iload_n hx hb dX10_mayNot_10 rfl (lv_at hl 0 rfl) ?_
    refine lv_aload_n hx hb dX10_mayNot_11 rfl (lv_at hl 1 rfl) ?_
    refine fg_1302 C w hk0 tw_6_165 dX10_mayNot_12 ?_
    refine lv_iload_n hx hb dX10_mayNot_15 rfl (lv_at hl 2 rfl) ?_
    obtain ⟨a4, ea4, hka4, hJ⟩ := dr_some hJ
    rw [ea4]
    obtain ⟨hi5, hJ⟩ := ck_some hJ
    refine jr_zaldM C w hka4 hi5 dX10_mayNot_16 ?_
    refine lv_if_eq (tgt := 29) hx hb dX10_mayNot_17 (by decide) (fun c6 => ?_) (fun c6 => ?_)
    · have hJ := it_pos c6 hJ
      refine lv_aload_n hx hb dX10_mayNot_29 rfl (lv_at hl 1 rfl) ?_
      refine lv_iload_n hx hb dX10_mayNot_30 rfl (lv_at hl 2 rfl) ?_
      obtain ⟨⟨h7, r8⟩, e9, hJ⟩ := ob_some hJ
      refine jc_Vi (As := [.int x1]) C w (cc_X10_endOf N t0 h x1 hk0 e9) (mo_X10_endOf N t0 h x1 e9) (mb_X10_mayNot_34 N t0 _ _ _ hJ) hz2 hk0 (by decide) rfl (fs := fs13 h t0) rfl rfl ⟨tw_7_153, tw_7_150, tw_7_152, ts_35, tw_1_7⟩ cd_X10_endOf ⟨by decide, by decide⟩ hl.1 (by first | exact Nat.le_of_ble_eq_true rfl | simp [rf_cat, cat_i, cat_l, cat_r]) rfl dX10_mayNot_31 (fun H locs w1 => ?_)
      have hk10 := kd_keep w (mo_X10_endOf N t0 h x1 e9) hk0 (by decide)
      have w := w1
      exact sb_X10_mayNot_34 C hz2 N t0 _ _ _ hJ hk10 w (lv_sub (l' := [(0, .ref t0)]) hl [1] rfl)
    · have hJ := it_neg c6 hJ
      refine lv_aload_n hx hb dX10_mayNot_20 rfl (lv_at hl 1 rfl) ?_
      refine fg_1303 C w hk0 tw_6_166 dX10_mayNot_21 ?_
      refine lv_iload_n hx hb dX10_mayNot_24 rfl (lv_at hl 2 rfl) ?_
      obtain ⟨a11, ea11, hka11, hJ⟩ := dr_some hJ
      rw [ea11]
      obtain ⟨hi12, hJ⟩ := ck_some hJ
      refine jr_ialdM C w hka11 hi12 dX10_mayNot_25 ?_
      refine lv_goto (tgt := 34) hx hb dX10_mayNot_26 (by decide) ?_
      exact sb_X10_mayNot_34 C hz2 N t0 _ _ _ hJ hk0 w (lv_sub (l' := [(0, .ref t0)]) hl [1] rfl)
def B_X10_mayNot_0 (N : Nat) (t0 : Nat) (h : Hp) (x1 : Int32) (x2 : Int32) : Option (Hp × Int32) := (J_X10_outOf N t0 h x2).bind (fun z => B_X10_mayNot_5 N t0 z.1 x1 z.2)
theorem mb_X10_mayNot_0 (N : Nat) (t0 : Nat) (h : Hp) (x1 : Int32) (x2 : Int32) (hJ : B_X10_mayNot_0 N t0 h x1 x2 = some (hz, rz)) : Mo h hz := by
  unfold B_X10_mayNot_0 at hJ
  obtain ⟨⟨h13, r14⟩, e15, hJ⟩ := ob_some hJ
  exact (mo_X10_outOf N t0 h x2 e15).tr (mb_X10_mayNot_5 N t0 _ _ _ hJ)
set_option maxRecDepth 100000 in
set_option maxHeartbeats 4000000 in
theorem sb_X10_mayNot_0 (C : Cx p s m args meth c cX10_mayNot 4 (some .boolean) RX10 D cs A h0.se) (hz2 : hz.nx ≤ h0.nx + mc ∧ hz.su ≤ h0.su + ms) (N : Nat) (t0 : Nat) (h : Hp) (x1 : Int32) (x2 : Int32) (hJ : B_X10_mayNot_0 N t0 h x1 x2 = some (hz, rz)) (hk0 : h.kd t0 = 13) {H : Heap} {locs : List Loc} {cells slots : Nat} (w : Wo D cs A s h0 h H locs cells slots) {ls : Array Slot} (hl : lv_has ls 4 [(0, .ref t0), (1, .int x1), (2, .int x2)]) : W p l e { frames := 3, cells := mc, slots := ms, locals := 90 } s m args below meth c H locs cells slots (MQ below (Zi D cs A hz rz) args s mc ms A) (F0 m 0 ls []) := by
  obtain ⟨hx, hb, hml, hown, hts, -⟩ := id C
  unfold B_X10_mayNot_0 at hJ
  refine lv_aload_n hx hb dX10_mayNot_0 rfl (lv_at hl 0 rfl) ?_
  refine lv_iload_n hx hb dX10_mayNot_1 rfl (lv_at hl 2 rfl) ?_
  obtain ⟨⟨h13, r14⟩, e15, hJ⟩ := ob_some hJ
  refine jc_Vi (As := [.int x2]) C w (cc_X10_outOf N t0 h x2 hk0 e15) (mo_X10_outOf N t0 h x2 e15) (mb_X10_mayNot_5 N t0 _ _ _ hJ) hz2 hk0 (by decide) rfl (fs := fs13 h t0) rfl rfl ⟨tw_7_149, tw_7_146, tw_7_148, ts_34, tw_1_7⟩ cd_X10_outOf ⟨by decide, by decide⟩ hl.1 (by first | exact Nat.le_of_ble_eq_true rfl | simp [rf_cat, cat_i, cat_l, cat_r]) rfl dX10_mayNot_2 (fun H locs w1 => ?_)
  have hk16 := kd_keep w (mo_X10_outOf N t0 h x2 e15) hk0 (by decide)
  have w := w1
  exact sb_X10_mayNot_5 C hz2 N t0 _ _ _ hJ hk16 w (lv_sub (l' := [(0, .ref t0), (1, .int x1)]) hl [0, 1] rfl)
def J_X10_mayNot (N : Nat) (t0 : Nat) (h : Hp) (x1 : Int32) (x2 : Int32) : Option (Hp × Int32) := B_X10_mayNot_0 N t0 h x1 x2
theorem mo_X10_mayNot (N : Nat) (t0 : Nat) (h : Hp) (x1 : Int32) (x2 : Int32) (hJ : J_X10_mayNot N t0 h x1 x2 = some (hz, rz)) : Mo h hz := mb_X10_mayNot_0 N t0 h x1 x2 hJ
theorem cd_X10_mayNot : Cd yX10_mayNot 2 := ⟨by decide +kernel, by decide +kernel, by decide +kernel⟩
theorem cc_X10_mayNot (N : Nat) (t0 : Nat) (h : Hp) (x1 : Int32) (x2 : Int32) (hk0 : h.kd t0 = 13) (hJ : J_X10_mayNot N t0 h x1 x2 = some (hz, rz)) : Ci l yX10_mayNot cX10_mayNot 4 (some .boolean) 3 90 D cs h hz [.ref t0, .int x1, .int x2] rz := by
  intro mc ms g1 g2
  refine je_any (by decide) (by simp [lg_sl, rf_cat, cat_i, cat_l, cat_r]) ?_
  intro p e s m args below meth c C hin2 w ls hl
  have hl : lv_has ls 4 [(0, .ref t0), (1, .int x1), (2, .int x2)] := hl
  exact sb_X10_mayNot_0 C ⟨g1, g2⟩ N t0 h x1 x2 hJ hk0 w hl
end G_X10_mayNot
section G_X10_commit
variable {p : Program} {l : Launch} {e : Env} {s : State} {m : MethodId} {args : Array Value} {below : List Frame} {meth : Method} {c : Code} {D : va_G} {cs : C4} {A : Nat → Prop} {h0 hz : Hp} {mc ms : Nat} {rz : Int32}
def B_X10_commit_34 (N : Nat) (t0 : Nat) (h : Hp) : Option (Hp × Int32) := some (h, (1 : Int32))
theorem mb_X10_commit_34 (N : Nat) (t0 : Nat) (h : Hp) (hJ : B_X10_commit_34 N t0 h = some (hz, rz)) : Mo h hz := by
  unfold B_X10_commit_34 at hJ
  obtain ⟨rfl, -⟩ := rs2 hJ
  exact ⟨fun _ _ => rfl, Nat.le_refl _, Nat.le_refl _, rfl, fun _ _ => rfl⟩
set_option maxRecDepth 100000 in
set_option maxHeartbeats 4000000 in
theorem sb_X10_commit_34 (C : Cx p s m args meth c cX10_commit 5 (some .int) RX10 D cs A h0.se) (hz2 : hz.nx ≤ h0.nx + mc ∧ hz.su ≤ h0.su + ms) (N : Nat) (t0 : Nat) (h : Hp) (hJ : B_X10_commit_34 N t0 h = some (hz, rz)) (hk0 : h.kd t0 = 13) {H : Heap} {locs : List Loc} {cells slots : Nat} (w : Wo D cs A s h0 h H locs cells slots) {ls : Array Slot} (hl : lv_has ls 5 [(0, .ref t0)]) : W p l e { frames := 6, cells := mc, slots := ms, locals := 180 } s m args below meth c H locs cells slots (MQ below (Zi D cs A hz rz) args s mc ms A) (F0 m 34 ls []) := by
  obtain ⟨hx, hb, hml, hown, hts, -⟩ := id C
  unfold B_X10_commit_34 at hJ
  refine lv_iconst (v := (1 : Int32)) hx hb dX10_commit_34 (by decide) ?_
  obtain ⟨rfl, rfl⟩ := rs2 hJ
  exact jr_iret C w hz2 dX10_commit_35
def B_X10_commit_173 (N : Nat) (k76 : Hp → Int32 → Int32 → Int32 → Option (Hp × Int32)) (t0 : Nat) (h : Hp) (x1 : Int32) (x2 : Int32) (x3 : Int32) : Option (Hp × Int32) := k76 h x1 x2 (x3 + (1 : Int32))
theorem mb_X10_commit_173 (N : Nat) (k76 : Hp → Int32 → Int32 → Int32 → Option (Hp × Int32)) (t0 : Nat) (h : Hp) (x1 : Int32) (x2 : Int32) (x3 : Int32) (m76 : ∀ (h : Hp) (x1 : Int32) (x2 : Int32) (x3 : Int32), k76 h x1 x2 x3 = some (hz, rz) → Mo h hz) (hJ : B_X10_commit_173 N k76 t0 h x1 x2 x3 = some (hz, rz)) : Mo h hz := by
  unfold B_X10_commit_173 at hJ
  exact m76 _ _ _ _ hJ
set_option maxRecDepth 100000 in
set_option maxHeartbeats 4000000 in
theorem sb_X10_commit_173 (C : Cx p s m args meth c cX10_commit 5 (some .int) RX10 D cs A h0.se) (hz2 : hz.nx ≤ h0.nx + mc ∧ hz.su ≤ h0.su + ms) (N : Nat) (k76 : Hp → Int32 → Int32 → Int32 → Option (Hp × Int32)) (t0 : Nat) (m76 : ∀ (h : Hp) (x1 : Int32) (x2 : Int32) (x3 : Int32), k76 h x1 x2 x3 = some (hz, rz) → Mo h hz) (i76 : ∀ (h : Hp) (x1 : Int32) (x2 : Int32) (x3 : Int32) (H : Heap) (locs : List Loc) (cells slots : Nat) (ls : Array Slot), k76 h x1 x2 x3 = some (hz, rz) → h.kd t0 = 13 → Wo D cs A s h0 h H locs cells slots → lv_has ls 5 [(0, .ref t0), (1, .int x1), (2, .int x2), (3, .int x3)] → W p l e { frames := 6, cells := mc, slots := ms, locals := 180 } s m args below meth c H locs cells slots (MQ below (Zi D cs A hz rz) args s mc ms A) (F0 m 76 ls [])) (h : Hp) (x1 : Int32) (x2 : Int32) (x3 : Int32) (hJ : B_X10_commit_173 N k76 t0 h x1 x2 x3 = some (hz, rz)) (hk0 : h.kd t0 = 13) {H : Heap} {locs : List Loc} {cells slots : Nat} (w : Wo D cs A s h0 h H locs cells slots) {ls : Array Slot} (hl : lv_has ls 5 [(0, .ref t0), (1, .int x1), (2, .int x2), (3, .int x3)]) : W p l e { frames := 6, cells := mc, slots := ms, locals := 180 } s m args below meth c H locs cells slots (MQ below (Zi D cs A hz rz) args s mc ms A) (F0 m 173 ls []) := by
  obtain ⟨hx, hb, hml, hown, hts, -⟩ := id C
  unfold B_X10_commit_173 at hJ
  refine lv_iinc (v := x3 + (1 : Int32)) (lv' := [(3, .int (x3 + (1 : Int32))), (0, .ref t0), (1, .int x1), (2, .int x2)]) hx hb dX10_commit_173 hl (k := 3) rfl rfl (by decide) rfl (fun ls hl => ?_)
  refine lv_goto (tgt := 76) hx hb dX10_commit_176 (by decide) ?_
  exact i76 _ _ _ _ _ _ _ _ _ hJ hk0 w (lv_sub (l' := [(0, .ref t0), (1, .int x1), (2, .int x2), (3, .int (x3 + (1 : Int32)))]) hl [1, 2, 3, 0] rfl)
def B_X10_commit_163 (N : Nat) (k76 : Hp → Int32 → Int32 → Int32 → Option (Hp × Int32)) (t0 : Nat) (h : Hp) (x1 : Int32) (x2 : Int32) (x3 : Int32) : Option (Hp × Int32) := B_X10_commit_173 N k76 t0 (h.sgi 1328 t0 ((h.gi 1328 t0) + (1 : Int32))) x1 x2 x3
theorem mb_X10_commit_163 (N : Nat) (k76 : Hp → Int32 → Int32 → Int32 → Option (Hp × Int32)) (t0 : Nat) (h : Hp) (x1 : Int32) (x2 : Int32) (x3 : Int32) (m76 : ∀ (h : Hp) (x1 : Int32) (x2 : Int32) (x3 : Int32), k76 h x1 x2 x3 = some (hz, rz) → Mo h hz) (hJ : B_X10_commit_163 N k76 t0 h x1 x2 x3 = some (hz, rz)) : Mo h hz := by
  unfold B_X10_commit_163 at hJ
  exact (Mo.tr (show Mo h (h.sgi 1328 t0 ((h.gi 1328 t0) + (1 : Int32))) from ⟨fun _ _ => rfl, Nat.le_refl _, Nat.le_refl _, rfl, fun _ _ => rfl⟩) (mb_X10_commit_173 N k76 t0 _ _ _ _ m76 hJ))
set_option maxRecDepth 100000 in
set_option maxHeartbeats 4000000 in
theorem sb_X10_commit_163 (C : Cx p s m args meth c cX10_commit 5 (some .int) RX10 D cs A h0.se) (hz2 : hz.nx ≤ h0.nx + mc ∧ hz.su ≤ h0.su + ms) (N : Nat) (k76 : Hp → Int32 → Int32 → Int32 → Option (Hp × Int32)) (t0 : Nat) (m76 : ∀ (h : Hp) (x1 : Int32) (x2 : Int32) (x3 : Int32), k76 h x1 x2 x3 = some (hz, rz) → Mo h hz) (i76 : ∀ (h : Hp) (x1 : Int32) (x2 : Int32) (x3 : Int32) (H : Heap) (locs : List Loc) (cells slots : Nat) (ls : Array Slot), k76 h x1 x2 x3 = some (hz, rz) → h.kd t0 = 13 → Wo D cs A s h0 h H locs cells slots → lv_has ls 5 [(0, .ref t0), (1, .int x1), (2, .int x2), (3, .int x3)] → W p l e { frames := 6, cells := mc, slots := ms, locals := 180 } s m args below meth c H locs cells slots (MQ below (Zi D cs A hz rz) args s mc ms A) (F0 m 76 ls [])) (h : Hp) (x1 : Int32) (x2 : Int32) (x3 : Int32) (hJ : B_X10_commit_163 N k76 t0 h x1 x2 x3 = some (hz, rz)) (hk0 : h.kd t0 = 13) {H : Heap} {locs : List Loc} {cells slots : Nat} (w : Wo D cs A s h0 h H locs cells slots) {ls : Array Slot} (hl : lv_has ls 5 [(0, .ref t0), (1, .int x1), (2, .int x2), (3, .int x3)]) : W p l e { frames := 6, cells := mc, slots := ms, locals := 180 } s m args below meth c H locs cells slots (MQ below (Zi D cs A hz rz) args s mc ms A) (F0 m 163 ls []) := by
  obtain ⟨hx, hb, hml, hown, hts, -⟩ := id C
  unfold B_X10_commit_163 at hJ
  refine lv_aload_n hx hb dX10_commit_163 rfl (lv_at hl 0 rfl) ?_
  refine lv_dup hx hb dX10_commit_164 rfl ?_
  refine fg_1328 C w hk0 tw_6_191 dX10_commit_165 ?_
  refine lv_iconst (v := (1 : Int32)) hx hb dX10_commit_168 (by decide) ?_
  refine lv_iadd hx hb dX10_commit_169 ?_
  refine fp_1328 (x := (h.gi 1328 t0) + (1 : Int32)) C w hk0 tw_6_191 dX10_commit_170 (fun H locs w => ?_)
  exact sb_X10_commit_173 C hz2 N k76 t0 m76 i76 _ _ _ _ hJ hk0 w hl
def B_X10_commit_95 (N : Nat) (k76 : Hp → Int32 → Int32 → Int32 → Option (Hp × Int32)) (t0 : Nat) (h : Hp) (x1 : Int32) (x2 : Int32) (x3 : Int32) (y0 : Int32) : Option (Hp × Int32) := if y0 = (-1 : Int32) then (B_X10_commit_173 N k76 t0 h x1 x2 x3) else (dr h 30 (h.gr 1352 t0) (fun a2 => ck (¬ (x3 < 0 ∨ h.al a2 ≤ x3.toNatClampNeg)) (dr h 30 (h.gr 1324 t0) (fun a4 => ck (¬ (h.gi 1328 t0 < 0 ∨ h.al a4 ≤ (h.gi 1328 t0).toNatClampNeg)) (dr (h.sbi a4 (h.gi 1328 t0).toNatClampNeg (h.bi a2 x3.toNatClampNeg)) 30 ((h.sbi a4 (h.gi 1328 t0).toNatClampNeg (h.bi a2 x3.toNatClampNeg)).gr 1325 t0) (fun a6 => ck (¬ ((h.sbi a4 (h.gi 1328 t0).toNatClampNeg (h.bi a2 x3.toNatClampNeg)).gi 1328 t0 < 0 ∨ (h.sbi a4 (h.gi 1328 t0).toNatClampNeg (h.bi a2 x3.toNatClampNeg)).al a6 ≤ ((h.sbi a4 (h.gi 1328 t0).toNatClampNeg (h.bi a2 x3.toNatClampNeg)).gi 1328 t0).toNatClampNeg)) (dr ((h.sbi a4 (h.gi 1328 t0).toNatClampNeg (h.bi a2 x3.toNatClampNeg)).sbi a6 ((h.sbi a4 (h.gi 1328 t0).toNatClampNeg (h.bi a2 x3.toNatClampNeg)).gi 1328 t0).toNatClampNeg x1) 31 (((h.sbi a4 (h.gi 1328 t0).toNatClampNeg (h.bi a2 x3.toNatClampNeg)).sbi a6 ((h.sbi a4 (h.gi 1328 t0).toNatClampNeg (h.bi a2 x3.toNatClampNeg)).gi 1328 t0).toNatClampNeg x1).gr 1316 t0) (fun a8 => ck (¬ (y0 < 0 ∨ ((h.sbi a4 (h.gi 1328 t0).toNatClampNeg (h.bi a2 x3.toNatClampNeg)).sbi a6 ((h.sbi a4 (h.gi 1328 t0).toNatClampNeg (h.bi a2 x3.toNatClampNeg)).gi 1328 t0).toNatClampNeg x1).al a8 ≤ y0.toNatClampNeg)) (dr ((h.sbi a4 (h.gi 1328 t0).toNatClampNeg (h.bi a2 x3.toNatClampNeg)).sbi a6 ((h.sbi a4 (h.gi 1328 t0).toNatClampNeg (h.bi a2 x3.toNatClampNeg)).gi 1328 t0).toNatClampNeg x1) 31 (((h.sbi a4 (h.gi 1328 t0).toNatClampNeg (h.bi a2 x3.toNatClampNeg)).sbi a6 ((h.sbi a4 (h.gi 1328 t0).toNatClampNeg (h.bi a2 x3.toNatClampNeg)).gi 1328 t0).toNatClampNeg x1).gr 1326 t0) (fun a10 => ck (¬ (((h.sbi a4 (h.gi 1328 t0).toNatClampNeg (h.bi a2 x3.toNatClampNeg)).sbi a6 ((h.sbi a4 (h.gi 1328 t0).toNatClampNeg (h.bi a2 x3.toNatClampNeg)).gi 1328 t0).toNatClampNeg x1).gi 1328 t0 < 0 ∨ ((h.sbi a4 (h.gi 1328 t0).toNatClampNeg (h.bi a2 x3.toNatClampNeg)).sbi a6 ((h.sbi a4 (h.gi 1328 t0).toNatClampNeg (h.bi a2 x3.toNatClampNeg)).gi 1328 t0).toNatClampNeg x1).al a10 ≤ (((h.sbi a4 (h.gi 1328 t0).toNatClampNeg (h.bi a2 x3.toNatClampNeg)).sbi a6 ((h.sbi a4 (h.gi 1328 t0).toNatClampNeg (h.bi a2 x3.toNatClampNeg)).gi 1328 t0).toNatClampNeg x1).gi 1328 t0).toNatClampNeg)) (dr (((h.sbi a4 (h.gi 1328 t0).toNatClampNeg (h.bi a2 x3.toNatClampNeg)).sbi a6 ((h.sbi a4 (h.gi 1328 t0).toNatClampNeg (h.bi a2 x3.toNatClampNeg)).gi 1328 t0).toNatClampNeg x1).sbw a10 (((h.sbi a4 (h.gi 1328 t0).toNatClampNeg (h.bi a2 x3.toNatClampNeg)).sbi a6 ((h.sbi a4 (h.gi 1328 t0).toNatClampNeg (h.bi a2 x3.toNatClampNeg)).gi 1328 t0).toNatClampNeg x1).gi 1328 t0).toNatClampNeg (((h.sbi a4 (h.gi 1328 t0).toNatClampNeg (h.bi a2 x3.toNatClampNeg)).sbi a6 ((h.sbi a4 (h.gi 1328 t0).toNatClampNeg (h.bi a2 x3.toNatClampNeg)).gi 1328 t0).toNatClampNeg x1).bw a8 y0.toNatClampNeg)) 32 ((((h.sbi a4 (h.gi 1328 t0).toNatClampNeg (h.bi a2 x3.toNatClampNeg)).sbi a6 ((h.sbi a4 (h.gi 1328 t0).toNatClampNeg (h.bi a2 x3.toNatClampNeg)).gi 1328 t0).toNatClampNeg x1).sbw a10 (((h.sbi a4 (h.gi 1328 t0).toNatClampNeg (h.bi a2 x3.toNatClampNeg)).sbi a6 ((h.sbi a4 (h.gi 1328 t0).toNatClampNeg (h.bi a2 x3.toNatClampNeg)).gi 1328 t0).toNatClampNeg x1).gi 1328 t0).toNatClampNeg (((h.sbi a4 (h.gi 1328 t0).toNatClampNeg (h.bi a2 x3.toNatClampNeg)).sbi a6 ((h.sbi a4 (h.gi 1328 t0).toNatClampNeg (h.bi a2 x3.toNatClampNeg)).gi 1328 t0).toNatClampNeg x1).bw a8 y0.toNatClampNeg)).gr 1317 t0) (fun a12 => ck (¬ (y0 < 0 ∨ (((h.sbi a4 (h.gi 1328 t0).toNatClampNeg (h.bi a2 x3.toNatClampNeg)).sbi a6 ((h.sbi a4 (h.gi 1328 t0).toNatClampNeg (h.bi a2 x3.toNatClampNeg)).gi 1328 t0).toNatClampNeg x1).sbw a10 (((h.sbi a4 (h.gi 1328 t0).toNatClampNeg (h.bi a2 x3.toNatClampNeg)).sbi a6 ((h.sbi a4 (h.gi 1328 t0).toNatClampNeg (h.bi a2 x3.toNatClampNeg)).gi 1328 t0).toNatClampNeg x1).gi 1328 t0).toNatClampNeg (((h.sbi a4 (h.gi 1328 t0).toNatClampNeg (h.bi a2 x3.toNatClampNeg)).sbi a6 ((h.sbi a4 (h.gi 1328 t0).toNatClampNeg (h.bi a2 x3.toNatClampNeg)).gi 1328 t0).toNatClampNeg x1).bw a8 y0.toNatClampNeg)).al a12 ≤ y0.toNatClampNeg)) (dr (((h.sbi a4 (h.gi 1328 t0).toNatClampNeg (h.bi a2 x3.toNatClampNeg)).sbi a6 ((h.sbi a4 (h.gi 1328 t0).toNatClampNeg (h.bi a2 x3.toNatClampNeg)).gi 1328 t0).toNatClampNeg x1).sbw a10 (((h.sbi a4 (h.gi 1328 t0).toNatClampNeg (h.bi a2 x3.toNatClampNeg)).sbi a6 ((h.sbi a4 (h.gi 1328 t0).toNatClampNeg (h.bi a2 x3.toNatClampNeg)).gi 1328 t0).toNatClampNeg x1).gi 1328 t0).toNatClampNeg (((h.sbi a4 (h.gi 1328 t0).toNatClampNeg (h.bi a2 x3.toNatClampNeg)).sbi a6 ((h.sbi a4 (h.gi 1328 t0).toNatClampNeg (h.bi a2 x3.toNatClampNeg)).gi 1328 t0).toNatClampNeg x1).bw a8 y0.toNatClampNeg)) 32 ((((h.sbi a4 (h.gi 1328 t0).toNatClampNeg (h.bi a2 x3.toNatClampNeg)).sbi a6 ((h.sbi a4 (h.gi 1328 t0).toNatClampNeg (h.bi a2 x3.toNatClampNeg)).gi 1328 t0).toNatClampNeg x1).sbw a10 (((h.sbi a4 (h.gi 1328 t0).toNatClampNeg (h.bi a2 x3.toNatClampNeg)).sbi a6 ((h.sbi a4 (h.gi 1328 t0).toNatClampNeg (h.bi a2 x3.toNatClampNeg)).gi 1328 t0).toNatClampNeg x1).gi 1328 t0).toNatClampNeg (((h.sbi a4 (h.gi 1328 t0).toNatClampNeg (h.bi a2 x3.toNatClampNeg)).sbi a6 ((h.sbi a4 (h.gi 1328 t0).toNatClampNeg (h.bi a2 x3.toNatClampNeg)).gi 1328 t0).toNatClampNeg x1).bw a8 y0.toNatClampNeg)).gr 1327 t0) (fun a14 => ck (¬ ((((h.sbi a4 (h.gi 1328 t0).toNatClampNeg (h.bi a2 x3.toNatClampNeg)).sbi a6 ((h.sbi a4 (h.gi 1328 t0).toNatClampNeg (h.bi a2 x3.toNatClampNeg)).gi 1328 t0).toNatClampNeg x1).sbw a10 (((h.sbi a4 (h.gi 1328 t0).toNatClampNeg (h.bi a2 x3.toNatClampNeg)).sbi a6 ((h.sbi a4 (h.gi 1328 t0).toNatClampNeg (h.bi a2 x3.toNatClampNeg)).gi 1328 t0).toNatClampNeg x1).gi 1328 t0).toNatClampNeg (((h.sbi a4 (h.gi 1328 t0).toNatClampNeg (h.bi a2 x3.toNatClampNeg)).sbi a6 ((h.sbi a4 (h.gi 1328 t0).toNatClampNeg (h.bi a2 x3.toNatClampNeg)).gi 1328 t0).toNatClampNeg x1).bw a8 y0.toNatClampNeg)).gi 1328 t0 < 0 ∨ (((h.sbi a4 (h.gi 1328 t0).toNatClampNeg (h.bi a2 x3.toNatClampNeg)).sbi a6 ((h.sbi a4 (h.gi 1328 t0).toNatClampNeg (h.bi a2 x3.toNatClampNeg)).gi 1328 t0).toNatClampNeg x1).sbw a10 (((h.sbi a4 (h.gi 1328 t0).toNatClampNeg (h.bi a2 x3.toNatClampNeg)).sbi a6 ((h.sbi a4 (h.gi 1328 t0).toNatClampNeg (h.bi a2 x3.toNatClampNeg)).gi 1328 t0).toNatClampNeg x1).gi 1328 t0).toNatClampNeg (((h.sbi a4 (h.gi 1328 t0).toNatClampNeg (h.bi a2 x3.toNatClampNeg)).sbi a6 ((h.sbi a4 (h.gi 1328 t0).toNatClampNeg (h.bi a2 x3.toNatClampNeg)).gi 1328 t0).toNatClampNeg x1).bw a8 y0.toNatClampNeg)).al a14 ≤ ((((h.sbi a4 (h.gi 1328 t0).toNatClampNeg (h.bi a2 x3.toNatClampNeg)).sbi a6 ((h.sbi a4 (h.gi 1328 t0).toNatClampNeg (h.bi a2 x3.toNatClampNeg)).gi 1328 t0).toNatClampNeg x1).sbw a10 (((h.sbi a4 (h.gi 1328 t0).toNatClampNeg (h.bi a2 x3.toNatClampNeg)).sbi a6 ((h.sbi a4 (h.gi 1328 t0).toNatClampNeg (h.bi a2 x3.toNatClampNeg)).gi 1328 t0).toNatClampNeg x1).gi 1328 t0).toNatClampNeg (((h.sbi a4 (h.gi 1328 t0).toNatClampNeg (h.bi a2 x3.toNatClampNeg)).sbi a6 ((h.sbi a4 (h.gi 1328 t0).toNatClampNeg (h.bi a2 x3.toNatClampNeg)).gi 1328 t0).toNatClampNeg x1).bw a8 y0.toNatClampNeg)).gi 1328 t0).toNatClampNeg)) (ck ((((h.sbi a4 (h.gi 1328 t0).toNatClampNeg (h.bi a2 x3.toNatClampNeg)).sbi a6 ((h.sbi a4 (h.gi 1328 t0).toNatClampNeg (h.bi a2 x3.toNatClampNeg)).gi 1328 t0).toNatClampNeg x1).sbw a10 (((h.sbi a4 (h.gi 1328 t0).toNatClampNeg (h.bi a2 x3.toNatClampNeg)).sbi a6 ((h.sbi a4 (h.gi 1328 t0).toNatClampNeg (h.bi a2 x3.toNatClampNeg)).gi 1328 t0).toNatClampNeg x1).gi 1328 t0).toNatClampNeg (((h.sbi a4 (h.gi 1328 t0).toNatClampNeg (h.bi a2 x3.toNatClampNeg)).sbi a6 ((h.sbi a4 (h.gi 1328 t0).toNatClampNeg (h.bi a2 x3.toNatClampNeg)).gi 1328 t0).toNatClampNeg x1).bw a8 y0.toNatClampNeg)).bi a12 y0.toNatClampNeg = 0 ∨ (((h.sbi a4 (h.gi 1328 t0).toNatClampNeg (h.bi a2 x3.toNatClampNeg)).sbi a6 ((h.sbi a4 (h.gi 1328 t0).toNatClampNeg (h.bi a2 x3.toNatClampNeg)).gi 1328 t0).toNatClampNeg x1).sbw a10 (((h.sbi a4 (h.gi 1328 t0).toNatClampNeg (h.bi a2 x3.toNatClampNeg)).sbi a6 ((h.sbi a4 (h.gi 1328 t0).toNatClampNeg (h.bi a2 x3.toNatClampNeg)).gi 1328 t0).toNatClampNeg x1).gi 1328 t0).toNatClampNeg (((h.sbi a4 (h.gi 1328 t0).toNatClampNeg (h.bi a2 x3.toNatClampNeg)).sbi a6 ((h.sbi a4 (h.gi 1328 t0).toNatClampNeg (h.bi a2 x3.toNatClampNeg)).gi 1328 t0).toNatClampNeg x1).bw a8 y0.toNatClampNeg)).bi a12 y0.toNatClampNeg = 1) (B_X10_commit_163 N k76 t0 ((((h.sbi a4 (h.gi 1328 t0).toNatClampNeg (h.bi a2 x3.toNatClampNeg)).sbi a6 ((h.sbi a4 (h.gi 1328 t0).toNatClampNeg (h.bi a2 x3.toNatClampNeg)).gi 1328 t0).toNatClampNeg x1).sbw a10 (((h.sbi a4 (h.gi 1328 t0).toNatClampNeg (h.bi a2 x3.toNatClampNeg)).sbi a6 ((h.sbi a4 (h.gi 1328 t0).toNatClampNeg (h.bi a2 x3.toNatClampNeg)).gi 1328 t0).toNatClampNeg x1).gi 1328 t0).toNatClampNeg (((h.sbi a4 (h.gi 1328 t0).toNatClampNeg (h.bi a2 x3.toNatClampNeg)).sbi a6 ((h.sbi a4 (h.gi 1328 t0).toNatClampNeg (h.bi a2 x3.toNatClampNeg)).gi 1328 t0).toNatClampNeg x1).bw a8 y0.toNatClampNeg)).sbi a14 ((((h.sbi a4 (h.gi 1328 t0).toNatClampNeg (h.bi a2 x3.toNatClampNeg)).sbi a6 ((h.sbi a4 (h.gi 1328 t0).toNatClampNeg (h.bi a2 x3.toNatClampNeg)).gi 1328 t0).toNatClampNeg x1).sbw a10 (((h.sbi a4 (h.gi 1328 t0).toNatClampNeg (h.bi a2 x3.toNatClampNeg)).sbi a6 ((h.sbi a4 (h.gi 1328 t0).toNatClampNeg (h.bi a2 x3.toNatClampNeg)).gi 1328 t0).toNatClampNeg x1).gi 1328 t0).toNatClampNeg (((h.sbi a4 (h.gi 1328 t0).toNatClampNeg (h.bi a2 x3.toNatClampNeg)).sbi a6 ((h.sbi a4 (h.gi 1328 t0).toNatClampNeg (h.bi a2 x3.toNatClampNeg)).gi 1328 t0).toNatClampNeg x1).bw a8 y0.toNatClampNeg)).gi 1328 t0).toNatClampNeg ((((h.sbi a4 (h.gi 1328 t0).toNatClampNeg (h.bi a2 x3.toNatClampNeg)).sbi a6 ((h.sbi a4 (h.gi 1328 t0).toNatClampNeg (h.bi a2 x3.toNatClampNeg)).gi 1328 t0).toNatClampNeg x1).sbw a10 (((h.sbi a4 (h.gi 1328 t0).toNatClampNeg (h.bi a2 x3.toNatClampNeg)).sbi a6 ((h.sbi a4 (h.gi 1328 t0).toNatClampNeg (h.bi a2 x3.toNatClampNeg)).gi 1328 t0).toNatClampNeg x1).gi 1328 t0).toNatClampNeg (((h.sbi a4 (h.gi 1328 t0).toNatClampNeg (h.bi a2 x3.toNatClampNeg)).sbi a6 ((h.sbi a4 (h.gi 1328 t0).toNatClampNeg (h.bi a2 x3.toNatClampNeg)).gi 1328 t0).toNatClampNeg x1).bw a8 y0.toNatClampNeg)).bi a12 y0.toNatClampNeg)) x1 x2 x3))))))))))))))))
theorem mb_X10_commit_95 (N : Nat) (k76 : Hp → Int32 → Int32 → Int32 → Option (Hp × Int32)) (t0 : Nat) (h : Hp) (x1 : Int32) (x2 : Int32) (x3 : Int32) (y0 : Int32) (m76 : ∀ (h : Hp) (x1 : Int32) (x2 : Int32) (x3 : Int32), k76 h x1 x2 x3 = some (hz, rz) → Mo h hz) (hJ : B_X10_commit_95 N k76 t0 h x1 x2 x3 y0 = some (hz, rz)) : Mo h hz := by
  unfold B_X10_commit_95 at hJ
  by_cases c1 : y0 = (-1 : Int32)
  · have hJ := it_pos c1 hJ
    exact mb_X10_commit_173 N k76 t0 _ _ _ _ m76 hJ
  · have hJ := it_neg c1 hJ
    obtain ⟨a2, ea2, -, hJ⟩ := dr_some hJ
    obtain ⟨-, hJ⟩ := ck_some hJ
    obtain ⟨a4, ea4, -, hJ⟩ := dr_some hJ
    obtain ⟨-, hJ⟩ := ck_some hJ
    obtain ⟨a6, ea6, -, hJ⟩ := dr_some hJ
    obtain ⟨-, hJ⟩ := ck_some hJ
    obtain ⟨a8, ea8, -, hJ⟩ := dr_some hJ
    obtain ⟨-, hJ⟩ := ck_some hJ
    obtain ⟨a10, ea10, -, hJ⟩ := dr_some hJ
    obtain ⟨-, hJ⟩ := ck_some hJ
    obtain ⟨a12, ea12, -, hJ⟩ := dr_some hJ
    obtain ⟨-, hJ⟩ := ck_some hJ
    obtain ⟨a14, ea14, -, hJ⟩ := dr_some hJ
    obtain ⟨-, hJ⟩ := ck_some hJ
    obtain ⟨-, hJ⟩ := ck_some hJ
    exact (Mo.tr (show Mo h ((((h.sbi a4 (h.gi 1328 t0).toNatClampNeg (h.bi a2 x3.toNatClampNeg)).sbi a6 ((h.sbi a4 (h.gi 1328 t0).toNatClampNeg (h.bi a2 x3.toNatClampNeg)).gi 1328 t0).toNatClampNeg x1).sbw a10 (((h.sbi a4 (h.gi 1328 t0).toNatClampNeg (h.bi a2 x3.toNatClampNeg)).sbi a6 ((h.sbi a4 (h.gi 1328 t0).toNatClampNeg (h.bi a2 x3.toNatClampNeg)).gi 1328 t0).toNatClampNeg x1).gi 1328 t0).toNatClampNeg (((h.sbi a4 (h.gi 1328 t0).toNatClampNeg (h.bi a2 x3.toNatClampNeg)).sbi a6 ((h.sbi a4 (h.gi 1328 t0).toNatClampNeg (h.bi a2 x3.toNatClampNeg)).gi 1328 t0).toNatClampNeg x1).bw a8 y0.toNatClampNeg)).sbi a14 ((((h.sbi a4 (h.gi 1328 t0).toNatClampNeg (h.bi a2 x3.toNatClampNeg)).sbi a6 ((h.sbi a4 (h.gi 1328 t0).toNatClampNeg (h.bi a2 x3.toNatClampNeg)).gi 1328 t0).toNatClampNeg x1).sbw a10 (((h.sbi a4 (h.gi 1328 t0).toNatClampNeg (h.bi a2 x3.toNatClampNeg)).sbi a6 ((h.sbi a4 (h.gi 1328 t0).toNatClampNeg (h.bi a2 x3.toNatClampNeg)).gi 1328 t0).toNatClampNeg x1).gi 1328 t0).toNatClampNeg (((h.sbi a4 (h.gi 1328 t0).toNatClampNeg (h.bi a2 x3.toNatClampNeg)).sbi a6 ((h.sbi a4 (h.gi 1328 t0).toNatClampNeg (h.bi a2 x3.toNatClampNeg)).gi 1328 t0).toNatClampNeg x1).bw a8 y0.toNatClampNeg)).gi 1328 t0).toNatClampNeg ((((h.sbi a4 (h.gi 1328 t0).toNatClampNeg (h.bi a2 x3.toNatClampNeg)).sbi a6 ((h.sbi a4 (h.gi 1328 t0).toNatClampNeg (h.bi a2 x3.toNatClampNeg)).gi 1328 t0).toNatClampNeg x1).sbw a10 (((h.sbi a4 (h.gi 1328 t0).toNatClampNeg (h.bi a2 x3.toNatClampNeg)).sbi a6 ((h.sbi a4 (h.gi 1328 t0).toNatClampNeg (h.bi a2 x3.toNatClampNeg)).gi 1328 t0).toNatClampNeg x1).gi 1328 t0).toNatClampNeg (((h.sbi a4 (h.gi 1328 t0).toNatClampNeg (h.bi a2 x3.toNatClampNeg)).sbi a6 ((h.sbi a4 (h.gi 1328 t0).toNatClampNeg (h.bi a2 x3.toNatClampNeg)).gi 1328 t0).toNatClampNeg x1).bw a8 y0.toNatClampNeg)).bi a12 y0.toNatClampNeg)) from ⟨fun _ _ => rfl, Nat.le_refl _, Nat.le_refl _, rfl, fun _ _ => rfl⟩) (mb_X10_commit_163 N k76 t0 _ _ _ _ m76 hJ))
set_option maxRecDepth 100000 in
set_option maxHeartbeats 4000000 in
theorem sb_X10_commit_95 (C : Cx p s m args meth c cX10_commit 5 (some .int) RX10 D cs A h0.se) (hz2 : hz.nx ≤ h0.nx + mc ∧ hz.su ≤ h0.su + ms) (N : Nat) (k76 : Hp → Int32 → Int32 → Int32 → Option (Hp × Int32)) (t0 : Nat) (m76 : ∀ (h : Hp) (x1 : Int32) (x2 : Int32) (x3 : Int32), k76 h x1 x2 x3 = some (hz, rz) → Mo h hz) (i76 : ∀ (h : Hp) (x1 : Int32) (x2 : Int32) (x3 : Int32) (H : Heap) (locs : List Loc) (cells slots : Nat) (ls : Array Slot), k76 h x1 x2 x3 = some (hz, rz) → h.kd t0 = 13 → Wo D cs A s h0 h H locs cells slots → lv_has ls 5 [(0, .ref t0), (1, .int x1), (2, .int x2), (3, .int x3)] → W p l e { frames := 6, cells := mc, slots := ms, locals := 180 } s m args below meth c H locs cells slots (MQ below (Zi D cs A hz rz) args s mc ms A) (F0 m 76 ls [])) (h : Hp) (x1 : Int32) (x2 : Int32) (x3 : Int32) (y0 : Int32) (hJ : B_X10_commit_95 N k76 t0 h x1 x2 x3 y0 = some (hz, rz)) (hk0 : h.kd t0 = 13) {H : Heap} {locs : List Loc} {cells slots : Nat} (w : Wo D cs A s h0 h H locs cells slots) {ls : Array Slot} (hl : lv_has ls 5 [(0, .ref t0), (1, .int x1), (2, .int x2), (3, .int x3)]) : W p l e { frames := 6, cells := mc, slots := ms, locals := 180 } s m args below meth c H locs cells slots (MQ below (Zi D cs A hz rz) args s mc ms A) (F0 m 95 ls [.int y0]) := by
  obtain ⟨hx, hb, hml, hown, hts, -⟩ := id C
  unfold B_X10_commit_95 at hJ
  refine lv_istore (i := 4) (lv' := [(4, .int y0), (0, .ref t0), (1, .int x1), (2, .int x2), (3, .int x3)]) hx hb dX10_commit_95 hl (by decide) rfl (fun ls hl => ?_)
  refine lv_iload hx hb dX10_commit_97 (lv_at hl 0 rfl) ?_
  refine lv_iconst (v := (-1 : Int32)) hx hb dX10_commit_99 (by decide) ?_
  refine lv_icmp_ne (tgt := 106) hx hb dX10_commit_100 (by decide) (fun c1 => ?_) (fun c1 => ?_)
  · have hJ := it_neg c1 hJ
    refine lv_aload_n hx hb dX10_commit_106 rfl (lv_at hl 1 rfl) ?_
    refine fg_1324 C w hk0 tw_6_187 dX10_commit_107 ?_
    refine lv_aload_n hx hb dX10_commit_110 rfl (lv_at hl 1 rfl) ?_
    refine fg_1328 C w hk0 tw_6_191 dX10_commit_111 ?_
    refine lv_aload_n hx hb dX10_commit_114 rfl (lv_at hl 1 rfl) ?_
    refine fg_1352 C w hk0 tw_6_215 dX10_commit_115 ?_
    refine lv_iload_n hx hb dX10_commit_118 rfl (lv_at hl 4 rfl) ?_
    obtain ⟨a2, ea2, hka2, hJ⟩ := dr_some hJ
    rw [ea2]
    obtain ⟨hi3, hJ⟩ := ck_some hJ
    refine jr_ialdM C w hka2 hi3 dX10_commit_119 ?_
    obtain ⟨a4, ea4, hka4, hJ⟩ := dr_some hJ
    rw [ea4]
    obtain ⟨hi5, hJ⟩ := ck_some hJ
    refine jr_iastM C w hka4 hi5 dX10_commit_120 (fun H locs w => ?_)
    refine lv_aload_n hx hb dX10_commit_121 rfl (lv_at hl 1 rfl) ?_
    refine fg_1325 C w hk0 tw_6_188 dX10_commit_122 ?_
    refine lv_aload_n hx hb dX10_commit_125 rfl (lv_at hl 1 rfl) ?_
    refine fg_1328 C w hk0 tw_6_191 dX10_commit_126 ?_
    refine lv_iload_n hx hb dX10_commit_129 rfl (lv_at hl 2 rfl) ?_
    obtain ⟨a6, ea6, hka6, hJ⟩ := dr_some hJ
    rw [ea6]
    obtain ⟨hi7, hJ⟩ := ck_some hJ
    refine jr_iastM C w hka6 hi7 dX10_commit_130 (fun H locs w => ?_)
    refine lv_aload_n hx hb dX10_commit_131 rfl (lv_at hl 1 rfl) ?_
    refine fg_1326 C w hk0 tw_6_189 dX10_commit_132 ?_
    refine lv_aload_n hx hb dX10_commit_135 rfl (lv_at hl 1 rfl) ?_
    refine fg_1328 C w hk0 tw_6_191 dX10_commit_136 ?_
    refine lv_aload_n hx hb dX10_commit_139 rfl (lv_at hl 1 rfl) ?_
    refine fg_1316 C w hk0 tw_6_179 dX10_commit_140 ?_
    refine lv_iload hx hb dX10_commit_143 (lv_at hl 0 rfl) ?_
    obtain ⟨a8, ea8, hka8, hJ⟩ := dr_some hJ
    rw [ea8]
    obtain ⟨hi9, hJ⟩ := ck_some hJ
    refine jr_laldM C w hka8 hi9 dX10_commit_145 ?_
    obtain ⟨a10, ea10, hka10, hJ⟩ := dr_some hJ
    rw [ea10]
    obtain ⟨hi11, hJ⟩ := ck_some hJ
    refine jr_lastM C w hka10 hi11 dX10_commit_146 (fun H locs w => ?_)
    refine lv_aload_n hx hb dX10_commit_147 rfl (lv_at hl 1 rfl) ?_
    refine fg_1327 C w hk0 tw_6_190 dX10_commit_148 ?_
    refine lv_aload_n hx hb dX10_commit_151 rfl (lv_at hl 1 rfl) ?_
    refine fg_1328 C w hk0 tw_6_191 dX10_commit_152 ?_
    refine lv_aload_n hx hb dX10_commit_155 rfl (lv_at hl 1 rfl) ?_
    refine fg_1317 C w hk0 tw_6_180 dX10_commit_156 ?_
    refine lv_iload hx hb dX10_commit_159 (lv_at hl 0 rfl) ?_
    obtain ⟨a12, ea12, hka12, hJ⟩ := dr_some hJ
    rw [ea12]
    obtain ⟨hi13, hJ⟩ := ck_some hJ
    refine jr_zaldM C w hka12 hi13 dX10_commit_161 ?_
    obtain ⟨a14, ea14, hka14, hJ⟩ := dr_some hJ
    rw [ea14]
    obtain ⟨hi15, hJ⟩ := ck_some hJ
    obtain ⟨hzo16, hJ⟩ := ck_some hJ
    refine jr_zastM C w hka14 hi15 hzo16 dX10_commit_162 (fun H locs w => ?_)
    exact sb_X10_commit_163 C hz2 N k76 t0 m76 i76 _ _ _ _ hJ hk0 w (lv_sub (l' := [(0, .ref t0), (1, .int x1), (2, .int x2), (3, .int x3)]) hl [1, 2, 3, 4] rfl)
  · have hJ := it_pos c1 hJ
    refine lv_goto (tgt := 173) hx hb dX10_commit_103 (by decide) ?_
    exact sb_X10_commit_173 C hz2 N k76 t0 m76 i76 _ _ _ _ hJ hk0 w (lv_sub (l' := [(0, .ref t0), (1, .int x1), (2, .int x2), (3, .int x3)]) hl [1, 2, 3, 4] rfl)
def B_X10_commit_231 (N : Nat) (t0 : Nat) (h : Hp) : Option (Hp × Int32) := some (h, (2 : Int32))
theorem mb_X10_commit_231 (N : Nat) (t0 : Nat) (h : Hp) (hJ : B_X10_commit_231 N t0 h = some (hz, rz)) : Mo h hz := by
  unfold B_X10_commit_231 at hJ
  obtain ⟨rfl, -⟩ := rs2 hJ
  exact ⟨fun _ _ => rfl, Nat.le_refl _, Nat.le_refl _, rfl, fun _ _ => rfl⟩
set_option maxRecDepth 100000 in
set_option maxHeartbeats 4000000 in
theorem sb_X10_commit_231 (C : Cx p s m args meth c cX10_commit 5 (some .int) RX10 D cs A h0.se) (hz2 : hz.nx ≤ h0.nx + mc ∧ hz.su ≤ h0.su + ms) (N : Nat) (t0 : Nat) (h : Hp) (hJ : B_X10_commit_231 N t0 h = some (hz, rz)) (hk0 : h.kd t0 = 13) {H : Heap} {locs : List Loc} {cells slots : Nat} (w : Wo D cs A s h0 h H locs cells slots) {ls : Array Slot} (hl : lv_has ls 5 [(0, .ref t0)]) : W p l e { frames := 6, cells := mc, slots := ms, locals := 180 } s m args below meth c H locs cells slots (MQ below (Zi D cs A hz rz) args s mc ms A) (F0 m 231 ls []) := by
  obtain ⟨hx, hb, hml, hown, hts, -⟩ := id C
  unfold B_X10_commit_231 at hJ
  refine lv_iconst (v := (2 : Int32)) hx hb dX10_commit_231 (by decide) ?_
  obtain ⟨rfl, rfl⟩ := rs2 hJ
  exact jr_iret C w hz2 dX10_commit_232
def B_X10_commit_213 (N : Nat) (t0 : Nat) (h : Hp) (x1 : Int32) (x2 : Int32) : Option (Hp × Int32) := dr (h.sgi 1328 t0 x2) 30 ((h.sgi 1328 t0 x2).gr 1304 t0) (fun a17 => ck (¬ (x1 < 0 ∨ (h.sgi 1328 t0 x2).al a17 ≤ x1.toNatClampNeg)) ((J_X10_ends N t0 ((h.sgi 1328 t0 x2).sbi a17 x1.toNatClampNeg (0 : Int32)) x1 (5 : Int32)).bind (fun z => B_X10_commit_231 N t0 z.1)))
theorem mb_X10_commit_213 (N : Nat) (t0 : Nat) (h : Hp) (x1 : Int32) (x2 : Int32) (hJ : B_X10_commit_213 N t0 h x1 x2 = some (hz, rz)) : Mo h hz := by
  unfold B_X10_commit_213 at hJ
  obtain ⟨a17, ea17, -, hJ⟩ := dr_some hJ
  obtain ⟨-, hJ⟩ := ck_some hJ
  obtain ⟨⟨h19, r20⟩, e21, hJ⟩ := ob_some hJ
  exact (Mo.tr (show Mo h ((h.sgi 1328 t0 x2).sbi a17 x1.toNatClampNeg (0 : Int32)) from ⟨fun _ _ => rfl, Nat.le_refl _, Nat.le_refl _, rfl, fun _ _ => rfl⟩) ((mo_X10_ends N t0 ((h.sgi 1328 t0 x2).sbi a17 x1.toNatClampNeg (0 : Int32)) x1 (5 : Int32) e21).tr (mb_X10_commit_231 N t0 _ hJ)))
set_option maxRecDepth 100000 in
set_option maxHeartbeats 4000000 in
theorem sb_X10_commit_213 (C : Cx p s m args meth c cX10_commit 5 (some .int) RX10 D cs A h0.se) (hz2 : hz.nx ≤ h0.nx + mc ∧ hz.su ≤ h0.su + ms) (N : Nat) (t0 : Nat) (h : Hp) (x1 : Int32) (x2 : Int32) (hJ : B_X10_commit_213 N t0 h x1 x2 = some (hz, rz)) (hk0 : h.kd t0 = 13) {H : Heap} {locs : List Loc} {cells slots : Nat} (w : Wo D cs A s h0 h H locs cells slots) {ls : Array Slot} (hl : lv_has ls 5 [(0, .ref t0), (1, .int x1), (2, .int x2)]) : W p l e { frames := 6, cells := mc, slots := ms, locals := 180 } s m args below meth c H locs cells slots (MQ below (Zi D cs A hz rz) args s mc ms A) (F0 m 213 ls []) := by
  obtain ⟨hx, hb, hml, hown, hts, -⟩ := id C
  unfold B_X10_commit_213 at hJ
  refine lv_aload_n hx hb dX10_commit_213 rfl (lv_at hl 0 rfl) ?_
  refine lv_iload_n hx hb dX10_commit_214 rfl (lv_at hl 2 rfl) ?_
  refine fp_1328 (x := x2) C w hk0 tw_6_191 dX10_commit_215 (fun H locs w => ?_)
  refine lv_aload_n hx hb dX10_commit_218 rfl (lv_at hl 0 rfl) ?_
  refine fg_1304 C w hk0 tw_6_167 dX10_commit_219 ?_
  refine lv_iload_n hx hb dX10_commit_222 rfl (lv_at hl 1 rfl) ?_
  refine lv_iconst (v := (0 : Int32)) hx hb dX10_commit_223 (by decide) ?_
  obtain ⟨a17, ea17, hka17, hJ⟩ := dr_some hJ
  rw [ea17]
  obtain ⟨hi18, hJ⟩ := ck_some hJ
  refine jr_iastM C w hka17 hi18 dX10_commit_224 (fun H locs w => ?_)
  refine lv_aload_n hx hb dX10_commit_225 rfl (lv_at hl 0 rfl) ?_
  refine lv_iload_n hx hb dX10_commit_226 rfl (lv_at hl 1 rfl) ?_
  refine lv_iconst (v := (5 : Int32)) hx hb dX10_commit_227 (by decide) ?_
  obtain ⟨⟨h19, r20⟩, e21, hJ⟩ := ob_some hJ
  refine jc_Vv (As := [.int x1, .int (5 : Int32)]) C w (cc_X10_ends N t0 ((h.sgi 1328 t0 x2).sbi a17 x1.toNatClampNeg (0 : Int32)) x1 (5 : Int32) hk0 e21) (mo_X10_ends N t0 ((h.sgi 1328 t0 x2).sbi a17 x1.toNatClampNeg (0 : Int32)) x1 (5 : Int32) e21) (mb_X10_commit_231 N t0 _ hJ) hz2 hk0 (by decide) rfl (fs := fs13 ((h.sgi 1328 t0 x2).sbi a17 x1.toNatClampNeg (0 : Int32)) t0) rfl rfl ⟨tw_7_190, tw_7_187, tw_7_189, ts_43, tw_1_7⟩ cd_X10_ends ⟨by decide, by decide⟩ hl.1 (by first | exact Nat.le_of_ble_eq_true rfl | simp [rf_cat, cat_i, cat_l, cat_r]) rfl dX10_commit_228 (fun H locs w1 => ?_)
  have hk22 := kd_keep w (mo_X10_ends N t0 ((h.sgi 1328 t0 x2).sbi a17 x1.toNatClampNeg (0 : Int32)) x1 (5 : Int32) e21) hk0 (by decide)
  have w := w1
  exact sb_X10_commit_231 C hz2 N t0 _ hJ hk22 w (lv_sub (l' := [(0, .ref t0)]) hl [0] rfl)
def B_X10_commit_233 (N : Nat) (k181 : Hp → Int32 → Int32 → Int32 → Option (Hp × Int32)) (t0 : Nat) (h : Hp) (x1 : Int32) (x2 : Int32) (x3 : Int32) : Option (Hp × Int32) := k181 h x1 x2 (x3 + (1 : Int32))
theorem mb_X10_commit_233 (N : Nat) (k181 : Hp → Int32 → Int32 → Int32 → Option (Hp × Int32)) (t0 : Nat) (h : Hp) (x1 : Int32) (x2 : Int32) (x3 : Int32) (m181 : ∀ (h : Hp) (x1 : Int32) (x2 : Int32) (x3 : Int32), k181 h x1 x2 x3 = some (hz, rz) → Mo h hz) (hJ : B_X10_commit_233 N k181 t0 h x1 x2 x3 = some (hz, rz)) : Mo h hz := by
  unfold B_X10_commit_233 at hJ
  exact m181 _ _ _ _ hJ
set_option maxRecDepth 100000 in
set_option maxHeartbeats 4000000 in
theorem sb_X10_commit_233 (C : Cx p s m args meth c cX10_commit 5 (some .int) RX10 D cs A h0.se) (hz2 : hz.nx ≤ h0.nx + mc ∧ hz.su ≤ h0.su + ms) (N : Nat) (k181 : Hp → Int32 → Int32 → Int32 → Option (Hp × Int32)) (t0 : Nat) (m181 : ∀ (h : Hp) (x1 : Int32) (x2 : Int32) (x3 : Int32), k181 h x1 x2 x3 = some (hz, rz) → Mo h hz) (i181 : ∀ (h : Hp) (x1 : Int32) (x2 : Int32) (x3 : Int32) (H : Heap) (locs : List Loc) (cells slots : Nat) (ls : Array Slot), k181 h x1 x2 x3 = some (hz, rz) → h.kd t0 = 13 → Wo D cs A s h0 h H locs cells slots → lv_has ls 5 [(0, .ref t0), (1, .int x1), (2, .int x2), (3, .int x3)] → W p l e { frames := 6, cells := mc, slots := ms, locals := 180 } s m args below meth c H locs cells slots (MQ below (Zi D cs A hz rz) args s mc ms A) (F0 m 181 ls [])) (h : Hp) (x1 : Int32) (x2 : Int32) (x3 : Int32) (hJ : B_X10_commit_233 N k181 t0 h x1 x2 x3 = some (hz, rz)) (hk0 : h.kd t0 = 13) {H : Heap} {locs : List Loc} {cells slots : Nat} (w : Wo D cs A s h0 h H locs cells slots) {ls : Array Slot} (hl : lv_has ls 5 [(0, .ref t0), (1, .int x1), (2, .int x2), (3, .int x3)]) : W p l e { frames := 6, cells := mc, slots := ms, locals := 180 } s m args below meth c H locs cells slots (MQ below (Zi D cs A hz rz) args s mc ms A) (F0 m 233 ls []) := by
  obtain ⟨hx, hb, hml, hown, hts, -⟩ := id C
  unfold B_X10_commit_233 at hJ
  refine lv_iinc (v := x3 + (1 : Int32)) (lv' := [(3, .int (x3 + (1 : Int32))), (0, .ref t0), (1, .int x1), (2, .int x2)]) hx hb dX10_commit_233 hl (k := 3) rfl rfl (by decide) rfl (fun ls hl => ?_)
  refine lv_goto (tgt := 181) hx hb dX10_commit_236 (by decide) ?_
  exact i181 _ _ _ _ _ _ _ _ _ hJ hk0 w (lv_sub (l' := [(0, .ref t0), (1, .int x1), (2, .int x2), (3, .int (x3 + (1 : Int32)))]) hl [1, 2, 3, 0] rfl)
def B_X10_commit_204 (N : Nat) (k181 : Hp → Int32 → Int32 → Int32 → Option (Hp × Int32)) (t0 : Nat) (h : Hp) (x1 : Int32) (x2 : Int32) (x3 : Int32) (y0 : Int32) : Option (Hp × Int32) := if y0 = 0 then (B_X10_commit_233 N k181 t0 h x1 x2 x3) else ((J_X10_danger N t0 h x3 x1).bind (fun z => B_X10_commit_213 N t0 z.1 x1 x2))
theorem mb_X10_commit_204 (N : Nat) (k181 : Hp → Int32 → Int32 → Int32 → Option (Hp × Int32)) (t0 : Nat) (h : Hp) (x1 : Int32) (x2 : Int32) (x3 : Int32) (y0 : Int32) (m181 : ∀ (h : Hp) (x1 : Int32) (x2 : Int32) (x3 : Int32), k181 h x1 x2 x3 = some (hz, rz) → Mo h hz) (hJ : B_X10_commit_204 N k181 t0 h x1 x2 x3 y0 = some (hz, rz)) : Mo h hz := by
  unfold B_X10_commit_204 at hJ
  by_cases c23 : y0 = 0
  · have hJ := it_pos c23 hJ
    exact mb_X10_commit_233 N k181 t0 _ _ _ _ m181 hJ
  · have hJ := it_neg c23 hJ
    obtain ⟨⟨h24, r25⟩, e26, hJ⟩ := ob_some hJ
    exact (mo_X10_danger N t0 h x3 x1 e26).tr (mb_X10_commit_213 N t0 _ _ _ hJ)
set_option maxRecDepth 100000 in
set_option maxHeartbeats 4000000 in
theorem sb_X10_commit_204 (C : Cx p s m args meth c cX10_commit 5 (some .int) RX10 D cs A h0.se) (hz2 : hz.nx ≤ h0.nx + mc ∧ hz.su ≤ h0.su + ms) (N : Nat) (k181 : Hp → Int32 → Int32 → Int32 → Option (Hp × Int32)) (t0 : Nat) (m181 : ∀ (h : Hp) (x1 : Int32) (x2 : Int32) (x3 : Int32), k181 h x1 x2 x3 = some (hz, rz) → Mo h hz) (i181 : ∀ (h : Hp) (x1 : Int32) (x2 : Int32) (x3 : Int32) (H : Heap) (locs : List Loc) (cells slots : Nat) (ls : Array Slot), k181 h x1 x2 x3 = some (hz, rz) → h.kd t0 = 13 → Wo D cs A s h0 h H locs cells slots → lv_has ls 5 [(0, .ref t0), (1, .int x1), (2, .int x2), (3, .int x3)] → W p l e { frames := 6, cells := mc, slots := ms, locals := 180 } s m args below meth c H locs cells slots (MQ below (Zi D cs A hz rz) args s mc ms A) (F0 m 181 ls [])) (h : Hp) (x1 : Int32) (x2 : Int32) (x3 : Int32) (y0 : Int32) (hJ : B_X10_commit_204 N k181 t0 h x1 x2 x3 y0 = some (hz, rz)) (hk0 : h.kd t0 = 13) {H : Heap} {locs : List Loc} {cells slots : Nat} (w : Wo D cs A s h0 h H locs cells slots) {ls : Array Slot} (hl : lv_has ls 5 [(0, .ref t0), (1, .int x1), (2, .int x2), (3, .int x3)]) : W p l e { frames := 6, cells := mc, slots := ms, locals := 180 } s m args below meth c H locs cells slots (MQ below (Zi D cs A hz rz) args s mc ms A) (F0 m 204 ls [.int y0]) := by
  obtain ⟨hx, hb, hml, hown, hts, -⟩ := id C
  unfold B_X10_commit_204 at hJ
  refine lv_if_eq (tgt := 233) hx hb dX10_commit_204 (by decide) (fun c23 => ?_) (fun c23 => ?_)
  · have hJ := it_pos c23 hJ
    exact sb_X10_commit_233 C hz2 N k181 t0 m181 i181 _ _ _ _ hJ hk0 w hl
  · have hJ := it_neg c23 hJ
    refine lv_aload_n hx hb dX10_commit_207 rfl (lv_at hl 0 rfl) ?_
    refine lv_iload_n hx hb dX10_commit_208 rfl (lv_at hl 3 rfl) ?_
    refine lv_iload_n hx hb dX10_commit_209 rfl (lv_at hl 1 rfl) ?_
    obtain ⟨⟨h24, r25⟩, e26, hJ⟩ := ob_some hJ
    refine jc_Vv (As := [.int x3, .int x1]) C w (cc_X10_danger N t0 h x3 x1 hk0 e26) (mo_X10_danger N t0 h x3 x1 e26) (mb_X10_commit_213 N t0 _ _ _ hJ) hz2 hk0 (by decide) rfl (fs := fs13 h t0) rfl rfl ⟨tw_7_202, tw_7_199, tw_7_201, ts_46, tw_1_7⟩ cd_X10_danger ⟨by decide, by decide⟩ hl.1 (by first | exact Nat.le_of_ble_eq_true rfl | simp [rf_cat, cat_i, cat_l, cat_r]) rfl dX10_commit_210 (fun H locs w1 => ?_)
    have hk27 := kd_keep w (mo_X10_danger N t0 h x3 x1 e26) hk0 (by decide)
    have w := w1
    exact sb_X10_commit_213 C hz2 N t0 _ _ _ hJ hk27 w (lv_sub (l' := [(0, .ref t0), (1, .int x1), (2, .int x2)]) hl [0, 1, 2] rfl)
def B_X10_commit_195 (N : Nat) (k181 : Hp → Int32 → Int32 → Int32 → Option (Hp × Int32)) (t0 : Nat) (h : Hp) (x1 : Int32) (x2 : Int32) (x3 : Int32) (y0 : Int32) : Option (Hp × Int32) := if y0 = 0 then (B_X10_commit_233 N k181 t0 h x1 x2 x3) else ((J_X10_mayNot N t0 h x3 x1).bind (fun z => B_X10_commit_204 N k181 t0 z.1 x1 x2 x3 z.2))
theorem mb_X10_commit_195 (N : Nat) (k181 : Hp → Int32 → Int32 → Int32 → Option (Hp × Int32)) (t0 : Nat) (h : Hp) (x1 : Int32) (x2 : Int32) (x3 : Int32) (y0 : Int32) (m181 : ∀ (h : Hp) (x1 : Int32) (x2 : Int32) (x3 : Int32), k181 h x1 x2 x3 = some (hz, rz) → Mo h hz) (hJ : B_X10_commit_195 N k181 t0 h x1 x2 x3 y0 = some (hz, rz)) : Mo h hz := by
  unfold B_X10_commit_195 at hJ
  by_cases c28 : y0 = 0
  · have hJ := it_pos c28 hJ
    exact mb_X10_commit_233 N k181 t0 _ _ _ _ m181 hJ
  · have hJ := it_neg c28 hJ
    obtain ⟨⟨h29, r30⟩, e31, hJ⟩ := ob_some hJ
    exact (mo_X10_mayNot N t0 h x3 x1 e31).tr (mb_X10_commit_204 N k181 t0 _ _ _ _ _ m181 hJ)
set_option maxRecDepth 100000 in
set_option maxHeartbeats 4000000 in
theorem sb_X10_commit_195 (C : Cx p s m args meth c cX10_commit 5 (some .int) RX10 D cs A h0.se) (hz2 : hz.nx ≤ h0.nx + mc ∧ hz.su ≤ h0.su + ms) (N : Nat) (k181 : Hp → Int32 → Int32 → Int32 → Option (Hp × Int32)) (t0 : Nat) (m181 : ∀ (h : Hp) (x1 : Int32) (x2 : Int32) (x3 : Int32), k181 h x1 x2 x3 = some (hz, rz) → Mo h hz) (i181 : ∀ (h : Hp) (x1 : Int32) (x2 : Int32) (x3 : Int32) (H : Heap) (locs : List Loc) (cells slots : Nat) (ls : Array Slot), k181 h x1 x2 x3 = some (hz, rz) → h.kd t0 = 13 → Wo D cs A s h0 h H locs cells slots → lv_has ls 5 [(0, .ref t0), (1, .int x1), (2, .int x2), (3, .int x3)] → W p l e { frames := 6, cells := mc, slots := ms, locals := 180 } s m args below meth c H locs cells slots (MQ below (Zi D cs A hz rz) args s mc ms A) (F0 m 181 ls [])) (h : Hp) (x1 : Int32) (x2 : Int32) (x3 : Int32) (y0 : Int32) (hJ : B_X10_commit_195 N k181 t0 h x1 x2 x3 y0 = some (hz, rz)) (hk0 : h.kd t0 = 13) {H : Heap} {locs : List Loc} {cells slots : Nat} (w : Wo D cs A s h0 h H locs cells slots) {ls : Array Slot} (hl : lv_has ls 5 [(0, .ref t0), (1, .int x1), (2, .int x2), (3, .int x3)]) : W p l e { frames := 6, cells := mc, slots := ms, locals := 180 } s m args below meth c H locs cells slots (MQ below (Zi D cs A hz rz) args s mc ms A) (F0 m 195 ls [.int y0]) := by
  obtain ⟨hx, hb, hml, hown, hts, -⟩ := id C
  unfold B_X10_commit_195 at hJ
  refine lv_if_eq (tgt := 233) hx hb dX10_commit_195 (by decide) (fun c28 => ?_) (fun c28 => ?_)
  · have hJ := it_pos c28 hJ
    exact sb_X10_commit_233 C hz2 N k181 t0 m181 i181 _ _ _ _ hJ hk0 w hl
  · have hJ := it_neg c28 hJ
    refine lv_aload_n hx hb dX10_commit_198 rfl (lv_at hl 0 rfl) ?_
    refine lv_iload_n hx hb dX10_commit_199 rfl (lv_at hl 3 rfl) ?_
    refine lv_iload_n hx hb dX10_commit_200 rfl (lv_at hl 1 rfl) ?_
    obtain ⟨⟨h29, r30⟩, e31, hJ⟩ := ob_some hJ
    refine jc_Vi (As := [.int x3, .int x1]) C w (cc_X10_mayNot N t0 h x3 x1 hk0 e31) (mo_X10_mayNot N t0 h x3 x1 e31) (mb_X10_commit_204 N k181 t0 _ _ _ _ _ m181 hJ) hz2 hk0 (by decide) rfl (fs := fs13 h t0) rfl rfl ⟨tw_7_198, tw_7_195, tw_7_197, ts_45, tw_1_7⟩ cd_X10_mayNot ⟨by decide, by decide⟩ hl.1 (by first | exact Nat.le_of_ble_eq_true rfl | simp [rf_cat, cat_i, cat_l, cat_r]) rfl dX10_commit_201 (fun H locs w1 => ?_)
    have hk32 := kd_keep w (mo_X10_mayNot N t0 h x3 x1 e31) hk0 (by decide)
    have w := w1
    exact sb_X10_commit_204 C hz2 N k181 t0 m181 i181 _ _ _ _ _ hJ hk32 w hl
def B_X10_commit_277 (N : Nat) (k241 : Hp → Int32 → Int32 → Option (Hp × Int32)) (t0 : Nat) (h : Hp) (x1 : Int32) (x3 : Int32) (y0 : Option Nat) (y1 : Int32) (y2 : Int32) : Option (Hp × Int32) := dr h 32 y0 (fun a33 => ck (¬ (y1 < 0 ∨ h.al a33 ≤ y1.toNatClampNeg)) (ck (y2 = 0 ∨ y2 = 1) (k241 (h.sbi a33 y1.toNatClampNeg y2) x1 (x3 + (1 : Int32)))))
theorem mb_X10_commit_277 (N : Nat) (k241 : Hp → Int32 → Int32 → Option (Hp × Int32)) (t0 : Nat) (h : Hp) (x1 : Int32) (x3 : Int32) (y0 : Option Nat) (y1 : Int32) (y2 : Int32) (m241 : ∀ (h : Hp) (x1 : Int32) (x3 : Int32), k241 h x1 x3 = some (hz, rz) → Mo h hz) (hJ : B_X10_commit_277 N k241 t0 h x1 x3 y0 y1 y2 = some (hz, rz)) : Mo h hz := by
  unfold B_X10_commit_277 at hJ
  obtain ⟨a33, ea33, -, hJ⟩ := dr_some hJ
  obtain ⟨-, hJ⟩ := ck_some hJ
  obtain ⟨-, hJ⟩ := ck_some hJ
  exact (Mo.tr (show Mo h (h.sbi a33 y1.toNatClampNeg y2) from ⟨fun _ _ => rfl, Nat.le_refl _, Nat.le_refl _, rfl, fun _ _ => rfl⟩) (m241 _ _ _ hJ))
set_option maxRecDepth 100000 in
set_option maxHeartbeats 4000000 in
theorem sb_X10_commit_277 (C : Cx p s m args meth c cX10_commit 5 (some .int) RX10 D cs A h0.se) (hz2 : hz.nx ≤ h0.nx + mc ∧ hz.su ≤ h0.su + ms) (N : Nat) (k241 : Hp → Int32 → Int32 → Option (Hp × Int32)) (t0 : Nat) (m241 : ∀ (h : Hp) (x1 : Int32) (x3 : Int32), k241 h x1 x3 = some (hz, rz) → Mo h hz) (i241 : ∀ (h : Hp) (x1 : Int32) (x3 : Int32) (H : Heap) (locs : List Loc) (cells slots : Nat) (ls : Array Slot), k241 h x1 x3 = some (hz, rz) → h.kd t0 = 13 → Wo D cs A s h0 h H locs cells slots → lv_has ls 5 [(0, .ref t0), (1, .int x1), (3, .int x3)] → W p l e { frames := 6, cells := mc, slots := ms, locals := 180 } s m args below meth c H locs cells slots (MQ below (Zi D cs A hz rz) args s mc ms A) (F0 m 241 ls [])) (h : Hp) (x1 : Int32) (x3 : Int32) (y0 : Option Nat) (y1 : Int32) (y2 : Int32) (hJ : B_X10_commit_277 N k241 t0 h x1 x3 y0 y1 y2 = some (hz, rz)) (hk0 : h.kd t0 = 13) {H : Heap} {locs : List Loc} {cells slots : Nat} (w : Wo D cs A s h0 h H locs cells slots) {ls : Array Slot} (hl : lv_has ls 5 [(0, .ref t0), (1, .int x1), (3, .int x3)]) : W p l e { frames := 6, cells := mc, slots := ms, locals := 180 } s m args below meth c H locs cells slots (MQ below (Zi D cs A hz rz) args s mc ms A) (F0 m 277 ls [.int y2, .int y1, va_rf y0]) := by
  obtain ⟨hx, hb, hml, hown, hts, -⟩ := id C
  unfold B_X10_commit_277 at hJ
  obtain ⟨a33, ea33, hka33, hJ⟩ := dr_some hJ
  rw [ea33]
  obtain ⟨hi34, hJ⟩ := ck_some hJ
  obtain ⟨hzo35, hJ⟩ := ck_some hJ
  refine jr_zastM C w hka33 hi34 hzo35 dX10_commit_277 (fun H locs w => ?_)
  refine lv_iinc (v := x3 + (1 : Int32)) (lv' := [(3, .int (x3 + (1 : Int32))), (0, .ref t0), (1, .int x1)]) hx hb dX10_commit_278 hl (k := 2) rfl rfl (by decide) rfl (fun ls hl => ?_)
  refine lv_goto (tgt := 241) hx hb dX10_commit_281 (by decide) ?_
  exact i241 _ _ _ _ _ _ _ _ hJ hk0 w (lv_sub (l' := [(0, .ref t0), (1, .int x1), (3, .int (x3 + (1 : Int32)))]) hl [1, 2, 0] rfl)
def B_X10_commit_272 (N : Nat) (k241 : Hp → Int32 → Int32 → Option (Hp × Int32)) (t0 : Nat) (h : Hp) (x1 : Int32) (x3 : Int32) (y0 : Option Nat) (y1 : Int32) : Option (Hp × Int32) := B_X10_commit_277 N k241 t0 h x1 x3 y0 y1 (1 : Int32)
theorem mb_X10_commit_272 (N : Nat) (k241 : Hp → Int32 → Int32 → Option (Hp × Int32)) (t0 : Nat) (h : Hp) (x1 : Int32) (x3 : Int32) (y0 : Option Nat) (y1 : Int32) (m241 : ∀ (h : Hp) (x1 : Int32) (x3 : Int32), k241 h x1 x3 = some (hz, rz) → Mo h hz) (hJ : B_X10_commit_272 N k241 t0 h x1 x3 y0 y1 = some (hz, rz)) : Mo h hz := by
  unfold B_X10_commit_272 at hJ
  exact mb_X10_commit_277 N k241 t0 _ _ _ _ _ _ m241 hJ
set_option maxRecDepth 100000 in
set_option maxHeartbeats 4000000 in
theorem sb_X10_commit_272 (C : Cx p s m args meth c cX10_commit 5 (some .int) RX10 D cs A h0.se) (hz2 : hz.nx ≤ h0.nx + mc ∧ hz.su ≤ h0.su + ms) (N : Nat) (k241 : Hp → Int32 → Int32 → Option (Hp × Int32)) (t0 : Nat) (m241 : ∀ (h : Hp) (x1 : Int32) (x3 : Int32), k241 h x1 x3 = some (hz, rz) → Mo h hz) (i241 : ∀ (h : Hp) (x1 : Int32) (x3 : Int32) (H : Heap) (locs : List Loc) (cells slots : Nat) (ls : Array Slot), k241 h x1 x3 = some (hz, rz) → h.kd t0 = 13 → Wo D cs A s h0 h H locs cells slots → lv_has ls 5 [(0, .ref t0), (1, .int x1), (3, .int x3)] → W p l e { frames := 6, cells := mc, slots := ms, locals := 180 } s m args below meth c H locs cells slots (MQ below (Zi D cs A hz rz) args s mc ms A) (F0 m 241 ls [])) (h : Hp) (x1 : Int32) (x3 : Int32) (y0 : Option Nat) (y1 : Int32) (hJ : B_X10_commit_272 N k241 t0 h x1 x3 y0 y1 = some (hz, rz)) (hk0 : h.kd t0 = 13) {H : Heap} {locs : List Loc} {cells slots : Nat} (w : Wo D cs A s h0 h H locs cells slots) {ls : Array Slot} (hl : lv_has ls 5 [(0, .ref t0), (1, .int x1), (3, .int x3)]) : W p l e { frames := 6, cells := mc, slots := ms, locals := 180 } s m args below meth c H locs cells slots (MQ below (Zi D cs A hz rz) args s mc ms A) (F0 m 272 ls [.int y1, va_rf y0]) := by
  obtain ⟨hx, hb, hml, hown, hts, -⟩ := id C
  unfold B_X10_commit_272 at hJ
  refine lv_iconst (v := (1 : Int32)) hx hb dX10_commit_272 (by decide) ?_
  refine lv_goto (tgt := 277) hx hb dX10_commit_273 (by decide) ?_
  exact sb_X10_commit_277 C hz2 N k241 t0 m241 i241 _ _ _ _ _ _ hJ hk0 w hl
def B_X10_commit_269 (N : Nat) (k241 : Hp → Int32 → Int32 → Option (Hp × Int32)) (t0 : Nat) (h : Hp) (x1 : Int32) (x3 : Int32) (y0 : Option Nat) (y1 : Int32) (y2 : Int32) : Option (Hp × Int32) := if y2 = 0 then (B_X10_commit_277 N k241 t0 h x1 x3 y0 y1 (0 : Int32)) else (B_X10_commit_272 N k241 t0 h x1 x3 y0 y1)
theorem mb_X10_commit_269 (N : Nat) (k241 : Hp → Int32 → Int32 → Option (Hp × Int32)) (t0 : Nat) (h : Hp) (x1 : Int32) (x3 : Int32) (y0 : Option Nat) (y1 : Int32) (y2 : Int32) (m241 : ∀ (h : Hp) (x1 : Int32) (x3 : Int32), k241 h x1 x3 = some (hz, rz) → Mo h hz) (hJ : B_X10_commit_269 N k241 t0 h x1 x3 y0 y1 y2 = some (hz, rz)) : Mo h hz := by
  unfold B_X10_commit_269 at hJ
  by_cases c36 : y2 = 0
  · have hJ := it_pos c36 hJ
    exact mb_X10_commit_277 N k241 t0 _ _ _ _ _ _ m241 hJ
  · have hJ := it_neg c36 hJ
    exact mb_X10_commit_272 N k241 t0 _ _ _ _ _ m241 hJ
set_option maxRecDepth 100000 in
set_option maxHeartbeats 4000000 in
theorem sb_X10_commit_269 (C : Cx p s m args meth c cX10_commit 5 (some .int) RX10 D cs A h0.se) (hz2 : hz.nx ≤ h0.nx + mc ∧ hz.su ≤ h0.su + ms) (N : Nat) (k241 : Hp → Int32 → Int32 → Option (Hp × Int32)) (t0 : Nat) (m241 : ∀ (h : Hp) (x1 : Int32) (x3 : Int32), k241 h x1 x3 = some (hz, rz) → Mo h hz) (i241 : ∀ (h : Hp) (x1 : Int32) (x3 : Int32) (H : Heap) (locs : List Loc) (cells slots : Nat) (ls : Array Slot), k241 h x1 x3 = some (hz, rz) → h.kd t0 = 13 → Wo D cs A s h0 h H locs cells slots → lv_has ls 5 [(0, .ref t0), (1, .int x1), (3, .int x3)] → W p l e { frames := 6, cells := mc, slots := ms, locals := 180 } s m args below meth c H locs cells slots (MQ below (Zi D cs A hz rz) args s mc ms A) (F0 m 241 ls [])) (h : Hp) (x1 : Int32) (x3 : Int32) (y0 : Option Nat) (y1 : Int32) (y2 : Int32) (hJ : B_X10_commit_269 N k241 t0 h x1 x3 y0 y1 y2 = some (hz, rz)) (hk0 : h.kd t0 = 13) {H : Heap} {locs : List Loc} {cells slots : Nat} (w : Wo D cs A s h0 h H locs cells slots) {ls : Array Slot} (hl : lv_has ls 5 [(0, .ref t0), (1, .int x1), (3, .int x3)]) : W p l e { frames := 6, cells := mc, slots := ms, locals := 180 } s m args below meth c H locs cells slots (MQ below (Zi D cs A hz rz) args s mc ms A) (F0 m 269 ls [.int y2, .int y1, va_rf y0]) := by
  obtain ⟨hx, hb, hml, hown, hts, -⟩ := id C
  unfold B_X10_commit_269 at hJ
  refine lv_if_eq (tgt := 276) hx hb dX10_commit_269 (by decide) (fun c36 => ?_) (fun c36 => ?_)
  · have hJ := it_pos c36 hJ
    refine lv_iconst (v := (0 : Int32)) hx hb dX10_commit_276 (by decide) ?_
    exact sb_X10_commit_277 C hz2 N k241 t0 m241 i241 _ _ _ _ _ _ hJ hk0 w hl
  · have hJ := it_neg c36 hJ
    exact sb_X10_commit_272 C hz2 N k241 t0 m241 i241 _ _ _ _ _ hJ hk0 w hl
def B_X10_commit_298 (N : Nat) (t0 : Nat) (h : Hp) : Option (Hp × Int32) := some (h, (0 : Int32))
theorem mb_X10_commit_298 (N : Nat) (t0 : Nat) (h : Hp) (hJ : B_X10_commit_298 N t0 h = some (hz, rz)) : Mo h hz := by
  unfold B_X10_commit_298 at hJ
  obtain ⟨rfl, -⟩ := rs2 hJ
  exact ⟨fun _ _ => rfl, Nat.le_refl _, Nat.le_refl _, rfl, fun _ _ => rfl⟩
set_option maxRecDepth 100000 in
set_option maxHeartbeats 4000000 in
theorem sb_X10_commit_298 (C : Cx p s m args meth c cX10_commit 5 (some .int) RX10 D cs A h0.se) (hz2 : hz.nx ≤ h0.nx + mc ∧ hz.su ≤ h0.su + ms) (N : Nat) (t0 : Nat) (h : Hp) (hJ : B_X10_commit_298 N t0 h = some (hz, rz)) (hk0 : h.kd t0 = 13) {H : Heap} {locs : List Loc} {cells slots : Nat} (w : Wo D cs A s h0 h H locs cells slots) {ls : Array Slot} (hl : lv_has ls 5 [(0, .ref t0)]) : W p l e { frames := 6, cells := mc, slots := ms, locals := 180 } s m args below meth c H locs cells slots (MQ below (Zi D cs A hz rz) args s mc ms A) (F0 m 298 ls []) := by
  obtain ⟨hx, hb, hml, hown, hts, -⟩ := id C
  unfold B_X10_commit_298 at hJ
  refine lv_iconst (v := (0 : Int32)) hx hb dX10_commit_298 (by decide) ?_
  obtain ⟨rfl, rfl⟩ := rs2 hJ
  exact jr_iret C w hz2 dX10_commit_299
def B_X10_commit_241 (N : Nat) (k241 : Hp → Int32 → Int32 → Option (Hp × Int32)) (t0 : Nat) (h : Hp) (x1 : Int32) (x3 : Int32) : Option (Hp × Int32) := if (h.gi 1311 t0) < x3 then ((J_X10_judge N t0 (h.sgi 1312 t0 ((h.gi 1312 t0) + (1 : Int32)))).bind (fun z => B_X10_commit_298 N t0 z.1)) else (dr h 32 (h.gr 1308 t0) (fun a42 => ck (¬ (x1 < 0 ∨ h.al a42 ≤ x1.toNatClampNeg)) (if (h.bi a42 x1.toNatClampNeg) = 0 then ((J_X10_precedes N t0 h x3 x1).bind (fun z => B_X10_commit_269 N k241 t0 z.1 x1 x3 (some a42) x1 z.2)) else (B_X10_commit_272 N k241 t0 h x1 x3 (some a42) x1))))
theorem mb_X10_commit_241 (N : Nat) (k241 : Hp → Int32 → Int32 → Option (Hp × Int32)) (t0 : Nat) (h : Hp) (x1 : Int32) (x3 : Int32) (m241 : ∀ (h : Hp) (x1 : Int32) (x3 : Int32), k241 h x1 x3 = some (hz, rz) → Mo h hz) (hJ : B_X10_commit_241 N k241 t0 h x1 x3 = some (hz, rz)) : Mo h hz := by
  unfold B_X10_commit_241 at hJ
  by_cases c37 : (h.gi 1311 t0) < x3
  · have hJ := it_pos c37 hJ
    obtain ⟨⟨h38, r39⟩, e40, hJ⟩ := ob_some hJ
    exact (Mo.tr (show Mo h (h.sgi 1312 t0 ((h.gi 1312 t0) + (1 : Int32))) from ⟨fun _ _ => rfl, Nat.le_refl _, Nat.le_refl _, rfl, fun _ _ => rfl⟩) ((mo_X10_judge N t0 (h.sgi 1312 t0 ((h.gi 1312 t0) + (1 : Int32))) e40).tr (mb_X10_commit_298 N t0 _ hJ)))
  · have hJ := it_neg c37 hJ
    obtain ⟨a42, ea42, -, hJ⟩ := dr_some hJ
    obtain ⟨-, hJ⟩ := ck_some hJ
    by_cases c44 : (h.bi a42 x1.toNatClampNeg) = 0
    · have hJ := it_pos c44 hJ
      obtain ⟨⟨h45, r46⟩, e47, hJ⟩ := ob_some hJ
      exact (mo_X10_precedes N t0 h x3 x1 e47).tr (mb_X10_commit_269 N k241 t0 _ _ _ _ _ _ m241 hJ)
    · have hJ := it_neg c44 hJ
      exact mb_X10_commit_272 N k241 t0 _ _ _ _ _ m241 hJ
set_option maxRecDepth 100000 in
set_option maxHeartbeats 4000000 in
theorem sb_X10_commit_241 (C : Cx p s m args meth c cX10_commit 5 (some .int) RX10 D cs A h0.se) (hz2 : hz.nx ≤ h0.nx + mc ∧ hz.su ≤ h0.su + ms) (N : Nat) (k241 : Hp → Int32 → Int32 → Option (Hp × Int32)) (t0 : Nat) (m241 : ∀ (h : Hp) (x1 : Int32) (x3 : Int32), k241 h x1 x3 = some (hz, rz) → Mo h hz) (i241 : ∀ (h : Hp) (x1 : Int32) (x3 : Int32) (H : Heap) (locs : List Loc) (cells slots : Nat) (ls : Array Slot), k241 h x1 x3 = some (hz, rz) → h.kd t0 = 13 → Wo D cs A s h0 h H locs cells slots → lv_has ls 5 [(0, .ref t0), (1, .int x1), (3, .int x3)] → W p l e { frames := 6, cells := mc, slots := ms, locals := 180 } s m args below meth c H locs cells slots (MQ below (Zi D cs A hz rz) args s mc ms A) (F0 m 241 ls [])) (h : Hp) (x1 : Int32) (x3 : Int32) (hJ : B_X10_commit_241 N k241 t0 h x1 x3 = some (hz, rz)) (hk0 : h.kd t0 = 13) {H : Heap} {locs : List Loc} {cells slots : Nat} (w : Wo D cs A s h0 h H locs cells slots) {ls : Array Slot} (hl : lv_has ls 5 [(0, .ref t0), (1, .int x1), (3, .int x3)]) : W p l e { frames := 6, cells := mc, slots := ms, locals := 180 } s m args below meth c H locs cells slots (MQ below (Zi D cs A hz rz) args s mc ms A) (F0 m 241 ls []) := by
  obtain ⟨hx, hb, hml, hown, hts, -⟩ := id C
  unfold B_X10_commit_241 at hJ
  refine lv_iload_n hx hb dX10_commit_241 rfl (lv_at hl 2 rfl) ?_
  refine lv_aload_n hx hb dX10_commit_242 rfl (lv_at hl 0 rfl) ?_
  refine fg_1311 C w hk0 tw_6_174 dX10_commit_243 ?_
  refine lv_icmp_gt (tgt := 284) hx hb dX10_commit_246 (by decide) (fun c37 => ?_) (fun c37 => ?_)
  · have hJ := it_pos c37 hJ
    refine lv_aload_n hx hb dX10_commit_284 rfl (lv_at hl 0 rfl) ?_
    refine lv_dup hx hb dX10_commit_285 rfl ?_
    refine fg_1312 C w hk0 tw_6_175 dX10_commit_286 ?_
    refine lv_iconst (v := (1 : Int32)) hx hb dX10_commit_289 (by decide) ?_
    refine lv_iadd hx hb dX10_commit_290 ?_
    refine fp_1312 (x := (h.gi 1312 t0) + (1 : Int32)) C w hk0 tw_6_175 dX10_commit_291 (fun H locs w => ?_)
    refine lv_aload_n hx hb dX10_commit_294 rfl (lv_at hl 0 rfl) ?_
    obtain ⟨⟨h38, r39⟩, e40, hJ⟩ := ob_some hJ
    refine jc_Vv (As := []) C w (cc_X10_judge N t0 (h.sgi 1312 t0 ((h.gi 1312 t0) + (1 : Int32))) hk0 e40) (mo_X10_judge N t0 (h.sgi 1312 t0 ((h.gi 1312 t0) + (1 : Int32))) e40) (mb_X10_commit_298 N t0 _ hJ) hz2 hk0 (by decide) rfl (fs := fs13 (h.sgi 1312 t0 ((h.gi 1312 t0) + (1 : Int32))) t0) rfl rfl ⟨tw_7_141, tw_7_138, tw_7_140, ts_32, tw_1_7⟩ cd_X10_judge ⟨by decide, by decide⟩ hl.1 (by first | exact Nat.le_of_ble_eq_true rfl | simp [rf_cat, cat_i, cat_l, cat_r]) rfl dX10_commit_295 (fun H locs w1 => ?_)
    have hk41 := kd_keep w (mo_X10_judge N t0 (h.sgi 1312 t0 ((h.gi 1312 t0) + (1 : Int32))) e40) hk0 (by decide)
    have w := w1
    exact sb_X10_commit_298 C hz2 N t0 _ hJ hk41 w (lv_sub (l' := [(0, .ref t0)]) hl [0] rfl)
  · have hJ := it_neg c37 hJ
    refine lv_aload_n hx hb dX10_commit_249 rfl (lv_at hl 0 rfl) ?_
    refine fg_1308 C w hk0 tw_6_171 dX10_commit_250 ?_
    refine lv_iload_n hx hb dX10_commit_253 rfl (lv_at hl 1 rfl) ?_
    refine lv_aload_n hx hb dX10_commit_254 rfl (lv_at hl 0 rfl) ?_
    refine fg_1308 C w hk0 tw_6_171 dX10_commit_255 ?_
    refine lv_iload_n hx hb dX10_commit_258 rfl (lv_at hl 1 rfl) ?_
    obtain ⟨a42, ea42, hka42, hJ⟩ := dr_some hJ
    rw [ea42]
    obtain ⟨hi43, hJ⟩ := ck_some hJ
    refine jr_zaldM C w hka42 hi43 dX10_commit_259 ?_
    refine lv_if_ne (tgt := 272) hx hb dX10_commit_260 (by decide) (fun c44 => ?_) (fun c44 => ?_)
    · have hJ := it_neg c44 hJ
      exact sb_X10_commit_272 C hz2 N k241 t0 m241 i241 _ _ _ _ _ hJ hk0 w hl
    · have hJ := it_pos c44 hJ
      refine lv_aload_n hx hb dX10_commit_263 rfl (lv_at hl 0 rfl) ?_
      refine lv_iload_n hx hb dX10_commit_264 rfl (lv_at hl 2 rfl) ?_
      refine lv_iload_n hx hb dX10_commit_265 rfl (lv_at hl 1 rfl) ?_
      obtain ⟨⟨h45, r46⟩, e47, hJ⟩ := ob_some hJ
      refine jc_Vi (As := [.int x3, .int x1]) C w (cc_X10_precedes N t0 h x3 x1 hk0 e47) (mo_X10_precedes N t0 h x3 x1 e47) (mb_X10_commit_269 N k241 t0 _ _ _ _ _ _ m241 hJ) hz2 hk0 (by decide) rfl (fs := fs13 h t0) rfl rfl ⟨tw_7_158, tw_7_155, tw_7_157, ts_36, tw_1_7⟩ cd_X10_precedes ⟨by decide, by decide⟩ hl.1 (by first | exact Nat.le_of_ble_eq_true rfl | simp [rf_cat, cat_i, cat_l, cat_r]) rfl dX10_commit_266 (fun H locs w1 => ?_)
      have hk48 := kd_keep w (mo_X10_precedes N t0 h x3 x1 e47) hk0 (by decide)
      have w := w1
      exact sb_X10_commit_269 C hz2 N k241 t0 m241 i241 _ _ _ _ _ _ hJ hk48 w hl
def L_X10_commit_241 (N : Nat) (t0 : Nat) : Nat → Hp → Int32 → Int32 → Option (Hp × Int32)
  | 0 => fun _ _ _ => none
  | n + 1 => fun h x1 x3 => B_X10_commit_241 N (L_X10_commit_241 N t0 n) t0 h x1 x3
theorem ml_X10_commit_241 (N : Nat) (t0 : Nat) : ∀ (n : Nat) (h : Hp) (x1 : Int32) (x3 : Int32), L_X10_commit_241 N t0 n h x1 x3 = some (hz, rz) → Mo h hz := by
  intro n
  induction n with
  | zero => intro h x1 x3 hJ; cases hJ
  | succ n ih => intro h x1 x3 hJ; exact mb_X10_commit_241 N (L_X10_commit_241 N t0 n) t0 h x1 x3 ih hJ
theorem sl_X10_commit_241 (C : Cx p s m args meth c cX10_commit 5 (some .int) RX10 D cs A h0.se) (hz2 : hz.nx ≤ h0.nx + mc ∧ hz.su ≤ h0.su + ms) (N : Nat) (t0 : Nat) : ∀ n : Nat, ∀ (h : Hp) (x1 : Int32) (x3 : Int32) (H : Heap) (locs : List Loc) (cells slots : Nat) (ls : Array Slot), L_X10_commit_241 N t0 n h x1 x3 = some (hz, rz) → h.kd t0 = 13 → Wo D cs A s h0 h H locs cells slots → lv_has ls 5 [(0, .ref t0), (1, .int x1), (3, .int x3)] → W p l e { frames := 6, cells := mc, slots := ms, locals := 180 } s m args below meth c H locs cells slots (MQ below (Zi D cs A hz rz) args s mc ms A) (F0 m 241 ls []) := by
  intro n
  induction n with
  | zero => intro h x1 x3 H locs cells slots ls hJ; cases hJ
  | succ n ih =>
    intro h x1 x3 H locs cells slots ls hJ hk0 w hl
    exact sb_X10_commit_241 C hz2 N (L_X10_commit_241 N t0 n) t0 (ml_X10_commit_241 N t0 n) ih h x1 x3 hJ hk0 w hl
def B_X10_commit_181 (N : Nat) (k181 : Hp → Int32 → Int32 → Int32 → Option (Hp × Int32)) (t0 : Nat) (h : Hp) (x1 : Int32) (x2 : Int32) (x3 : Int32) : Option (Hp × Int32) := if (h.gi 1311 t0) < x3 then (L_X10_commit_241 N t0 N h x1 (1 : Int32)) else ((J_X10_precedes N t0 h x3 x1).bind (fun z => B_X10_commit_195 N k181 t0 z.1 x1 x2 x3 z.2))
theorem mb_X10_commit_181 (N : Nat) (k181 : Hp → Int32 → Int32 → Int32 → Option (Hp × Int32)) (t0 : Nat) (h : Hp) (x1 : Int32) (x2 : Int32) (x3 : Int32) (m181 : ∀ (h : Hp) (x1 : Int32) (x2 : Int32) (x3 : Int32), k181 h x1 x2 x3 = some (hz, rz) → Mo h hz) (hJ : B_X10_commit_181 N k181 t0 h x1 x2 x3 = some (hz, rz)) : Mo h hz := by
  unfold B_X10_commit_181 at hJ
  by_cases c49 : (h.gi 1311 t0) < x3
  · have hJ := it_pos c49 hJ
    exact ml_X10_commit_241 N t0 N _ _ _ hJ
  · have hJ := it_neg c49 hJ
    obtain ⟨⟨h50, r51⟩, e52, hJ⟩ := ob_some hJ
    exact (mo_X10_precedes N t0 h x3 x1 e52).tr (mb_X10_commit_195 N k181 t0 _ _ _ _ _ m181 hJ)
set_option maxRecDepth 100000 in
set_option maxHeartbeats 4000000 in
theorem sb_X10_commit_181 (C : Cx p s m args meth c cX10_commit 5 (some .int) RX10 D cs A h0.se) (hz2 : hz.nx ≤ h0.nx + mc ∧ hz.su ≤ h0.su + ms) (N : Nat) (k181 : Hp → Int32 → Int32 → Int32 → Option (Hp × Int32)) (t0 : Nat) (m181 : ∀ (h : Hp) (x1 : Int32) (x2 : Int32) (x3 : Int32), k181 h x1 x2 x3 = some (hz, rz) → Mo h hz) (i181 : ∀ (h : Hp) (x1 : Int32) (x2 : Int32) (x3 : Int32) (H : Heap) (locs : List Loc) (cells slots : Nat) (ls : Array Slot), k181 h x1 x2 x3 = some (hz, rz) → h.kd t0 = 13 → Wo D cs A s h0 h H locs cells slots → lv_has ls 5 [(0, .ref t0), (1, .int x1), (2, .int x2), (3, .int x3)] → W p l e { frames := 6, cells := mc, slots := ms, locals := 180 } s m args below meth c H locs cells slots (MQ below (Zi D cs A hz rz) args s mc ms A) (F0 m 181 ls [])) (h : Hp) (x1 : Int32) (x2 : Int32) (x3 : Int32) (hJ : B_X10_commit_181 N k181 t0 h x1 x2 x3 = some (hz, rz)) (hk0 : h.kd t0 = 13) {H : Heap} {locs : List Loc} {cells slots : Nat} (w : Wo D cs A s h0 h H locs cells slots) {ls : Array Slot} (hl : lv_has ls 5 [(0, .ref t0), (1, .int x1), (2, .int x2), (3, .int x3)]) : W p l e { frames := 6, cells := mc, slots := ms, locals := 180 } s m args below meth c H locs cells slots (MQ below (Zi D cs A hz rz) args s mc ms A) (F0 m 181 ls []) := by
  obtain ⟨hx, hb, hml, hown, hts, -⟩ := id C
  unfold B_X10_commit_181 at hJ
  refine lv_iload_n hx hb dX10_commit_181 rfl (lv_at hl 3 rfl) ?_
  refine lv_aload_n hx hb dX10_commit_182 rfl (lv_at hl 0 rfl) ?_
  refine fg_1311 C w hk0 tw_6_174 dX10_commit_183 ?_
  refine lv_icmp_gt (tgt := 239) hx hb dX10_commit_186 (by decide) (fun c49 => ?_) (fun c49 => ?_)
  · have hJ := it_pos c49 hJ
    refine lv_iconst (v := (1 : Int32)) hx hb dX10_commit_239 (by decide) ?_
    refine lv_istore_n (i := 3) (lv' := [(3, .int (1 : Int32)), (0, .ref t0), (1, .int x1), (2, .int x2)]) hx hb dX10_commit_240 rfl hl (by decide) rfl (fun ls hl => ?_)
    exact sl_X10_commit_241 C hz2 N t0 N _ _ _ _ _ _ _ _ hJ hk0 w (lv_sub (l' := [(0, .ref t0), (1, .int x1), (3, .int (1 : Int32))]) hl [1, 2, 0] rfl)
  · have hJ := it_neg c49 hJ
    refine lv_aload_n hx hb dX10_commit_189 rfl (lv_at hl 0 rfl) ?_
    refine lv_iload_n hx hb dX10_commit_190 rfl (lv_at hl 3 rfl) ?_
    refine lv_iload_n hx hb dX10_commit_191 rfl (lv_at hl 1 rfl) ?_
    obtain ⟨⟨h50, r51⟩, e52, hJ⟩ := ob_some hJ
    refine jc_Vi (As := [.int x3, .int x1]) C w (cc_X10_precedes N t0 h x3 x1 hk0 e52) (mo_X10_precedes N t0 h x3 x1 e52) (mb_X10_commit_195 N k181 t0 _ _ _ _ _ m181 hJ) hz2 hk0 (by decide) rfl (fs := fs13 h t0) rfl rfl ⟨tw_7_158, tw_7_155, tw_7_157, ts_36, tw_1_7⟩ cd_X10_precedes ⟨by decide, by decide⟩ hl.1 (by first | exact Nat.le_of_ble_eq_true rfl | simp [rf_cat, cat_i, cat_l, cat_r]) rfl dX10_commit_192 (fun H locs w1 => ?_)
    have hk53 := kd_keep w (mo_X10_precedes N t0 h x3 x1 e52) hk0 (by decide)
    have w := w1
    exact sb_X10_commit_195 C hz2 N k181 t0 m181 i181 _ _ _ _ _ hJ hk53 w hl
def L_X10_commit_181 (N : Nat) (t0 : Nat) : Nat → Hp → Int32 → Int32 → Int32 → Option (Hp × Int32)
  | 0 => fun _ _ _ _ => none
  | n + 1 => fun h x1 x2 x3 => B_X10_commit_181 N (L_X10_commit_181 N t0 n) t0 h x1 x2 x3
theorem ml_X10_commit_181 (N : Nat) (t0 : Nat) : ∀ (n : Nat) (h : Hp) (x1 : Int32) (x2 : Int32) (x3 : Int32), L_X10_commit_181 N t0 n h x1 x2 x3 = some (hz, rz) → Mo h hz := by
  intro n
  induction n with
  | zero => intro h x1 x2 x3 hJ; cases hJ
  | succ n ih => intro h x1 x2 x3 hJ; exact mb_X10_commit_181 N (L_X10_commit_181 N t0 n) t0 h x1 x2 x3 ih hJ
theorem sl_X10_commit_181 (C : Cx p s m args meth c cX10_commit 5 (some .int) RX10 D cs A h0.se) (hz2 : hz.nx ≤ h0.nx + mc ∧ hz.su ≤ h0.su + ms) (N : Nat) (t0 : Nat) : ∀ n : Nat, ∀ (h : Hp) (x1 : Int32) (x2 : Int32) (x3 : Int32) (H : Heap) (locs : List Loc) (cells slots : Nat) (ls : Array Slot), L_X10_commit_181 N t0 n h x1 x2 x3 = some (hz, rz) → h.kd t0 = 13 → Wo D cs A s h0 h H locs cells slots → lv_has ls 5 [(0, .ref t0), (1, .int x1), (2, .int x2), (3, .int x3)] → W p l e { frames := 6, cells := mc, slots := ms, locals := 180 } s m args below meth c H locs cells slots (MQ below (Zi D cs A hz rz) args s mc ms A) (F0 m 181 ls []) := by
  intro n
  induction n with
  | zero => intro h x1 x2 x3 H locs cells slots ls hJ; cases hJ
  | succ n ih =>
    intro h x1 x2 x3 H locs cells slots ls hJ hk0 w hl
    exact sb_X10_commit_181 C hz2 N (L_X10_commit_181 N t0 n) t0 (ml_X10_commit_181 N t0 n) ih h x1 x2 x3 hJ hk0 w hl
def B_X10_commit_76 (N : Nat) (k76 : Hp → Int32 → Int32 → Int32 → Option (Hp × Int32)) (t0 : Nat) (h : Hp) (x1 : Int32) (x2 : Int32) (x3 : Int32) : Option (Hp × Int32) := if (h.gi 1353 t0) ≤ x3 then (L_X10_commit_181 N t0 N h x1 x2 (1 : Int32)) else (dr h 30 (h.gr 1352 t0) (fun a55 => ck (¬ (x3 < 0 ∨ h.al a55 ≤ x3.toNatClampNeg)) ((J_X10_ownOf N t0 h x1 (h.bi a55 x3.toNatClampNeg)).bind (fun z => B_X10_commit_95 N k76 t0 z.1 x1 x2 x3 z.2))))
theorem mb_X10_commit_76 (N : Nat) (k76 : Hp → Int32 → Int32 → Int32 → Option (Hp × Int32)) (t0 : Nat) (h : Hp) (x1 : Int32) (x2 : Int32) (x3 : Int32) (m76 : ∀ (h : Hp) (x1 : Int32) (x2 : Int32) (x3 : Int32), k76 h x1 x2 x3 = some (hz, rz) → Mo h hz) (hJ : B_X10_commit_76 N k76 t0 h x1 x2 x3 = some (hz, rz)) : Mo h hz := by
  unfold B_X10_commit_76 at hJ
  by_cases c54 : (h.gi 1353 t0) ≤ x3
  · have hJ := it_pos c54 hJ
    exact ml_X10_commit_181 N t0 N _ _ _ _ hJ
  · have hJ := it_neg c54 hJ
    obtain ⟨a55, ea55, -, hJ⟩ := dr_some hJ
    obtain ⟨-, hJ⟩ := ck_some hJ
    obtain ⟨⟨h57, r58⟩, e59, hJ⟩ := ob_some hJ
    exact (mo_X10_ownOf N t0 h x1 (h.bi a55 x3.toNatClampNeg) e59).tr (mb_X10_commit_95 N k76 t0 _ _ _ _ _ m76 hJ)
set_option maxRecDepth 100000 in
set_option maxHeartbeats 4000000 in
theorem sb_X10_commit_76 (C : Cx p s m args meth c cX10_commit 5 (some .int) RX10 D cs A h0.se) (hz2 : hz.nx ≤ h0.nx + mc ∧ hz.su ≤ h0.su + ms) (N : Nat) (k76 : Hp → Int32 → Int32 → Int32 → Option (Hp × Int32)) (t0 : Nat) (m76 : ∀ (h : Hp) (x1 : Int32) (x2 : Int32) (x3 : Int32), k76 h x1 x2 x3 = some (hz, rz) → Mo h hz) (i76 : ∀ (h : Hp) (x1 : Int32) (x2 : Int32) (x3 : Int32) (H : Heap) (locs : List Loc) (cells slots : Nat) (ls : Array Slot), k76 h x1 x2 x3 = some (hz, rz) → h.kd t0 = 13 → Wo D cs A s h0 h H locs cells slots → lv_has ls 5 [(0, .ref t0), (1, .int x1), (2, .int x2), (3, .int x3)] → W p l e { frames := 6, cells := mc, slots := ms, locals := 180 } s m args below meth c H locs cells slots (MQ below (Zi D cs A hz rz) args s mc ms A) (F0 m 76 ls [])) (h : Hp) (x1 : Int32) (x2 : Int32) (x3 : Int32) (hJ : B_X10_commit_76 N k76 t0 h x1 x2 x3 = some (hz, rz)) (hk0 : h.kd t0 = 13) {H : Heap} {locs : List Loc} {cells slots : Nat} (w : Wo D cs A s h0 h H locs cells slots) {ls : Array Slot} (hl : lv_has ls 5 [(0, .ref t0), (1, .int x1), (2, .int x2), (3, .int x3)]) : W p l e { frames := 6, cells := mc, slots := ms, locals := 180 } s m args below meth c H locs cells slots (MQ below (Zi D cs A hz rz) args s mc ms A) (F0 m 76 ls []) := by
  obtain ⟨hx, hb, hml, hown, hts, -⟩ := id C
  unfold B_X10_commit_76 at hJ
  refine lv_iload_n hx hb dX10_commit_76 rfl (lv_at hl 3 rfl) ?_
  refine lv_aload_n hx hb dX10_commit_77 rfl (lv_at hl 0 rfl) ?_
  refine fg_1353 C w hk0 tw_6_216 dX10_commit_78 ?_
  refine lv_icmp_ge (tgt := 179) hx hb dX10_commit_81 (by decide) (fun c54 => ?_) (fun c54 => ?_)
  · have hJ := it_pos c54 hJ
    refine lv_iconst (v := (1 : Int32)) hx hb dX10_commit_179 (by decide) ?_
    refine lv_istore_n (i := 3) (lv' := [(3, .int (1 : Int32)), (0, .ref t0), (1, .int x1), (2, .int x2)]) hx hb dX10_commit_180 rfl hl (by decide) rfl (fun ls hl => ?_)
    exact sl_X10_commit_181 C hz2 N t0 N _ _ _ _ _ _ _ _ _ hJ hk0 w (lv_sub (l' := [(0, .ref t0), (1, .int x1), (2, .int x2), (3, .int (1 : Int32))]) hl [1, 2, 3, 0] rfl)
  · have hJ := it_neg c54 hJ
    refine lv_aload_n hx hb dX10_commit_84 rfl (lv_at hl 0 rfl) ?_
    refine lv_iload_n hx hb dX10_commit_85 rfl (lv_at hl 1 rfl) ?_
    refine lv_aload_n hx hb dX10_commit_86 rfl (lv_at hl 0 rfl) ?_
    refine fg_1352 C w hk0 tw_6_215 dX10_commit_87 ?_
    refine lv_iload_n hx hb dX10_commit_90 rfl (lv_at hl 3 rfl) ?_
    obtain ⟨a55, ea55, hka55, hJ⟩ := dr_some hJ
    rw [ea55]
    obtain ⟨hi56, hJ⟩ := ck_some hJ
    refine jr_ialdM C w hka55 hi56 dX10_commit_91 ?_
    obtain ⟨⟨h57, r58⟩, e59, hJ⟩ := ob_some hJ
    refine jc_Vi (As := [.int x1, .int (h.bi a55 x3.toNatClampNeg)]) C w (cc_X10_ownOf N t0 h x1 (h.bi a55 x3.toNatClampNeg) hk0 e59) (mo_X10_ownOf N t0 h x1 (h.bi a55 x3.toNatClampNeg) e59) (mb_X10_commit_95 N k76 t0 _ _ _ _ _ m76 hJ) hz2 hk0 (by decide) rfl (fs := fs13 h t0) rfl rfl ⟨tw_7_186, tw_7_183, tw_7_185, ts_42, tw_1_7⟩ cd_X10_ownOf ⟨by decide, by decide⟩ hl.1 (by first | exact Nat.le_of_ble_eq_true rfl | simp [rf_cat, cat_i, cat_l, cat_r]) rfl dX10_commit_92 (fun H locs w1 => ?_)
    have hk60 := kd_keep w (mo_X10_ownOf N t0 h x1 (h.bi a55 x3.toNatClampNeg) e59) hk0 (by decide)
    have w := w1
    exact sb_X10_commit_95 C hz2 N k76 t0 m76 i76 _ _ _ _ _ hJ hk60 w hl
def L_X10_commit_76 (N : Nat) (t0 : Nat) : Nat → Hp → Int32 → Int32 → Int32 → Option (Hp × Int32)
  | 0 => fun _ _ _ _ => none
  | n + 1 => fun h x1 x2 x3 => B_X10_commit_76 N (L_X10_commit_76 N t0 n) t0 h x1 x2 x3
theorem ml_X10_commit_76 (N : Nat) (t0 : Nat) : ∀ (n : Nat) (h : Hp) (x1 : Int32) (x2 : Int32) (x3 : Int32), L_X10_commit_76 N t0 n h x1 x2 x3 = some (hz, rz) → Mo h hz := by
  intro n
  induction n with
  | zero => intro h x1 x2 x3 hJ; cases hJ
  | succ n ih => intro h x1 x2 x3 hJ; exact mb_X10_commit_76 N (L_X10_commit_76 N t0 n) t0 h x1 x2 x3 ih hJ
theorem sl_X10_commit_76 (C : Cx p s m args meth c cX10_commit 5 (some .int) RX10 D cs A h0.se) (hz2 : hz.nx ≤ h0.nx + mc ∧ hz.su ≤ h0.su + ms) (N : Nat) (t0 : Nat) : ∀ n : Nat, ∀ (h : Hp) (x1 : Int32) (x2 : Int32) (x3 : Int32) (H : Heap) (locs : List Loc) (cells slots : Nat) (ls : Array Slot), L_X10_commit_76 N t0 n h x1 x2 x3 = some (hz, rz) → h.kd t0 = 13 → Wo D cs A s h0 h H locs cells slots → lv_has ls 5 [(0, .ref t0), (1, .int x1), (2, .int x2), (3, .int x3)] → W p l e { frames := 6, cells := mc, slots := ms, locals := 180 } s m args below meth c H locs cells slots (MQ below (Zi D cs A hz rz) args s mc ms A) (F0 m 76 ls []) := by
  intro n
  induction n with
  | zero => intro h x1 x2 x3 H locs cells slots ls hJ; cases hJ
  | succ n ih =>
    intro h x1 x2 x3 H locs cells slots ls hJ hk0 w hl
    exact sb_X10_commit_76 C hz2 N (L_X10_commit_76 N t0 n) t0 (ml_X10_commit_76 N t0 n) ih h x1 x2 x3 hJ hk0 w hl
def B_X10_commit_74 (N : Nat) (t0 : Nat) (h : Hp) (x1 : Int32) (x2 : Int32) : Option (Hp × Int32) := L_X10_commit_76 N t0 N h x1 x2 (0 : Int32)
theorem mb_X10_commit_74 (N : Nat) (t0 : Nat) (h : Hp) (x1 : Int32) (x2 : Int32) (hJ : B_X10_commit_74 N t0 h x1 x2 = some (hz, rz)) : Mo h hz := by
  unfold B_X10_commit_74 at hJ
  exact ml_X10_commit_76 N t0 N _ _ _ _ hJ
set_option maxRecDepth 100000 in
set_option maxHeartbeats 4000000 in
theorem sb_X10_commit_74 (C : Cx p s m args meth c cX10_commit 5 (some .int) RX10 D cs A h0.se) (hz2 : hz.nx ≤ h0.nx + mc ∧ hz.su ≤ h0.su + ms) (N : Nat) (t0 : Nat) (h : Hp) (x1 : Int32) (x2 : Int32) (hJ : B_X10_commit_74 N t0 h x1 x2 = some (hz, rz)) (hk0 : h.kd t0 = 13) {H : Heap} {locs : List Loc} {cells slots : Nat} (w : Wo D cs A s h0 h H locs cells slots) {ls : Array Slot} (hl : lv_has ls 5 [(0, .ref t0), (1, .int x1), (2, .int x2)]) : W p l e { frames := 6, cells := mc, slots := ms, locals := 180 } s m args below meth c H locs cells slots (MQ below (Zi D cs A hz rz) args s mc ms A) (F0 m 74 ls []) := by
  obtain ⟨hx, hb, hml, hown, hts, -⟩ := id C
  unfold B_X10_commit_74 at hJ
  refine lv_iconst (v := (0 : Int32)) hx hb dX10_commit_74 (by decide) ?_
  refine lv_istore_n (i := 3) (lv' := [(3, .int (0 : Int32)), (0, .ref t0), (1, .int x1), (2, .int x2)]) hx hb dX10_commit_75 rfl hl (by decide) rfl (fun ls hl => ?_)
  exact sl_X10_commit_76 C hz2 N t0 N _ _ _ _ _ _ _ _ _ hJ hk0 w (lv_sub (l' := [(0, .ref t0), (1, .int x1), (2, .int x2), (3, .int (0 : Int32))]) hl [1, 2, 3, 0] rfl)
def B_X10_commit_25 (N : Nat) (t0 : Nat) (h : Hp) (x1 : Int32) (y0 : Int32) : Option (Hp × Int32) := if y0 = 0 then (dr h 30 (h.gr 1301 t0) (fun a62 => ck (¬ (x1 < 0 ∨ h.al a62 ≤ x1.toNatClampNeg)) (dr (h.sbi a62 x1.toNatClampNeg (2 : Int32)) 30 ((h.sbi a62 x1.toNatClampNeg (2 : Int32)).gr 1304 t0) (fun a64 => ck (¬ (x1 < 0 ∨ (h.sbi a62 x1.toNatClampNeg (2 : Int32)).al a64 ≤ x1.toNatClampNeg)) (dr ((h.sbi a62 x1.toNatClampNeg (2 : Int32)).sbi a64 x1.toNatClampNeg (((h.sbi a62 x1.toNatClampNeg (2 : Int32)).gi 1312 t0) + (1 : Int32))) 30 (((h.sbi a62 x1.toNatClampNeg (2 : Int32)).sbi a64 x1.toNatClampNeg (((h.sbi a62 x1.toNatClampNeg (2 : Int32)).gi 1312 t0) + (1 : Int32))).gr 1306 t0) (fun a66 => ck (¬ (x1 < 0 ∨ ((h.sbi a62 x1.toNatClampNeg (2 : Int32)).sbi a64 x1.toNatClampNeg (((h.sbi a62 x1.toNatClampNeg (2 : Int32)).gi 1312 t0) + (1 : Int32))).al a66 ≤ x1.toNatClampNeg)) ((J_X10_gatherKeys N t0 (((h.sbi a62 x1.toNatClampNeg (2 : Int32)).sbi a64 x1.toNatClampNeg (((h.sbi a62 x1.toNatClampNeg (2 : Int32)).gi 1312 t0) + (1 : Int32))).sbi a66 x1.toNatClampNeg (((h.sbi a62 x1.toNatClampNeg (2 : Int32)).sbi a64 x1.toNatClampNeg (((h.sbi a62 x1.toNatClampNeg (2 : Int32)).gi 1312 t0) + (1 : Int32))).gi 1313 t0))).bind (fun z => B_X10_commit_74 N t0 z.1 x1 (h.gi 1328 t0))))))))) else ((J_X10_ends N t0 h x1 (4 : Int32)).bind (fun z => B_X10_commit_34 N t0 z.1))
theorem mb_X10_commit_25 (N : Nat) (t0 : Nat) (h : Hp) (x1 : Int32) (y0 : Int32) (hJ : B_X10_commit_25 N t0 h x1 y0 = some (hz, rz)) : Mo h hz := by
  unfold B_X10_commit_25 at hJ
  by_cases c61 : y0 = 0
  · have hJ := it_pos c61 hJ
    obtain ⟨a62, ea62, -, hJ⟩ := dr_some hJ
    obtain ⟨-, hJ⟩ := ck_some hJ
    obtain ⟨a64, ea64, -, hJ⟩ := dr_some hJ
    obtain ⟨-, hJ⟩ := ck_some hJ
    obtain ⟨a66, ea66, -, hJ⟩ := dr_some hJ
    obtain ⟨-, hJ⟩ := ck_some hJ
    obtain ⟨⟨h68, r69⟩, e70, hJ⟩ := ob_some hJ
    exact (Mo.tr (show Mo h (((h.sbi a62 x1.toNatClampNeg (2 : Int32)).sbi a64 x1.toNatClampNeg (((h.sbi a62 x1.toNatClampNeg (2 : Int32)).gi 1312 t0) + (1 : Int32))).sbi a66 x1.toNatClampNeg (((h.sbi a62 x1.toNatClampNeg (2 : Int32)).sbi a64 x1.toNatClampNeg (((h.sbi a62 x1.toNatClampNeg (2 : Int32)).gi 1312 t0) + (1 : Int32))).gi 1313 t0)) from ⟨fun _ _ => rfl, Nat.le_refl _, Nat.le_refl _, rfl, fun _ _ => rfl⟩) ((mo_X10_gatherKeys N t0 (((h.sbi a62 x1.toNatClampNeg (2 : Int32)).sbi a64 x1.toNatClampNeg (((h.sbi a62 x1.toNatClampNeg (2 : Int32)).gi 1312 t0) + (1 : Int32))).sbi a66 x1.toNatClampNeg (((h.sbi a62 x1.toNatClampNeg (2 : Int32)).sbi a64 x1.toNatClampNeg (((h.sbi a62 x1.toNatClampNeg (2 : Int32)).gi 1312 t0) + (1 : Int32))).gi 1313 t0)) e70).tr (mb_X10_commit_74 N t0 _ _ _ hJ)))
  · have hJ := it_neg c61 hJ
    obtain ⟨⟨h72, r73⟩, e74, hJ⟩ := ob_some hJ
    exact (mo_X10_ends N t0 h x1 (4 : Int32) e74).tr (mb_X10_commit_34 N t0 _ hJ)
set_option maxRecDepth 100000 in
set_option maxHeartbeats 4000000 in
theorem sb_X10_commit_25 (C : Cx p s m args meth c cX10_commit 5 (some .int) RX10 D cs A h0.se) (hz2 : hz.nx ≤ h0.nx + mc ∧ hz.su ≤ h0.su + ms) (N : Nat) (t0 : Nat) (h : Hp) (x1 : Int32) (y0 : Int32) (hJ : B_X10_commit_25 N t0 h x1 y0 = some (hz, rz)) (hk0 : h.kd t0 = 13) {H : Heap} {locs : List Loc} {cells slots : Nat} (w : Wo D cs A s h0 h H locs cells slots) {ls : Array Slot} (hl : lv_has ls 5 [(0, .ref t0), (1, .int x1)]) : W p l e { frames := 6, cells := mc, slots := ms, locals := 180 } s m args below meth c H locs cells slots (MQ below (Zi D cs A hz rz) args s mc ms A) (F0 m 25 ls [.int y0]) := by
  obtain ⟨hx, hb, hml, hown, hts, -⟩ := id C
  unfold B_X10_commit_25 at hJ
  refine lv_if_eq (tgt := 36) hx hb dX10_commit_25 (by decide) (fun c61 => ?_) (fun c61 => ?_)
  · have hJ := it_pos c61 hJ
    refine lv_aload_n hx hb dX10_commit_36 rfl (lv_at hl 0 rfl) ?_
    refine fg_1328 C w hk0 tw_6_191 dX10_commit_37 ?_
    refine lv_istore_n (i := 2) (lv' := [(2, .int (h.gi 1328 t0)), (0, .ref t0), (1, .int x1)]) hx hb dX10_commit_40 rfl hl (by decide) rfl (fun ls hl => ?_)
    refine lv_aload_n hx hb dX10_commit_41 rfl (lv_at hl 1 rfl) ?_
    refine fg_1301 C w hk0 tw_6_164 dX10_commit_42 ?_
    refine lv_iload_n hx hb dX10_commit_45 rfl (lv_at hl 2 rfl) ?_
    refine lv_iconst (v := (2 : Int32)) hx hb dX10_commit_46 (by decide) ?_
    obtain ⟨a62, ea62, hka62, hJ⟩ := dr_some hJ
    rw [ea62]
    obtain ⟨hi63, hJ⟩ := ck_some hJ
    refine jr_iastM C w hka62 hi63 dX10_commit_47 (fun H locs w => ?_)
    refine lv_aload_n hx hb dX10_commit_48 rfl (lv_at hl 1 rfl) ?_
    refine fg_1304 C w hk0 tw_6_167 dX10_commit_49 ?_
    refine lv_iload_n hx hb dX10_commit_52 rfl (lv_at hl 2 rfl) ?_
    refine lv_aload_n hx hb dX10_commit_53 rfl (lv_at hl 1 rfl) ?_
    refine fg_1312 C w hk0 tw_6_175 dX10_commit_54 ?_
    refine lv_iconst (v := (1 : Int32)) hx hb dX10_commit_57 (by decide) ?_
    refine lv_iadd hx hb dX10_commit_58 ?_
    obtain ⟨a64, ea64, hka64, hJ⟩ := dr_some hJ
    rw [ea64]
    obtain ⟨hi65, hJ⟩ := ck_some hJ
    refine jr_iastM C w hka64 hi65 dX10_commit_59 (fun H locs w => ?_)
    refine lv_aload_n hx hb dX10_commit_60 rfl (lv_at hl 1 rfl) ?_
    refine fg_1306 C w hk0 tw_6_169 dX10_commit_61 ?_
    refine lv_iload_n hx hb dX10_commit_64 rfl (lv_at hl 2 rfl) ?_
    refine lv_aload_n hx hb dX10_commit_65 rfl (lv_at hl 1 rfl) ?_
    refine fg_1313 C w hk0 tw_6_176 dX10_commit_66 ?_
    obtain ⟨a66, ea66, hka66, hJ⟩ := dr_some hJ
    rw [ea66]
    obtain ⟨hi67, hJ⟩ := ck_some hJ
    refine jr_iastM C w hka66 hi67 dX10_commit_69 (fun H locs w => ?_)
    refine lv_aload_n hx hb dX10_commit_70 rfl (lv_at hl 1 rfl) ?_
    obtain ⟨⟨h68, r69⟩, e70, hJ⟩ := ob_some hJ
    refine jc_Vv (As := []) C w (cc_X10_gatherKeys N t0 (((h.sbi a62 x1.toNatClampNeg (2 : Int32)).sbi a64 x1.toNatClampNeg (((h.sbi a62 x1.toNatClampNeg (2 : Int32)).gi 1312 t0) + (1 : Int32))).sbi a66 x1.toNatClampNeg (((h.sbi a62 x1.toNatClampNeg (2 : Int32)).sbi a64 x1.toNatClampNeg (((h.sbi a62 x1.toNatClampNeg (2 : Int32)).gi 1312 t0) + (1 : Int32))).gi 1313 t0)) hk0 e70) (mo_X10_gatherKeys N t0 (((h.sbi a62 x1.toNatClampNeg (2 : Int32)).sbi a64 x1.toNatClampNeg (((h.sbi a62 x1.toNatClampNeg (2 : Int32)).gi 1312 t0) + (1 : Int32))).sbi a66 x1.toNatClampNeg (((h.sbi a62 x1.toNatClampNeg (2 : Int32)).sbi a64 x1.toNatClampNeg (((h.sbi a62 x1.toNatClampNeg (2 : Int32)).gi 1312 t0) + (1 : Int32))).gi 1313 t0)) e70) (mb_X10_commit_74 N t0 _ _ _ hJ) hz2 hk0 (by decide) rfl (fs := fs13 (((h.sbi a62 x1.toNatClampNeg (2 : Int32)).sbi a64 x1.toNatClampNeg (((h.sbi a62 x1.toNatClampNeg (2 : Int32)).gi 1312 t0) + (1 : Int32))).sbi a66 x1.toNatClampNeg (((h.sbi a62 x1.toNatClampNeg (2 : Int32)).sbi a64 x1.toNatClampNeg (((h.sbi a62 x1.toNatClampNeg (2 : Int32)).gi 1312 t0) + (1 : Int32))).gi 1313 t0)) t0) rfl rfl ⟨tw_7_194, tw_7_191, tw_7_193, ts_44, tw_1_7⟩ cd_X10_gatherKeys ⟨by decide, by decide⟩ hl.1 (by first | exact Nat.le_of_ble_eq_true rfl | simp [rf_cat, cat_i, cat_l, cat_r]) rfl dX10_commit_71 (fun H locs w1 => ?_)
    have hk71 := kd_keep w (mo_X10_gatherKeys N t0 (((h.sbi a62 x1.toNatClampNeg (2 : Int32)).sbi a64 x1.toNatClampNeg (((h.sbi a62 x1.toNatClampNeg (2 : Int32)).gi 1312 t0) + (1 : Int32))).sbi a66 x1.toNatClampNeg (((h.sbi a62 x1.toNatClampNeg (2 : Int32)).sbi a64 x1.toNatClampNeg (((h.sbi a62 x1.toNatClampNeg (2 : Int32)).gi 1312 t0) + (1 : Int32))).gi 1313 t0)) e70) hk0 (by decide)
    have w := w1
    exact sb_X10_commit_74 C hz2 N t0 _ _ _ hJ hk71 w (lv_sub (l' := [(0, .ref t0), (1, .int x1), (2, .int (h.gi 1328 t0))]) hl [1, 2, 0] rfl)
  · have hJ := it_neg c61 hJ
    refine lv_aload_n hx hb dX10_commit_28 rfl (lv_at hl 0 rfl) ?_
    refine lv_iload_n hx hb dX10_commit_29 rfl (lv_at hl 1 rfl) ?_
    refine lv_iconst (v := (4 : Int32)) hx hb dX10_commit_30 (by decide) ?_
    obtain ⟨⟨h72, r73⟩, e74, hJ⟩ := ob_some hJ
    refine jc_Vv (As := [.int x1, .int (4 : Int32)]) C w (cc_X10_ends N t0 h x1 (4 : Int32) hk0 e74) (mo_X10_ends N t0 h x1 (4 : Int32) e74) (mb_X10_commit_34 N t0 _ hJ) hz2 hk0 (by decide) rfl (fs := fs13 h t0) rfl rfl ⟨tw_7_190, tw_7_187, tw_7_189, ts_43, tw_1_7⟩ cd_X10_ends ⟨by decide, by decide⟩ hl.1 (by first | exact Nat.le_of_ble_eq_true rfl | simp [rf_cat, cat_i, cat_l, cat_r]) rfl dX10_commit_31 (fun H locs w1 => ?_)
    have hk75 := kd_keep w (mo_X10_ends N t0 h x1 (4 : Int32) e74) hk0 (by decide)
    have w := w1
    exact sb_X10_commit_34 C hz2 N t0 _ hJ hk75 w (lv_sub (l' := [(0, .ref t0)]) hl [0] rfl)
def B_X10_commit_15 (N : Nat) (t0 : Nat) (h : Hp) (x1 : Int32) (y0 : Int32) : Option (Hp × Int32) := if y0 = 0 then ((J_X10_conflicts N t0 h x1).bind (fun z => B_X10_commit_25 N t0 z.1 x1 z.2)) else (some (h, (0 : Int32)))
theorem mb_X10_commit_15 (N : Nat) (t0 : Nat) (h : Hp) (x1 : Int32) (y0 : Int32) (hJ : B_X10_commit_15 N t0 h x1 y0 = some (hz, rz)) : Mo h hz := by
  unfold B_X10_commit_15 at hJ
  by_cases c76 : y0 = 0
  · have hJ := it_pos c76 hJ
    obtain ⟨⟨h77, r78⟩, e79, hJ⟩ := ob_some hJ
    exact (mo_X10_conflicts N t0 h x1 e79).tr (mb_X10_commit_25 N t0 _ _ _ hJ)
  · have hJ := it_neg c76 hJ
    obtain ⟨rfl, -⟩ := rs2 hJ
    exact ⟨fun _ _ => rfl, Nat.le_refl _, Nat.le_refl _, rfl, fun _ _ => rfl⟩
set_option maxRecDepth 100000 in
set_option maxHeartbeats 4000000 in
theorem sb_X10_commit_15 (C : Cx p s m args meth c cX10_commit 5 (some .int) RX10 D cs A h0.se) (hz2 : hz.nx ≤ h0.nx + mc ∧ hz.su ≤ h0.su + ms) (N : Nat) (t0 : Nat) (h : Hp) (x1 : Int32) (y0 : Int32) (hJ : B_X10_commit_15 N t0 h x1 y0 = some (hz, rz)) (hk0 : h.kd t0 = 13) {H : Heap} {locs : List Loc} {cells slots : Nat} (w : Wo D cs A s h0 h H locs cells slots) {ls : Array Slot} (hl : lv_has ls 5 [(0, .ref t0), (1, .int x1)]) : W p l e { frames := 6, cells := mc, slots := ms, locals := 180 } s m args below meth c H locs cells slots (MQ below (Zi D cs A hz rz) args s mc ms A) (F0 m 15 ls [.int y0]) := by
  obtain ⟨hx, hb, hml, hown, hts, -⟩ := id C
  unfold B_X10_commit_15 at hJ
  refine lv_if_eq (tgt := 20) hx hb dX10_commit_15 (by decide) (fun c76 => ?_) (fun c76 => ?_)
  · have hJ := it_pos c76 hJ
    refine lv_aload_n hx hb dX10_commit_20 rfl (lv_at hl 0 rfl) ?_
    refine lv_iload_n hx hb dX10_commit_21 rfl (lv_at hl 1 rfl) ?_
    obtain ⟨⟨h77, r78⟩, e79, hJ⟩ := ob_some hJ
    refine jc_Vi (As := [.int x1]) C w (cc_X10_conflicts N t0 h x1 hk0 e79) (mo_X10_conflicts N t0 h x1 e79) (mb_X10_commit_25 N t0 _ _ _ hJ) hz2 hk0 (by decide) rfl (fs := fs13 h t0) rfl rfl ⟨tw_7_178, tw_7_175, tw_7_177, ts_40, tw_1_7⟩ cd_X10_conflicts ⟨by decide, by decide⟩ hl.1 (by first | exact Nat.le_of_ble_eq_true rfl | simp [rf_cat, cat_i, cat_l, cat_r]) rfl dX10_commit_22 (fun H locs w1 => ?_)
    have hk80 := kd_keep w (mo_X10_conflicts N t0 h x1 e79) hk0 (by decide)
    have w := w1
    exact sb_X10_commit_25 C hz2 N t0 _ _ _ hJ hk80 w hl
  · have hJ := it_neg c76 hJ
    refine lv_iconst (v := (0 : Int32)) hx hb dX10_commit_18 (by decide) ?_
    obtain ⟨rfl, rfl⟩ := rs2 hJ
    exact jr_iret C w hz2 dX10_commit_19
def B_X10_commit_0 (N : Nat) (t0 : Nat) (h : Hp) (x1 : Int32) : Option (Hp × Int32) := (J_X10_isIdle N t0 (h.sgi 1313 t0 ((h.gi 1313 t0) + (1 : Int32))) x1).bind (fun z => B_X10_commit_15 N t0 z.1 x1 z.2)
theorem mb_X10_commit_0 (N : Nat) (t0 : Nat) (h : Hp) (x1 : Int32) (hJ : B_X10_commit_0 N t0 h x1 = some (hz, rz)) : Mo h hz := by
  unfold B_X10_commit_0 at hJ
  obtain ⟨⟨h81, r82⟩, e83, hJ⟩ := ob_some hJ
  exact (Mo.tr (show Mo h (h.sgi 1313 t0 ((h.gi 1313 t0) + (1 : Int32))) from ⟨fun _ _ => rfl, Nat.le_refl _, Nat.le_refl _, rfl, fun _ _ => rfl⟩) ((mo_X10_isIdle N t0 (h.sgi 1313 t0 ((h.gi 1313 t0) + (1 : Int32))) x1 e83).tr (mb_X10_commit_15 N t0 _ _ _ hJ)))
set_option maxRecDepth 100000 in
set_option maxHeartbeats 4000000 in
theorem sb_X10_commit_0 (C : Cx p s m args meth c cX10_commit 5 (some .int) RX10 D cs A h0.se) (hz2 : hz.nx ≤ h0.nx + mc ∧ hz.su ≤ h0.su + ms) (N : Nat) (t0 : Nat) (h : Hp) (x1 : Int32) (hJ : B_X10_commit_0 N t0 h x1 = some (hz, rz)) (hk0 : h.kd t0 = 13) {H : Heap} {locs : List Loc} {cells slots : Nat} (w : Wo D cs A s h0 h H locs cells slots) {ls : Array Slot} (hl : lv_has ls 5 [(0, .ref t0), (1, .int x1)]) : W p l e { frames := 6, cells := mc, slots := ms, locals := 180 } s m args below meth c H locs cells slots (MQ below (Zi D cs A hz rz) args s mc ms A) (F0 m 0 ls []) := by
  obtain ⟨hx, hb, hml, hown, hts, -⟩ := id C
  unfold B_X10_commit_0 at hJ
  refine lv_aload_n hx hb dX10_commit_0 rfl (lv_at hl 0 rfl) ?_
  refine lv_dup hx hb dX10_commit_1 rfl ?_
  refine fg_1313 C w hk0 tw_6_176 dX10_commit_2 ?_
  refine lv_iconst (v := (1 : Int32)) hx hb dX10_commit_5 (by decide) ?_
  refine lv_iadd hx hb dX10_commit_6 ?_
  refine fp_1313 (x := (h.gi 1313 t0) + (1 : Int32)) C w hk0 tw_6_176 dX10_commit_7 (fun H locs w => ?_)
  refine lv_aload_n hx hb dX10_commit_10 rfl (lv_at hl 0 rfl) ?_
  refine lv_iload_n hx hb dX10_commit_11 rfl (lv_at hl 1 rfl) ?_
  obtain ⟨⟨h81, r82⟩, e83, hJ⟩ := ob_some hJ
  refine jc_Vi (As := [.int x1]) C w (cc_X10_isIdle N t0 (h.sgi 1313 t0 ((h.gi 1313 t0) + (1 : Int32))) x1 hk0 e83) (mo_X10_isIdle N t0 (h.sgi 1313 t0 ((h.gi 1313 t0) + (1 : Int32))) x1 e83) (mb_X10_commit_15 N t0 _ _ _ hJ) hz2 hk0 (by decide) rfl (fs := fs13 (h.sgi 1313 t0 ((h.gi 1313 t0) + (1 : Int32))) t0) rfl rfl ⟨tw_7_174, tw_7_171, tw_7_173, ts_39, tw_1_7⟩ cd_X10_isIdle ⟨by decide, by decide⟩ hl.1 (by first | exact Nat.le_of_ble_eq_true rfl | simp [rf_cat, cat_i, cat_l, cat_r]) rfl dX10_commit_12 (fun H locs w1 => ?_)
  have hk84 := kd_keep w (mo_X10_isIdle N t0 (h.sgi 1313 t0 ((h.gi 1313 t0) + (1 : Int32))) x1 e83) hk0 (by decide)
  have w := w1
  exact sb_X10_commit_15 C hz2 N t0 _ _ _ hJ hk84 w hl
def J_X10_commit (N : Nat) (t0 : Nat) (h : Hp) (x1 : Int32) : Option (Hp × Int32) := B_X10_commit_0 N t0 h x1
theorem mo_X10_commit (N : Nat) (t0 : Nat) (h : Hp) (x1 : Int32) (hJ : J_X10_commit N t0 h x1 = some (hz, rz)) : Mo h hz := mb_X10_commit_0 N t0 h x1 hJ
theorem cd_X10_commit : Cd yX10_commit 1 := ⟨by decide +kernel, by decide +kernel, by decide +kernel⟩
theorem cc_X10_commit (N : Nat) (t0 : Nat) (h : Hp) (x1 : Int32) (hk0 : h.kd t0 = 13) (hJ : J_X10_commit N t0 h x1 = some (hz, rz)) : Ci l yX10_commit cX10_commit 5 (some .int) 6 180 D cs h hz [.ref t0, .int x1] rz := by
  intro mc ms g1 g2
  refine je_any (by decide) (by simp [lg_sl, rf_cat, cat_i, cat_l, cat_r]) ?_
  intro p e s m args below meth c C hin2 w ls hl
  have hl : lv_has ls 5 [(0, .ref t0), (1, .int x1)] := hl
  exact sb_X10_commit_0 C ⟨g1, g2⟩ N t0 h x1 hJ hk0 w hl
end G_X10_commit
