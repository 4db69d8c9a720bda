section G_X3_keptAbove
variable {p : Program} {l : Launch} {e : Env} {s : State} {m : MethodId} {args : Array Value} {below : List Frame} {meth : Method} {c : Code} {D : va_G} {cs : C4} {A : Nat → Prop} {h0 hz : Hp} {mc ms : Nat} {rz : Int32}
def B_X3_keptAbove_48 (N : Nat) (t0 : Nat) (h : Hp) (y0 : Int32) : Option (Hp × Int32) := some (h, y0)
theorem mb_X3_keptAbove_48 (N : Nat) (t0 : Nat) (h : Hp) (y0 : Int32) (hJ : B_X3_keptAbove_48 N t0 h y0 = some (hz, rz)) : Mo h hz := by
  unfold B_X3_keptAbove_48 at hJ
  obtain ⟨rfl, -⟩ := rs2 hJ
  exact ⟨fun _ _ => rfl, Nat.le_refl _, Nat.le_refl _, rfl, fun _ _ => rfl⟩
set_option maxRecDepth 100000 in
set_option maxHeartbeats 4000000 in
theorem sb_X3_keptAbove_48 (C : Cx p s m args meth c cX3_keptAbove 4 (some .int) RX3 D cs A h0.se) (hz2 : hz.nx ≤ h0.nx + mc ∧ hz.su ≤ h0.su + ms) (N : Nat) (t0 : Nat) (h : Hp) (y0 : Int32) (hJ : B_X3_keptAbove_48 N t0 h y0 = some (hz, rz)) (hk0 : h.kd t0 = 6) {H : Heap} {locs : List Loc} {cells slots : Nat} (w : Wo D cs A s h0 h H locs cells slots) {ls : Array Slot} (hl : lv_has ls 4 [(0, .ref t0)]) : W p l e { frames := 0, cells := mc, slots := ms, locals := 0 } s m args below meth c H locs cells slots (MQ below (Zi D cs A hz rz) args s mc ms A) (F0 m 48 ls [.int y0]) := by
  obtain ⟨hx, hb, hml, hown, hts, -⟩ := id C
  unfold B_X3_keptAbove_48 at hJ
  obtain ⟨rfl, rfl⟩ := rs2 hJ
  exact jr_iret C w hz2 dX3_keptAbove_48
def B_X3_keptAbove_47 (N : Nat) (t0 : Nat) (h : Hp) (x2 : Int32) : Option (Hp × Int32) := B_X3_keptAbove_48 N t0 h x2
theorem mb_X3_keptAbove_47 (N : Nat) (t0 : Nat) (h : Hp) (x2 : Int32) (hJ : B_X3_keptAbove_47 N t0 h x2 = some (hz, rz)) : Mo h hz := by
  unfold B_X3_keptAbove_47 at hJ
  exact mb_X3_keptAbove_48 N t0 _ _ hJ
set_option maxRecDepth 100000 in
set_option maxHeartbeats 4000000 in
theorem sb_X3_keptAbove_47 (C : Cx p s m args meth c cX3_keptAbove 4 (some .int) RX3 D cs A h0.se) (hz2 : hz.nx ≤ h0.nx + mc ∧ hz.su ≤ h0.su + ms) (N : Nat) (t0 : Nat) (h : Hp) (x2 : Int32) (hJ : B_X3_keptAbove_47 N t0 h x2 = some (hz, rz)) (hk0 : h.kd t0 = 6) {H : Heap} {locs : List Loc} {cells slots : Nat} (w : Wo D cs A s h0 h H locs cells slots) {ls : Array Slot} (hl : lv_has ls 4 [(0, .ref t0), (2, .int x2)]) : W p l e { frames := 0, cells := mc, slots := ms, locals := 0 } s m args below meth c H locs cells slots (MQ below (Zi D cs A hz rz) args s mc ms A) (F0 m 47 ls []) := by
  obtain ⟨hx, hb, hml, hown, hts, -⟩ := id C
  unfold B_X3_keptAbove_47 at hJ
  refine lv_iload_n hx hb dX3_keptAbove_47 rfl (lv_at hl 1 rfl) ?_
  exact sb_X3_keptAbove_48 C hz2 N t0 _ _ hJ hk0 w (lv_sub (l' := [(0, .ref t0)]) hl [0] rfl)
def B_X3_keptAbove_30 (N : Nat) (t0 : Nat) (h : Hp) (x2 : Int32) (x3 : Option Nat) : Option (Hp × Int32) := nl x3 (B_X3_keptAbove_47 N t0 h x2) (fun a1 => ck (h.kd a1 = 7) (if (h.fi 702 a1) = 0 then (B_X3_keptAbove_47 N t0 h x2) else (B_X3_keptAbove_48 N t0 h (x2 + (1 : Int32)))))
theorem mb_X3_keptAbove_30 (N : Nat) (t0 : Nat) (h : Hp) (x2 : Int32) (x3 : Option Nat) (hJ : B_X3_keptAbove_30 N t0 h x2 x3 = some (hz, rz)) : Mo h hz := by
  unfold B_X3_keptAbove_30 at hJ
  cases ea1 : x3 with
  | none =>
    have hJ := nl_none ea1 hJ
    exact mb_X3_keptAbove_47 N t0 _ _ hJ
  | some a1 =>
    have hJ := nl_some ea1 hJ
    obtain ⟨-, hJ⟩ := ck_some hJ
    by_cases c3 : (h.fi 702 a1) = 0
    · have hJ := it_pos c3 hJ
      exact mb_X3_keptAbove_47 N t0 _ _ hJ
    · have hJ := it_neg c3 hJ
      exact mb_X3_keptAbove_48 N t0 _ _ hJ
set_option maxRecDepth 100000 in
set_option maxHeartbeats 4000000 in
theorem sb_X3_keptAbove_30 (C : Cx p s m args meth c cX3_keptAbove 4 (some .int) RX3 D cs A h0.se) (hz2 : hz.nx ≤ h0.nx + mc ∧ hz.su ≤ h0.su + ms) (N : Nat) (t0 : Nat) (h : Hp) (x2 : Int32) (x3 : Option Nat) (hJ : B_X3_keptAbove_30 N t0 h x2 x3 = some (hz, rz)) (hk0 : h.kd t0 = 6) {H : Heap} {locs : List Loc} {cells slots : Nat} (w : Wo D cs A s h0 h H locs cells slots) {ls : Array Slot} (hl : lv_has ls 4 [(0, .ref t0), (2, .int x2), (3, va_rf x3)]) : W p l e { frames := 0, cells := mc, slots := ms, locals := 0 } s m args below meth c H locs cells slots (MQ below (Zi D cs A hz rz) args s mc ms A) (F0 m 30 ls []) := by
  obtain ⟨hx, hb, hml, hown, hts, -⟩ := id C
  unfold B_X3_keptAbove_30 at hJ
  refine jv_aload_n hx hb dX3_keptAbove_30 rfl (lv_at hl 2 rfl) ?_
  refine jv_ifnull (tgt := 47) hx hb dX3_keptAbove_31 (by decide) (fun ea1 => ?_) (fun a1 ea1 => ?_)
  · have hJ := nl_none ea1 hJ
    exact sb_X3_keptAbove_47 C hz2 N t0 _ _ hJ hk0 w (lv_sub (l' := [(0, .ref t0), (2, .int x2)]) hl [0, 1] rfl)
  · have hJ := nl_some ea1 hJ
    rw [ea1] at hl
    refine lv_aload_n hx hb dX3_keptAbove_34 rfl (lv_at hl 2 rfl) ?_
    obtain ⟨hk2, hJ⟩ := ck_some hJ
    refine fg_702 C w hk2 tw_5_21 dX3_keptAbove_35 ?_
    refine lv_if_eq (tgt := 47) hx hb dX3_keptAbove_38 (by decide) (fun c3 => ?_) (fun c3 => ?_)
    · have hJ := it_pos c3 hJ
      exact sb_X3_keptAbove_47 C hz2 N t0 _ _ hJ hk0 w (lv_sub (l' := [(0, .ref t0), (2, .int x2)]) hl [0, 1] rfl)
    · have hJ := it_neg c3 hJ
      refine lv_iload_n hx hb dX3_keptAbove_41 rfl (lv_at hl 1 rfl) ?_
      refine lv_iconst (v := (1 : Int32)) hx hb dX3_keptAbove_42 (by decide) ?_
      refine lv_iadd hx hb dX3_keptAbove_43 ?_
      refine lv_goto (tgt := 48) hx hb dX3_keptAbove_44 (by decide) ?_
      exact sb_X3_keptAbove_48 C hz2 N t0 _ _ hJ hk0 w (lv_sub (l' := [(0, .ref t0)]) hl [0] rfl)
def B_X3_keptAbove_7 (N : Nat) (k7 : Hp → Int32 → Int32 → (Option Nat) → Option (Hp × Int32)) (t0 : Nat) (h : Hp) (x1 : Int32) (x2 : Int32) (x3 : Option Nat) : Option (Hp × Int32) := nl x3 (B_X3_keptAbove_30 N t0 h x2 x3) (fun a4 => ck (h.kd a4 = 7) (if (h.fi 700 a4) ≤ x1 then (B_X3_keptAbove_30 N t0 h x2 (some a4)) else (k7 h x1 (x2 + (1 : Int32)) (h.fr 704 a4))))
theorem mb_X3_keptAbove_7 (N : Nat) (k7 : Hp → Int32 → Int32 → (Option Nat) → Option (Hp × Int32)) (t0 : Nat) (h : Hp) (x1 : Int32) (x2 : Int32) (x3 : Option Nat) (m7 : ∀ (h : Hp) (x1 : Int32) (x2 : Int32) (x3 : Option Nat), k7 h x1 x2 x3 = some (hz, rz) → Mo h hz) (hJ : B_X3_keptAbove_7 N k7 t0 h x1 x2 x3 = some (hz, rz)) : Mo h hz := by
  unfold B_X3_keptAbove_7 at hJ
  cases ea4 : x3 with
  | none =>
    have hJ := nl_none ea4 hJ
    exact mb_X3_keptAbove_30 N t0 _ _ _ hJ
  | some a4 =>
    have hJ := nl_some ea4 hJ
    obtain ⟨-, hJ⟩ := ck_some hJ
    by_cases c6 : (h.fi 700 a4) ≤ x1
    · have hJ := it_pos c6 hJ
      exact mb_X3_keptAbove_30 N t0 _ _ _ hJ
    · have hJ := it_neg c6 hJ
      exact m7 _ _ _ _ hJ
set_option maxRecDepth 100000 in
set_option maxHeartbeats 4000000 in
theorem sb_X3_keptAbove_7 (C : Cx p s m args meth c cX3_keptAbove 4 (some .int) RX3 D cs A h0.se) (hz2 : hz.nx ≤ h0.nx + mc ∧ hz.su ≤ h0.su + ms) (N : Nat) (k7 : Hp → Int32 → Int32 → (Option Nat) → Option (Hp × Int32)) (t0 : Nat) (m7 : ∀ (h : Hp) (x1 : Int32) (x2 : Int32) (x3 : Option Nat), k7 h x1 x2 x3 = some (hz, rz) → Mo h hz) (i7 : ∀ (h : Hp) (x1 : Int32) (x2 : Int32) (x3 : Option Nat) (H : Heap) (locs : List Loc) (cells slots : Nat) (ls : Array Slot), k7 h x1 x2 x3 = some (hz, rz) → h.kd t0 = 6 → Wo D cs A s h0 h H locs cells slots → lv_has ls 4 [(0, .ref t0), (1, .int x1), (2, .int x2), (3, va_rf x3)] → W p l e { frames := 0, cells := mc, slots := ms, locals := 0 } s m args below meth c H locs cells slots (MQ below (Zi D cs A hz rz) args s mc ms A) (F0 m 7 ls [])) (h : Hp) (x1 : Int32) (x2 : Int32) (x3 : Option Nat) (hJ : B_X3_keptAbove_7 N k7 t0 h x1 x2 x3 = some (hz, rz)) (hk0 : h.kd t0 = 6) {H : Heap} {locs : List Loc} {cells slots : Nat} (w : Wo D cs A s h0 h H locs cells slots) {ls : Array Slot} (hl : lv_has ls 4 [(0, .ref t0), (1, .int x1), (2, .int x2), (3, va_rf x3)]) : W p l e { frames := 0, cells := mc, slots := ms, locals := 0 } s m args below meth c H locs cells slots (MQ below (Zi D cs A hz rz) args s mc ms A) (F0 m 7 ls []) := by
  obtain ⟨hx, hb, hml, hown, hts, -⟩ := id C
  unfold B_X3_keptAbove_7 at hJ
  refine jv_aload_n hx hb dX3_keptAbove_7 rfl (lv_at hl 3 rfl) ?_
  refine jv_ifnull (tgt := 30) hx hb dX3_keptAbove_8 (by decide) (fun ea4 => ?_) (fun a4 ea4 => ?_)
  · have hJ := nl_none ea4 hJ
    exact sb_X3_keptAbove_30 C hz2 N t0 _ _ _ hJ hk0 w (lv_sub (l' := [(0, .ref t0), (2, .int x2), (3, va_rf x3)]) hl [0, 2, 3] rfl)
  · have hJ := nl_some ea4 hJ
    rw [ea4] at hl
    refine lv_aload_n hx hb dX3_keptAbove_11 rfl (lv_at hl 3 rfl) ?_
    obtain ⟨hk5, hJ⟩ := ck_some hJ
    refine fg_700 C w hk5 tw_5_15 dX3_keptAbove_12 ?_
    refine lv_iload_n hx hb dX3_keptAbove_15 rfl (lv_at hl 1 rfl) ?_
    refine lv_icmp_le (tgt := 30) hx hb dX3_keptAbove_16 (by decide) (fun c6 => ?_) (fun c6 => ?_)
    · have hJ := it_pos c6 hJ
      exact sb_X3_keptAbove_30 C hz2 N t0 _ _ _ hJ hk0 w (lv_sub (l' := [(0, .ref t0), (2, .int x2), (3, .ref a4)]) hl [0, 2, 3] rfl)
    · have hJ := it_neg c6 hJ
      refine lv_iinc (v := x2 + (1 : Int32)) (lv' := [(2, .int (x2 + (1 : Int32))), (0, .ref t0), (1, .int x1), (3, .ref a4)]) hx hb dX3_keptAbove_19 hl (k := 2) rfl rfl (by decide) rfl (fun ls hl => ?_)
      refine lv_aload_n hx hb dX3_keptAbove_22 rfl (lv_at hl 3 rfl) ?_
      refine fg_704 C w hk5 tw_5_30 dX3_keptAbove_23 ?_
      refine jv_astore_n (i := 3) (lv' := [(3, va_rf (h.fr 704 a4)), (2, .int (x2 + (1 : Int32))), (0, .ref t0), (1, .int x1)]) hx hb dX3_keptAbove_26 rfl hl (by decide) rfl (fun ls hl => ?_)
      refine lv_goto (tgt := 7) hx hb dX3_keptAbove_27 (by decide) ?_
      exact i7 _ _ _ _ _ _ _ _ _ hJ hk0 w (lv_sub (l' := [(0, .ref t0), (1, .int x1), (2, .int (x2 + (1 : Int32))), (3, va_rf (h.fr 704 a4))]) hl [2, 3, 1, 0] rfl)
def L_X3_keptAbove_7 (N : Nat) (t0 : Nat) : Nat → Hp → Int32 → Int32 → (Option Nat) → Option (Hp × Int32)
  | 0 => fun _ _ _ _ => none
  | n + 1 => fun h x1 x2 x3 => B_X3_keptAbove_7 N (L_X3_keptAbove_7 N t0 n) t0 h x1 x2 x3
theorem ml_X3_keptAbove_7 (N : Nat) (t0 : Nat) : ∀ (n : Nat) (h : Hp) (x1 : Int32) (x2 : Int32) (x3 : Option Nat), L_X3_keptAbove_7 N t0 n h x1 x2 x3 = some (hz, rz) → Mo h hz := by
  intro n
  induction n with
  | zero => intro h x1 x2 x3 hJ; cases hJ
  | succ n ih => intro h x1 x2 x3 hJ; exact mb_X3_keptAbove_7 N (L_X3_keptAbove_7 N t0 n) t0 h x1 x2 x3 ih hJ
theorem sl_X3_keptAbove_7 (C : Cx p s m args meth c cX3_keptAbove 4 (some .int) RX3 D cs A h0.se) (hz2 : hz.nx ≤ h0.nx + mc ∧ hz.su ≤ h0.su + ms) (N : Nat) (t0 : Nat) : ∀ n : Nat, ∀ (h : Hp) (x1 : Int32) (x2 : Int32) (x3 : Option Nat) (H : Heap) (locs : List Loc) (cells slots : Nat) (ls : Array Slot), L_X3_keptAbove_7 N t0 n h x1 x2 x3 = some (hz, rz) → h.kd t0 = 6 → Wo D cs A s h0 h H locs cells slots → lv_has ls 4 [(0, .ref t0), (1, .int x1), (2, .int x2), (3, va_rf x3)] → W p l e { frames := 0, cells := mc, slots := ms, locals := 0 } s m args below meth c H locs cells slots (MQ below (Zi D cs A hz rz) args s mc ms A) (F0 m 7 ls []) := by
  intro n
  induction n with
  | zero => intro h x1 x2 x3 H locs cells slots ls hJ; cases hJ
  | succ n ih =>
    intro h x1 x2 x3 H locs cells slots ls hJ hk0 w hl
    exact sb_X3_keptAbove_7 C hz2 N (L_X3_keptAbove_7 N t0 n) t0 (ml_X3_keptAbove_7 N t0 n) ih h x1 x2 x3 hJ hk0 w hl
def B_X3_keptAbove_0 (N : Nat) (t0 : Nat) (h : Hp) (x1 : Int32) : Option (Hp × Int32) := L_X3_keptAbove_7 N t0 N h x1 (0 : Int32) (h.fr 601 t0)
theorem mb_X3_keptAbove_0 (N : Nat) (t0 : Nat) (h : Hp) (x1 : Int32) (hJ : B_X3_keptAbove_0 N t0 h x1 = some (hz, rz)) : Mo h hz := by
  unfold B_X3_keptAbove_0 at hJ
  exact ml_X3_keptAbove_7 N t0 N _ _ _ _ hJ
set_option maxRecDepth 100000 in
set_option maxHeartbeats 4000000 in
theorem sb_X3_keptAbove_0 (C : Cx p s m args meth c cX3_keptAbove 4 (some .int) RX3 D cs A h0.se) (hz2 : hz.nx ≤ h0.nx + mc ∧ hz.su ≤ h0.su + ms) (N : Nat) (t0 : Nat) (h : Hp) (x1 : Int32) (hJ : B_X3_keptAbove_0 N t0 h x1 = some (hz, rz)) (hk0 : h.kd t0 = 6) {H : Heap} {locs : List Loc} {cells slots : Nat} (w : Wo D cs A s h0 h H locs cells slots) {ls : Array Slot} (hl : lv_has ls 4 [(0, .ref t0), (1, .int x1)]) : W p l e { frames := 0, cells := mc, slots := ms, locals := 0 } s m args below meth c H locs cells slots (MQ below (Zi D cs A hz rz) args s mc ms A) (F0 m 0 ls []) := by
  obtain ⟨hx, hb, hml, hown, hts, -⟩ := id C
  unfold B_X3_keptAbove_0 at hJ
  refine lv_iconst (v := (0 : Int32)) hx hb dX3_keptAbove_0 (by decide) ?_
  refine lv_istore_n (i := 2) (lv' := [(2, .int (0 : Int32)), (0, .ref t0), (1, .int x1)]) hx hb dX3_keptAbove_1 rfl hl (by decide) rfl (fun ls hl => ?_)
  refine lv_aload_n hx hb dX3_keptAbove_2 rfl (lv_at hl 1 rfl) ?_
  refine fg_601 C w hk0 tw_3_152 dX3_keptAbove_3 ?_
  refine jv_astore_n (i := 3) (lv' := [(3, va_rf (h.fr 601 t0)), (2, .int (0 : Int32)), (0, .ref t0), (1, .int x1)]) hx hb dX3_keptAbove_6 rfl hl (by decide) rfl (fun ls hl => ?_)
  exact sl_X3_keptAbove_7 C hz2 N t0 N _ _ _ _ _ _ _ _ _ hJ hk0 w (lv_sub (l' := [(0, .ref t0), (1, .int x1), (2, .int (0 : Int32)), (3, va_rf (h.fr 601 t0))]) hl [2, 3, 1, 0] rfl)
def J_X3_keptAbove (N : Nat) (t0 : Nat) (h : Hp) (x1 : Int32) : Option (Hp × Int32) := B_X3_keptAbove_0 N t0 h x1
theorem mo_X3_keptAbove (N : Nat) (t0 : Nat) (h : Hp) (x1 : Int32) (hJ : J_X3_keptAbove N t0 h x1 = some (hz, rz)) : Mo h hz := mb_X3_keptAbove_0 N t0 h x1 hJ
theorem cd_X3_keptAbove : Cd yX3_keptAbove 1 := ⟨by decide +kernel, by decide +kernel, by decide +kernel⟩
theorem cc_X3_keptAbove (N : Nat) (t0 : Nat) (h : Hp) (x1 : Int32) (hk0 : h.kd t0 = 6) (hJ : J_X3_keptAbove N t0 h x1 = some (hz, rz)) : Ci l yX3_keptAbove cX3_keptAbove 4 (some .int) 0 0 D cs h hz [.ref t0, .int x1] rz := by
  intro mc ms g1 g2
  refine je_any (by decide) (by simp [lg_sl, rf_cat, cat_i, cat_l, cat_r]) ?_
  intro p e s m args below meth c C hin2 w ls hl
  have hl : lv_has ls 4 [(0, .ref t0), (1, .int x1)] := hl
  exact sb_X3_keptAbove_0 C ⟨g1, g2⟩ N t0 h x1 hJ hk0 w hl
end G_X3_keptAbove
section G_X3_upTo
variable {p : Program} {l : Launch} {e : Env} {s : State} {m : MethodId} {args : Array Value} {below : List Frame} {meth : Method} {c : Code} {D : va_G} {cs : C4} {A : Nat → Prop} {h0 hz : Hp} {mc ms : Nat} {rz : Option Nat}
def B_X3_upTo_25 (N : Nat) (t0 : Nat) (h : Hp) (x2 : Option Nat) : Option (Hp × Option Nat) := some (h, x2)
theorem mb_X3_upTo_25 (N : Nat) (t0 : Nat) (h : Hp) (x2 : Option Nat) (hJ : B_X3_upTo_25 N t0 h x2 = some (hz, rz)) : Mo h hz := by
  unfold B_X3_upTo_25 at hJ
  obtain ⟨rfl, -⟩ := rs2 hJ
  exact ⟨fun _ _ => rfl, Nat.le_refl _, Nat.le_refl _, rfl, fun _ _ => rfl⟩
set_option maxRecDepth 100000 in
set_option maxHeartbeats 4000000 in
theorem sb_X3_upTo_25 (C : Cx p s m args meth c cX3_upTo 3 (some (.object "RingKeeper$Entry")) RX3 D cs A h0.se) (hz2 : hz.nx ≤ h0.nx + mc ∧ hz.su ≤ h0.su + ms) (N : Nat) (t0 : Nat) (h : Hp) (x2 : Option Nat) (hJ : B_X3_upTo_25 N t0 h x2 = some (hz, rz)) (hk0 : h.kd t0 = 6) {H : Heap} {locs : List Loc} {cells slots : Nat} (w : Wo D cs A s h0 h H locs cells slots) {ls : Array Slot} (hl : lv_has ls 3 [(0, .ref t0), (2, va_rf x2)]) : W p l e { frames := 0, cells := mc, slots := ms, locals := 0 } s m args below meth c H locs cells slots (MQ below (Zq D cs A hz rz) args s mc ms A) (F0 m 25 ls []) := by
  obtain ⟨hx, hb, hml, hown, hts, -⟩ := id C
  unfold B_X3_upTo_25 at hJ
  refine jv_aload_n hx hb dX3_upTo_25 rfl (lv_at hl 1 rfl) ?_
  obtain ⟨rfl, rfl⟩ := rs2 hJ
  exact jr_aret (r := x2) C w (Or.inl ⟨_, rfl⟩) hz2 dX3_upTo_26
def B_X3_upTo_5 (N : Nat) (k5 : Hp → Int32 → (Option Nat) → Option (Hp × Option Nat)) (t0 : Nat) (h : Hp) (x1 : Int32) (x2 : Option Nat) : Option (Hp × Option Nat) := nl x2 (B_X3_upTo_25 N t0 h x2) (fun a1 => ck (h.kd a1 = 7) (if (h.fi 700 a1) ≤ x1 then (B_X3_upTo_25 N t0 h (some a1)) else (k5 h x1 (h.fr 704 a1))))
theorem mb_X3_upTo_5 (N : Nat) (k5 : Hp → Int32 → (Option Nat) → Option (Hp × Option Nat)) (t0 : Nat) (h : Hp) (x1 : Int32) (x2 : Option Nat) (m5 : ∀ (h : Hp) (x1 : Int32) (x2 : Option Nat), k5 h x1 x2 = some (hz, rz) → Mo h hz) (hJ : B_X3_upTo_5 N k5 t0 h x1 x2 = some (hz, rz)) : Mo h hz := by
  unfold B_X3_upTo_5 at hJ
  cases ea1 : x2 with
  | none =>
    have hJ := nl_none ea1 hJ
    exact mb_X3_upTo_25 N t0 _ _ hJ
  | some a1 =>
    have hJ := nl_some ea1 hJ
    obtain ⟨-, hJ⟩ := ck_some hJ
    by_cases c3 : (h.fi 700 a1) ≤ x1
    · have hJ := it_pos c3 hJ
      exact mb_X3_upTo_25 N t0 _ _ hJ
    · have hJ := it_neg c3 hJ
      exact m5 _ _ _ hJ
set_option maxRecDepth 100000 in
set_option maxHeartbeats 4000000 in
theorem sb_X3_upTo_5 (C : Cx p s m args meth c cX3_upTo 3 (some (.object "RingKeeper$Entry")) RX3 D cs A h0.se) (hz2 : hz.nx ≤ h0.nx + mc ∧ hz.su ≤ h0.su + ms) (N : Nat) (k5 : Hp → Int32 → (Option Nat) → Option (Hp × Option Nat)) (t0 : Nat) (m5 : ∀ (h : Hp) (x1 : Int32) (x2 : Option Nat), k5 h x1 x2 = some (hz, rz) → Mo h hz) (i5 : ∀ (h : Hp) (x1 : Int32) (x2 : Option Nat) (H : Heap) (locs : List Loc) (cells slots : Nat) (ls : Array Slot), k5 h x1 x2 = some (hz, rz) → h.kd t0 = 6 → Wo D cs A s h0 h H locs cells slots → lv_has ls 3 [(0, .ref t0), (1, .int x1), (2, va_rf x2)] → W p l e { frames := 0, cells := mc, slots := ms, locals := 0 } s m args below meth c H locs cells slots (MQ below (Zq D cs A hz rz) args s mc ms A) (F0 m 5 ls [])) (h : Hp) (x1 : Int32) (x2 : Option Nat) (hJ : B_X3_upTo_5 N k5 t0 h x1 x2 = some (hz, rz)) (hk0 : h.kd t0 = 6) {H : Heap} {locs : List Loc} {cells slots : Nat} (w : Wo D cs A s h0 h H locs cells slots) {ls : Array Slot} (hl : lv_has ls 3 [(0, .ref t0), (1, .int x1), (2, va_rf x2)]) : W p l e { frames := 0, cells := mc, slots := ms, locals := 0 } s m args below meth c H locs cells slots (MQ below (Zq D cs A hz rz) args s mc ms A) (F0 m 5 ls []) := by
  obtain ⟨hx, hb, hml, hown, hts, -⟩ := id C
  unfold B_X3_upTo_5 at hJ
  refine jv_aload_n hx hb dX3_upTo_5 rfl (lv_at hl 2 rfl) ?_
  refine jv_ifnull (tgt := 25) hx hb dX3_upTo_6 (by decide) (fun ea1 => ?_) (fun a1 ea1 => ?_)
  · have hJ := nl_none ea1 hJ
    exact sb_X3_upTo_25 C hz2 N t0 _ _ hJ hk0 w (lv_sub (l' := [(0, .ref t0), (2, va_rf x2)]) hl [0, 2] rfl)
  · have hJ := nl_some ea1 hJ
    rw [ea1] at hl
    refine lv_aload_n hx hb dX3_upTo_9 rfl (lv_at hl 2 rfl) ?_
    obtain ⟨hk2, hJ⟩ := ck_some hJ
    refine fg_700 C w hk2 tw_5_15 dX3_upTo_10 ?_
    refine lv_iload_n hx hb dX3_upTo_13 rfl (lv_at hl 1 rfl) ?_
    refine lv_icmp_le (tgt := 25) hx hb dX3_upTo_14 (by decide) (fun c3 => ?_) (fun c3 => ?_)
    · have hJ := it_pos c3 hJ
      exact sb_X3_upTo_25 C hz2 N t0 _ _ hJ hk0 w (lv_sub (l' := [(0, .ref t0), (2, .ref a1)]) hl [0, 2] rfl)
    · have hJ := it_neg c3 hJ
      refine lv_aload_n hx hb dX3_upTo_17 rfl (lv_at hl 2 rfl) ?_
      refine fg_704 C w hk2 tw_5_30 dX3_upTo_18 ?_
      refine jv_astore_n (i := 2) (lv' := [(2, va_rf (h.fr 704 a1)), (0, .ref t0), (1, .int x1)]) hx hb dX3_upTo_21 rfl hl (by decide) rfl (fun ls hl => ?_)
      refine lv_goto (tgt := 5) hx hb dX3_upTo_22 (by decide) ?_
      exact i5 _ _ _ _ _ _ _ _ hJ hk0 w (lv_sub (l' := [(0, .ref t0), (1, .int x1), (2, va_rf (h.fr 704 a1))]) hl [1, 2, 0] rfl)
def L_X3_upTo_5 (N : Nat) (t0 : Nat) : Nat → Hp → Int32 → (Option Nat) → Option (Hp × Option Nat)
  | 0 => fun _ _ _ => none
  | n + 1 => fun h x1 x2 => B_X3_upTo_5 N (L_X3_upTo_5 N t0 n) t0 h x1 x2
theorem ml_X3_upTo_5 (N : Nat) (t0 : Nat) : ∀ (n : Nat) (h : Hp) (x1 : Int32) (x2 : Option Nat), L_X3_upTo_5 N t0 n h x1 x2 = some (hz, rz) → Mo h hz := by
  intro n
  induction n with
  | zero => intro h x1 x2 hJ; cases hJ
  | succ n ih => intro h x1 x2 hJ; exact mb_X3_upTo_5 N (L_X3_upTo_5 N t0 n) t0 h x1 x2 ih hJ
theorem sl_X3_upTo_5 (C : Cx p s m args meth c cX3_upTo 3 (some (.object "RingKeeper$Entry")) RX3 D cs A h0.se) (hz2 : hz.nx ≤ h0.nx + mc ∧ hz.su ≤ h0.su + ms) (N : Nat) (t0 : Nat) : ∀ n : Nat, ∀ (h : Hp) (x1 : Int32) (x2 : Option Nat) (H : Heap) (locs : List Loc) (cells slots : Nat) (ls : Array Slot), L_X3_upTo_5 N t0 n h x1 x2 = some (hz, rz) → h.kd t0 = 6 → Wo D cs A s h0 h H locs cells slots → lv_has ls 3 [(0, .ref t0), (1, .int x1), (2, va_rf x2)] → W p l e { frames := 0, cells := mc, slots := ms, locals := 0 } s m args below meth c H locs cells slots (MQ below (Zq D cs A hz rz) args s mc ms A) (F0 m 5 ls []) := by
  intro n
  induction n with
  | zero => intro h x1 x2 H locs cells slots ls hJ; cases hJ
  | succ n ih =>
    intro h x1 x2 H locs cells slots ls hJ hk0 w hl
    exact sb_X3_upTo_5 C hz2 N (L_X3_upTo_5 N t0 n) t0 (ml_X3_upTo_5 N t0 n) ih h x1 x2 hJ hk0 w hl
def B_X3_upTo_0 (N : Nat) (t0 : Nat) (h : Hp) (x1 : Int32) : Option (Hp × Option Nat) := L_X3_upTo_5 N t0 N h x1 (h.fr 601 t0)
theorem mb_X3_upTo_0 (N : Nat) (t0 : Nat) (h : Hp) (x1 : Int32) (hJ : B_X3_upTo_0 N t0 h x1 = some (hz, rz)) : Mo h hz := by
  unfold B_X3_upTo_0 at hJ
  exact ml_X3_upTo_5 N t0 N _ _ _ hJ
set_option maxRecDepth 100000 in
set_option maxHeartbeats 4000000 in
theorem sb_X3_upTo_0 (C : Cx p s m args meth c cX3_upTo 3 (some (.object "RingKeeper$Entry")) RX3 D cs A h0.se) (hz2 : hz.nx ≤ h0.nx + mc ∧ hz.su ≤ h0.su + ms) (N : Nat) (t0 : Nat) (h : Hp) (x1 : Int32) (hJ : B_X3_upTo_0 N t0 h x1 = some (hz, rz)) (hk0 : h.kd t0 = 6) {H : Heap} {locs : List Loc} {cells slots : Nat} (w : Wo D cs A s h0 h H locs cells slots) {ls : Array Slot} (hl : lv_has ls 3 [(0, .ref t0), (1, .int x1)]) : W p l e { frames := 0, cells := mc, slots := ms, locals := 0 } s m args below meth c H locs cells slots (MQ below (Zq D cs A hz rz) args s mc ms A) (F0 m 0 ls []) := by
  obtain ⟨hx, hb, hml, hown, hts, -⟩ := id C
  unfold B_X3_upTo_0 at hJ
  refine lv_aload_n hx hb dX3_upTo_0 rfl (lv_at hl 0 rfl) ?_
  refine fg_601 C w hk0 tw_3_152 dX3_upTo_1 ?_
  refine jv_astore_n (i := 2) (lv' := [(2, va_rf (h.fr 601 t0)), (0, .ref t0), (1, .int x1)]) hx hb dX3_upTo_4 rfl hl (by decide) rfl (fun ls hl => ?_)
  exact sl_X3_upTo_5 C hz2 N t0 N _ _ _ _ _ _ _ _ hJ hk0 w (lv_sub (l' := [(0, .ref t0), (1, .int x1), (2, va_rf (h.fr 601 t0))]) hl [1, 2, 0] rfl)
def J_X3_upTo (N : Nat) (t0 : Nat) (h : Hp) (x1 : Int32) : Option (Hp × Option Nat) := B_X3_upTo_0 N t0 h x1
theorem mo_X3_upTo (N : Nat) (t0 : Nat) (h : Hp) (x1 : Int32) (hJ : J_X3_upTo N t0 h x1 = some (hz, rz)) : Mo h hz := mb_X3_upTo_0 N t0 h x1 hJ
theorem cd_X3_upTo : Cd yX3_upTo 1 := ⟨by decide +kernel, by decide +kernel, by decide +kernel⟩
theorem cc_X3_upTo (N : Nat) (t0 : Nat) (h : Hp) (x1 : Int32) (hk0 : h.kd t0 = 6) (hJ : J_X3_upTo N t0 h x1 = some (hz, rz)) : Cq l yX3_upTo cX3_upTo 3 (some (.object "RingKeeper$Entry")) 0 0 D cs h hz [.ref t0, .int x1] rz := by
  intro mc ms g1 g2
  refine je_any (by decide) (by simp [lg_sl, rf_cat, cat_i, cat_l, cat_r]) ?_
  intro p e s m args below meth c C hin2 w ls hl
  have hl : lv_has ls 3 [(0, .ref t0), (1, .int x1)] := hl
  exact sb_X3_upTo_0 C ⟨g1, g2⟩ N t0 h x1 hJ hk0 w hl
end G_X3_upTo
section G_X3_firstAfter
variable {p : Program} {l : Launch} {e : Env} {s : State} {m : MethodId} {args : Array Value} {below : List Frame} {meth : Method} {c : Code} {D : va_G} {cs : C4} {A : Nat → Prop} {h0 hz : Hp} {mc ms : Nat} {rz : Option Nat}
def B_X3_firstAfter_29 (N : Nat) (t0 : Nat) (h : Hp) (x2 : Option Nat) : Option (Hp × Option Nat) := some (h, x2)
theorem mb_X3_firstAfter_29 (N : Nat) (t0 : Nat) (h : Hp) (x2 : Option Nat) (hJ : B_X3_firstAfter_29 N t0 h x2 = some (hz, rz)) : Mo h hz := by
  unfold B_X3_firstAfter_29 at hJ
  obtain ⟨rfl, -⟩ := rs2 hJ
  exact ⟨fun _ _ => rfl, Nat.le_refl _, Nat.le_refl _, rfl, fun _ _ => rfl⟩
set_option maxRecDepth 100000 in
set_option maxHeartbeats 4000000 in
theorem sb_X3_firstAfter_29 (C : Cx p s m args meth c cX3_firstAfter 4 (some (.object "RingKeeper$Entry")) RX3 D cs A h0.se) (hz2 : hz.nx ≤ h0.nx + mc ∧ hz.su ≤ h0.su + ms) (N : Nat) (t0 : Nat) (h : Hp) (x2 : Option Nat) (hJ : B_X3_firstAfter_29 N t0 h x2 = some (hz, rz)) (hk0 : h.kd t0 = 6) {H : Heap} {locs : List Loc} {cells slots : Nat} (w : Wo D cs A s h0 h H locs cells slots) {ls : Array Slot} (hl : lv_has ls 4 [(0, .ref t0), (2, va_rf x2)]) : W p l e { frames := 0, cells := mc, slots := ms, locals := 0 } s m args below meth c H locs cells slots (MQ below (Zq D cs A hz rz) args s mc ms A) (F0 m 29 ls []) := by
  obtain ⟨hx, hb, hml, hown, hts, -⟩ := id C
  unfold B_X3_firstAfter_29 at hJ
  refine jv_aload_n hx hb dX3_firstAfter_29 rfl (lv_at hl 1 rfl) ?_
  obtain ⟨rfl, rfl⟩ := rs2 hJ
  exact jr_aret (r := x2) C w (Or.inl ⟨_, rfl⟩) hz2 dX3_firstAfter_30
def B_X3_firstAfter_7 (N : Nat) (k7 : Hp → Int32 → (Option Nat) → (Option Nat) → Option (Hp × Option Nat)) (t0 : Nat) (h : Hp) (x1 : Int32) (x2 : Option Nat) (x3 : Option Nat) : Option (Hp × Option Nat) := nl x3 (B_X3_firstAfter_29 N t0 h x2) (fun a1 => ck (h.kd a1 = 7) (if (h.fi 700 a1) ≤ x1 then (B_X3_firstAfter_29 N t0 h x2) else (k7 h x1 (some a1) (h.fr 704 a1))))
theorem mb_X3_firstAfter_7 (N : Nat) (k7 : Hp → Int32 → (Option Nat) → (Option Nat) → Option (Hp × Option Nat)) (t0 : Nat) (h : Hp) (x1 : Int32) (x2 : Option Nat) (x3 : Option Nat) (m7 : ∀ (h : Hp) (x1 : Int32) (x2 : Option Nat) (x3 : Option Nat), k7 h x1 x2 x3 = some (hz, rz) → Mo h hz) (hJ : B_X3_firstAfter_7 N k7 t0 h x1 x2 x3 = some (hz, rz)) : Mo h hz := by
  unfold B_X3_firstAfter_7 at hJ
  cases ea1 : x3 with
  | none =>
    have hJ := nl_none ea1 hJ
    exact mb_X3_firstAfter_29 N t0 _ _ hJ
  | some a1 =>
    have hJ := nl_some ea1 hJ
    obtain ⟨-, hJ⟩ := ck_some hJ
    by_cases c3 : (h.fi 700 a1) ≤ x1
    · have hJ := it_pos c3 hJ
      exact mb_X3_firstAfter_29 N t0 _ _ hJ
    · have hJ := it_neg c3 hJ
      exact m7 _ _ _ _ hJ
set_option maxRecDepth 100000 in
set_option maxHeartbeats 4000000 in
theorem sb_X3_firstAfter_7 (C : Cx p s m args meth c cX3_firstAfter 4 (some (.object "RingKeeper$Entry")) RX3 D cs A h0.se) (hz2 : hz.nx ≤ h0.nx + mc ∧ hz.su ≤ h0.su + ms) (N : Nat) (k7 : Hp → Int32 → (Option Nat) → (Option Nat) → Option (Hp × Option Nat)) (t0 : Nat) (m7 : ∀ (h : Hp) (x1 : Int32) (x2 : Option Nat) (x3 : Option Nat), k7 h x1 x2 x3 = some (hz, rz) → Mo h hz) (i7 : ∀ (h : Hp) (x1 : Int32) (x2 : Option Nat) (x3 : Option Nat) (H : Heap) (locs : List Loc) (cells slots : Nat) (ls : Array Slot), k7 h x1 x2 x3 = some (hz, rz) → h.kd t0 = 6 → Wo D cs A s h0 h H locs cells slots → lv_has ls 4 [(0, .ref t0), (1, .int x1), (2, va_rf x2), (3, va_rf x3)] → W p l e { frames := 0, cells := mc, slots := ms, locals := 0 } s m args below meth c H locs cells slots (MQ below (Zq D cs A hz rz) args s mc ms A) (F0 m 7 ls [])) (h : Hp) (x1 : Int32) (x2 : Option Nat) (x3 : Option Nat) (hJ : B_X3_firstAfter_7 N k7 t0 h x1 x2 x3 = some (hz, rz)) (hk0 : h.kd t0 = 6) {H : Heap} {locs : List Loc} {cells slots : Nat} (w : Wo D cs A s h0 h H locs cells slots) {ls : Array Slot} (hl : lv_has ls 4 [(0, .ref t0), (1, .int x1), (2, va_rf x2), (3, va_rf x3)]) : W p l e { frames := 0, cells := mc, slots := ms, locals := 0 } s m args below meth c H locs cells slots (MQ below (Zq D cs A hz rz) args s mc ms A) (F0 m 7 ls []) := by
  obtain ⟨hx, hb, hml, hown, hts, -⟩ := id C
  unfold B_X3_firstAfter_7 at hJ
  refine jv_aload_n hx hb dX3_firstAfter_7 rfl (lv_at hl 3 rfl) ?_
  refine jv_ifnull (tgt := 29) hx hb dX3_firstAfter_8 (by decide) (fun ea1 => ?_) (fun a1 ea1 => ?_)
  · have hJ := nl_none ea1 hJ
    exact sb_X3_firstAfter_29 C hz2 N t0 _ _ hJ hk0 w (lv_sub (l' := [(0, .ref t0), (2, va_rf x2)]) hl [0, 2] rfl)
  · have hJ := nl_some ea1 hJ
    rw [ea1] at hl
    refine lv_aload_n hx hb dX3_firstAfter_11 rfl (lv_at hl 3 rfl) ?_
    obtain ⟨hk2, hJ⟩ := ck_some hJ
    refine fg_700 C w hk2 tw_5_15 dX3_firstAfter_12 ?_
    refine lv_iload_n hx hb dX3_firstAfter_15 rfl (lv_at hl 1 rfl) ?_
    refine lv_icmp_le (tgt := 29) hx hb dX3_firstAfter_16 (by decide) (fun c3 => ?_) (fun c3 => ?_)
    · have hJ := it_pos c3 hJ
      exact sb_X3_firstAfter_29 C hz2 N t0 _ _ hJ hk0 w (lv_sub (l' := [(0, .ref t0), (2, va_rf x2)]) hl [0, 2] rfl)
    · have hJ := it_neg c3 hJ
      refine lv_aload_n hx hb dX3_firstAfter_19 rfl (lv_at hl 3 rfl) ?_
      refine lv_astore_n (i := 2) (lv' := [(2, .ref a1), (0, .ref t0), (1, .int x1), (3, .ref a1)]) hx hb dX3_firstAfter_20 rfl hl (by decide) rfl (fun ls hl => ?_)
      refine lv_aload_n hx hb dX3_firstAfter_21 rfl (lv_at hl 3 rfl) ?_
      refine fg_704 C w hk2 tw_5_30 dX3_firstAfter_22 ?_
      refine jv_astore_n (i := 3) (lv' := [(3, va_rf (h.fr 704 a1)), (2, .ref a1), (0, .ref t0), (1, .int x1)]) hx hb dX3_firstAfter_25 rfl hl (by decide) rfl (fun ls hl => ?_)
      refine lv_goto (tgt := 7) hx hb dX3_firstAfter_26 (by decide) ?_
      exact i7 _ _ _ _ _ _ _ _ _ hJ hk0 w (lv_sub (l' := [(0, .ref t0), (1, .int x1), (2, .ref a1), (3, va_rf (h.fr 704 a1))]) hl [2, 3, 1, 0] rfl)
def L_X3_firstAfter_7 (N : Nat) (t0 : Nat) : Nat → Hp → Int32 → (Option Nat) → (Option Nat) → Option (Hp × Option Nat)
  | 0 => fun _ _ _ _ => none
  | n + 1 => fun h x1 x2 x3 => B_X3_firstAfter_7 N (L_X3_firstAfter_7 N t0 n) t0 h x1 x2 x3
theorem ml_X3_firstAfter_7 (N : Nat) (t0 : Nat) : ∀ (n : Nat) (h : Hp) (x1 : Int32) (x2 : Option Nat) (x3 : Option Nat), L_X3_firstAfter_7 N t0 n h x1 x2 x3 = some (hz, rz) → Mo h hz := by
  intro n
  induction n with
  | zero => intro h x1 x2 x3 hJ; cases hJ
  | succ n ih => intro h x1 x2 x3 hJ; exact mb_X3_firstAfter_7 N (L_X3_firstAfter_7 N t0 n) t0 h x1 x2 x3 ih hJ
theorem sl_X3_firstAfter_7 (C : Cx p s m args meth c cX3_firstAfter 4 (some (.object "RingKeeper$Entry")) RX3 D cs A h0.se) (hz2 : hz.nx ≤ h0.nx + mc ∧ hz.su ≤ h0.su + ms) (N : Nat) (t0 : Nat) : ∀ n : Nat, ∀ (h : Hp) (x1 : Int32) (x2 : Option Nat) (x3 : Option Nat) (H : Heap) (locs : List Loc) (cells slots : Nat) (ls : Array Slot), L_X3_firstAfter_7 N t0 n h x1 x2 x3 = some (hz, rz) → h.kd t0 = 6 → Wo D cs A s h0 h H locs cells slots → lv_has ls 4 [(0, .ref t0), (1, .int x1), (2, va_rf x2), (3, va_rf x3)] → W p l e { frames := 0, cells := mc, slots := ms, locals := 0 } s m args below meth c H locs cells slots (MQ below (Zq D cs A hz rz) args s mc ms A) (F0 m 7 ls []) := by
  intro n
  induction n with
  | zero => intro h x1 x2 x3 H locs cells slots ls hJ; cases hJ
  | succ n ih =>
    intro h x1 x2 x3 H locs cells slots ls hJ hk0 w hl
    exact sb_X3_firstAfter_7 C hz2 N (L_X3_firstAfter_7 N t0 n) t0 (ml_X3_firstAfter_7 N t0 n) ih h x1 x2 x3 hJ hk0 w hl
def B_X3_firstAfter_0 (N : Nat) (t0 : Nat) (h : Hp) (x1 : Int32) : Option (Hp × Option Nat) := L_X3_firstAfter_7 N t0 N h x1 none (h.fr 601 t0)
theorem mb_X3_firstAfter_0 (N : Nat) (t0 : Nat) (h : Hp) (x1 : Int32) (hJ : B_X3_firstAfter_0 N t0 h x1 = some (hz, rz)) : Mo h hz := by
  unfold B_X3_firstAfter_0 at hJ
  exact ml_X3_firstAfter_7 N t0 N _ _ _ _ hJ
set_option maxRecDepth 100000 in
set_option maxHeartbeats 4000000 in
theorem sb_X3_firstAfter_0 (C : Cx p s m args meth c cX3_firstAfter 4 (some (.object "RingKeeper$Entry")) RX3 D cs A h0.se) (hz2 : hz.nx ≤ h0.nx + mc ∧ hz.su ≤ h0.su + ms) (N : Nat) (t0 : Nat) (h : Hp) (x1 : Int32) (hJ : B_X3_firstAfter_0 N t0 h x1 = some (hz, rz)) (hk0 : h.kd t0 = 6) {H : Heap} {locs : List Loc} {cells slots : Nat} (w : Wo D cs A s h0 h H locs cells slots) {ls : Array Slot} (hl : lv_has ls 4 [(0, .ref t0), (1, .int x1)]) : W p l e { frames := 0, cells := mc, slots := ms, locals := 0 } s m args below meth c H locs cells slots (MQ below (Zq D cs A hz rz) args s mc ms A) (F0 m 0 ls []) := by
  obtain ⟨hx, hb, hml, hown, hts, -⟩ := id C
  unfold B_X3_firstAfter_0 at hJ
  refine lv_null hx hb dX3_firstAfter_0 ?_
  change W _ _ _ _ _ _ _ _ _ _ _ _ _ _ _ (F0 m 1 ls [va_rf none])
  refine jv_astore_n (i := 2) (lv' := [(2, va_rf none), (0, .ref t0), (1, .int x1)]) hx hb dX3_firstAfter_1 rfl hl (by decide) rfl (fun ls hl => ?_)
  refine lv_aload_n hx hb dX3_firstAfter_2 rfl (lv_at hl 1 rfl) ?_
  refine fg_601 C w hk0 tw_3_152 dX3_firstAfter_3 ?_
  refine jv_astore_n (i := 3) (lv' := [(3, va_rf (h.fr 601 t0)), (2, va_rf none), (0, .ref t0), (1, .int x1)]) hx hb dX3_firstAfter_6 rfl hl (by decide) (by simp [List.filter, rf_cat, cat_i, cat_l, cat_r]) (fun ls hl => ?_)
  exact sl_X3_firstAfter_7 C hz2 N t0 N _ _ _ _ _ _ _ _ _ hJ hk0 w (lv_sub (l' := [(0, .ref t0), (1, .int x1), (2, va_rf none), (3, va_rf (h.fr 601 t0))]) hl [2, 3, 1, 0] rfl)
def J_X3_firstAfter (N : Nat) (t0 : Nat) (h : Hp) (x1 : Int32) : Option (Hp × Option Nat) := B_X3_firstAfter_0 N t0 h x1
theorem mo_X3_firstAfter (N : Nat) (t0 : Nat) (h : Hp) (x1 : Int32) (hJ : J_X3_firstAfter N t0 h x1 = some (hz, rz)) : Mo h hz := mb_X3_firstAfter_0 N t0 h x1 hJ
theorem cd_X3_firstAfter : Cd yX3_firstAfter 1 := ⟨by decide +kernel, by decide +kernel, by decide +kernel⟩
theorem cc_X3_firstAfter (N : Nat) (t0 : Nat) (h : Hp) (x1 : Int32) (hk0 : h.kd t0 = 6) (hJ : J_X3_firstAfter N t0 h x1 = some (hz, rz)) : Cq l yX3_firstAfter cX3_firstAfter 4 (some (.object "RingKeeper$Entry")) 0 0 D cs h hz [.ref t0, .int x1] rz := by
  intro mc ms g1 g2
  refine je_any (by decide) (by simp [lg_sl, rf_cat, cat_i, cat_l, cat_r]) ?_
  intro p e s m args below meth c C hin2 w ls hl
  have hl : lv_has ls 4 [(0, .ref t0), (1, .int x1)] := hl
  exact sb_X3_firstAfter_0 C ⟨g1, g2⟩ N t0 h x1 hJ hk0 w hl
end G_X3_firstAfter
section G_X3_init
variable {p : Program} {l : Launch} {e : Env} {s : State} {m : MethodId} {args : Array Value} {below : List Frame} {meth : Method} {c : Code} {D : va_G} {cs : C4} {A : Nat → Prop} {h0 hz : Hp} {mc ms : Nat}
def B_X3_init_0 (N : Nat) (t0 : Nat) (h : Hp) (x1 : Int32) : Option (Hp × Unit) := some ((h.sfr 601 t0 none).sfi 600 t0 x1, ())
theorem mb_X3_init_0 (N : Nat) (t0 : Nat) (h : Hp) (x1 : Int32) (hJ : B_X3_init_0 N t0 h x1 = some (hz, ())) : Mo h hz := by
  unfold B_X3_init_0 at hJ
  obtain ⟨rfl, -⟩ := rs2 hJ
  exact ⟨fun _ _ => rfl, Nat.le_refl _, Nat.le_refl _, rfl, fun _ _ => rfl⟩
set_option maxRecDepth 100000 in
set_option maxHeartbeats 4000000 in
theorem sb_X3_init_0 (C : Cx p s m args meth c cX3_init 2 none RX3 D cs A h0.se) (hin2 : meth.name = "<init>") (hz2 : hz.nx ≤ h0.nx + mc ∧ hz.su ≤ h0.su + ms) (N : Nat) (t0 : Nat) (h : Hp) (x1 : Int32) (hJ : B_X3_init_0 N t0 h x1 = some (hz, ())) (hk0 : h.kd t0 = 6) {H : Heap} {locs : List Loc} {cells slots : Nat} (w : Wo D cs A s h0 h H locs cells slots) {ls : Array Slot} (hl : lv_has ls 2 [(0, .ref t0), (1, .int x1)]) : W p l e { frames := 1, cells := mc, slots := ms, locals := 40 } s m args below meth c H locs cells slots (MQ below (Zv D cs A hz) args s mc ms A) (F0 m 0 ls []) := by
  obtain ⟨hx, hb, hml, hown, hts, -⟩ := id C
  unfold B_X3_init_0 at hJ
  refine lv_aload_n hx hb dX3_init_0 rfl (lv_at hl 0 rfl) ?_
  refine jc_O C tw_3_146 tw_1_41 tw_obj hl.1 (by first | exact Nat.le_of_ble_eq_true rfl | simp [rf_cat, cat_i, cat_l, cat_r]) (by decide) dX3_init_1 ?_
  refine lv_aload_n hx hb dX3_init_4 rfl (lv_at hl 0 rfl) ?_
  refine lv_null hx hb dX3_init_5 ?_
  change W _ _ _ _ _ _ _ _ _ _ _ _ _ _ _ (F0 m 6 ls [va_rf none, .ref t0])
  refine fp_601 (x := none) C w hk0 tw_3_152 dX3_init_6 (fun H locs w => ?_)
  refine lv_aload_n hx hb dX3_init_9 rfl (lv_at hl 0 rfl) ?_
  refine lv_iload_n hx hb dX3_init_10 rfl (lv_at hl 1 rfl) ?_
  refine fp_600 (x := x1) C hin2 w hk0 tw_3_147 dX3_init_11 (fun H locs w => ?_)
  obtain ⟨rfl, -⟩ := rs2 hJ
  exact jr_vret C w hz2 dX3_init_14
def J_X3_init (N : Nat) (t0 : Nat) (h : Hp) (x1 : Int32) : Option (Hp × Unit) := B_X3_init_0 N t0 h x1
theorem mo_X3_init (N : Nat) (t0 : Nat) (h : Hp) (x1 : Int32) (hJ : J_X3_init N t0 h x1 = some (hz, ())) : Mo h hz := mb_X3_init_0 N t0 h x1 hJ
theorem cd_X3_init : Cd yX3_init 1 := ⟨by decide +kernel, by decide +kernel, by decide +kernel⟩
theorem cc_X3_init (N : Nat) (t0 : Nat) (h : Hp) (x1 : Int32) (hk0 : h.kd t0 = 6) (hJ : J_X3_init N t0 h x1 = some (hz, ())) : Cv l yX3_init cX3_init 2 none 1 40 D cs h hz [.ref t0, .int x1] := by
  intro mc ms g1 g2
  refine je_any (by decide) (by simp [lg_sl, rf_cat, cat_i, cat_l, cat_r]) ?_
  intro p e s m args below meth c C hin2 w ls hl
  have hl : lv_has ls 2 [(0, .ref t0), (1, .int x1)] := hl
  exact sb_X3_init_0 C hin2 ⟨g1, g2⟩ N t0 h x1 hJ hk0 w hl
end G_X3_init
section G_X3_dropAfter
variable {p : Program} {l : Launch} {e : Env} {s : State} {m : MethodId} {args : Array Value} {below : List Frame} {meth : Method} {c : Code} {D : va_G} {cs : C4} {A : Nat → Prop} {h0 hz : Hp} {mc ms : Nat}
def B_X3_dropAfter_6 (N : Nat) (t0 : Nat) (h : Hp) (y0 : Option Nat) (y1 : Option Nat) : Option (Hp × Unit) := dr h 6 y0 (fun a1 => some (h.sfr 601 a1 y1, ()))
theorem mb_X3_dropAfter_6 (N : Nat) (t0 : Nat) (h : Hp) (y0 : Option Nat) (y1 : Option Nat) (hJ : B_X3_dropAfter_6 N t0 h y0 y1 = some (hz, ())) : Mo h hz := by
  unfold B_X3_dropAfter_6 at hJ
  obtain ⟨a1, ea1, -, hJ⟩ := dr_some hJ
  obtain ⟨rfl, -⟩ := rs2 hJ
  exact ⟨fun _ _ => rfl, Nat.le_refl _, Nat.le_refl _, rfl, fun _ _ => rfl⟩
set_option maxRecDepth 100000 in
set_option maxHeartbeats 4000000 in
theorem sb_X3_dropAfter_6 (C : Cx p s m args meth c cX3_dropAfter 2 none RX3 D cs A h0.se) (hz2 : hz.nx ≤ h0.nx + mc ∧ hz.su ≤ h0.su + ms) (N : Nat) (t0 : Nat) (h : Hp) (y0 : Option Nat) (y1 : Option Nat) (hJ : B_X3_dropAfter_6 N t0 h y0 y1 = some (hz, ())) (hk0 : h.kd t0 = 6) {H : Heap} {locs : List Loc} {cells slots : Nat} (w : Wo D cs A s h0 h H locs cells slots) {ls : Array Slot} (hl : lv_has ls 2 [(0, .ref t0)]) : W p l e { frames := 1, cells := mc, slots := ms, locals := 30 } s m args below meth c H locs cells slots (MQ below (Zv D cs A hz) args s mc ms A) (F0 m 6 ls [va_rf y1, va_rf y0]) := by
  obtain ⟨hx, hb, hml, hown, hts, -⟩ := id C
  unfold B_X3_dropAfter_6 at hJ
  obtain ⟨a1, ea1, hka1, hJ⟩ := dr_some hJ
  rw [ea1]
  refine fp_601 (x := y1) C w hka1 tw_3_152 dX3_dropAfter_6 (fun H locs w => ?_)
  obtain ⟨rfl, -⟩ := rs2 hJ
  exact jr_vret C w hz2 dX3_dropAfter_9
def B_X3_dropAfter_0 (N : Nat) (t0 : Nat) (h : Hp) (x1 : Int32) : Option (Hp × Unit) := (J_X3_upTo N t0 h x1).bind (fun z => B_X3_dropAfter_6 N t0 z.1 (some t0) z.2)
theorem mb_X3_dropAfter_0 (N : Nat) (t0 : Nat) (h : Hp) (x1 : Int32) (hJ : B_X3_dropAfter_0 N t0 h x1 = some (hz, ())) : Mo h hz := by
  unfold B_X3_dropAfter_0 at hJ
  obtain ⟨⟨h2, r3⟩, e4, hJ⟩ := ob_some hJ
  exact (mo_X3_upTo N t0 h x1 e4).tr (mb_X3_dropAfter_6 N t0 _ _ _ hJ)
set_option maxRecDepth 100000 in
set_option maxHeartbeats 4000000 in
theorem sb_X3_dropAfter_0 (C : Cx p s m args meth c cX3_dropAfter 2 none RX3 D cs A h0.se) (hz2 : hz.nx ≤ h0.nx + mc ∧ hz.su ≤ h0.su + ms) (N : Nat) (t0 : Nat) (h : Hp) (x1 : Int32) (hJ : B_X3_dropAfter_0 N t0 h x1 = some (hz, ())) (hk0 : h.kd t0 = 6) {H : Heap} {locs : List Loc} {cells slots : Nat} (w : Wo D cs A s h0 h H locs cells slots) {ls : Array Slot} (hl : lv_has ls 2 [(0, .ref t0), (1, .int x1)]) : W p l e { frames := 1, cells := mc, slots := ms, locals := 30 } s m args below meth c H locs cells slots (MQ below (Zv D cs A hz) args s mc ms A) (F0 m 0 ls []) := by
  obtain ⟨hx, hb, hml, hown, hts, -⟩ := id C
  unfold B_X3_dropAfter_0 at hJ
  refine lv_aload_n hx hb dX3_dropAfter_0 rfl (lv_at hl 0 rfl) ?_
  refine lv_aload_n hx hb dX3_dropAfter_1 rfl (lv_at hl 0 rfl) ?_
  refine lv_iload_n hx hb dX3_dropAfter_2 rfl (lv_at hl 1 rfl) ?_
  obtain ⟨⟨h2, r3⟩, e4, hJ⟩ := ob_some hJ
  refine jc_Vq (As := [.int x1]) C w (cc_X3_upTo N t0 h x1 hk0 e4) (mo_X3_upTo N t0 h x1 e4) (mb_X3_dropAfter_6 N t0 _ _ _ hJ) hz2 hk0 (by decide) rfl (fs := fs6 h t0) rfl rfl ⟨tw_3_56, tw_5_64, tw_3_54, tw_3_55, tw_1_22⟩ cd_X3_upTo ⟨by decide, by decide⟩ hl.1 (by first | exact Nat.le_of_ble_eq_true rfl | simp [rf_cat, cat_i, cat_l, cat_r]) rfl dX3_dropAfter_3 (fun H locs w1 => ?_)
  have hk5 := kd_keep w (mo_X3_upTo N t0 h x1 e4) hk0 (by decide)
  have w := w1
  exact sb_X3_dropAfter_6 C hz2 N t0 _ _ _ hJ hk5 w (lv_sub (l' := [(0, .ref t0)]) hl [0] rfl)
def J_X3_dropAfter (N : Nat) (t0 : Nat) (h : Hp) (x1 : Int32) : Option (Hp × Unit) := B_X3_dropAfter_0 N t0 h x1
theorem mo_X3_dropAfter (N : Nat) (t0 : Nat) (h : Hp) (x1 : Int32) (hJ : J_X3_dropAfter N t0 h x1 = some (hz, ())) : Mo h hz := mb_X3_dropAfter_0 N t0 h x1 hJ
theorem cd_X3_dropAfter : Cd yX3_dropAfter 1 := ⟨by decide +kernel, by decide +kernel, by decide +kernel⟩
theorem cc_X3_dropAfter (N : Nat) (t0 : Nat) (h : Hp) (x1 : Int32) (hk0 : h.kd t0 = 6) (hJ : J_X3_dropAfter N t0 h x1 = some (hz, ())) : Cv l yX3_dropAfter cX3_dropAfter 2 none 1 30 D cs h hz [.ref t0, .int x1] := by
  intro mc ms g1 g2
  refine je_any (by decide) (by simp [lg_sl, rf_cat, cat_i, cat_l, cat_r]) ?_
  intro p e s m args below meth c C hin2 w ls hl
  have hl : lv_has ls 2 [(0, .ref t0), (1, .int x1)] := hl
  exact sb_X3_dropAfter_0 C ⟨g1, g2⟩ N t0 h x1 hJ hk0 w hl
end G_X3_dropAfter
