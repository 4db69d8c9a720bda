section G_X10_isAgain
variable {p : Program} {l : Launch} {e : Env} {s : State} {m : MethodId} {args : Array Value} {below : List Frame} {meth : Method} {c : Code} {D : va_G} {cs : C4} {A : Nat → Prop} {h0 hz : Hp} {mc ms : Nat} {rz : Int32}
def B_X10_isAgain_219 (N : Nat) (t0 : Nat) (h : Hp) : Option (Hp × Int32) := some (h, (1 : Int32))
theorem mb_X10_isAgain_219 (N : Nat) (t0 : Nat) (h : Hp) (hJ : B_X10_isAgain_219 N t0 h = some (hz, rz)) : Mo h hz := by
  unfold B_X10_isAgain_219 at hJ
  obtain ⟨rfl, -⟩ := rs2 hJ
  exact ⟨fun _ _ => rfl, Nat.le_refl _, Nat.le_refl _, rfl, fun _ _ => rfl⟩
set_option maxRecDepth 100000 in
set_option maxHeartbeats 4000000 in
theorem sb_X10_isAgain_219 (C : Cx p s m args meth c cX10_isAgain 3 (some .boolean) RX10 D cs A h0.se) (hz2 : hz.nx ≤ h0.nx + mc ∧ hz.su ≤ h0.su + ms) (N : Nat) (t0 : Nat) (h : Hp) (hJ : B_X10_isAgain_219 N t0 h = some (hz, rz)) (hk0 : h.kd t0 = 13) {H : Heap} {locs : List Loc} {cells slots : Nat} (w : Wo D cs A s h0 h H locs cells slots) {ls : Array Slot} (hl : lv_has ls 3 [(0, .ref t0)]) : W p l e { frames := 3, cells := mc, slots := ms, locals := 90 } s m args below meth c H locs cells slots (MQ below (Zi D cs A hz rz) args s mc ms A) (F0 m 219 ls []) := by
  obtain ⟨hx, hb, hml, hown, hts, -⟩ := id C
  unfold B_X10_isAgain_219 at hJ
  refine lv_iconst (v := (1 : Int32)) hx hb dX10_isAgain_219 (by decide) ?_
  obtain ⟨rfl, rfl⟩ := rs2 hJ
  exact jr_zret C w (Or.inr rfl) hz2 dX10_isAgain_220
def B_X10_isAgain_183 (N : Nat) (t0 : Nat) (h : Hp) (y0 : Option Nat) (y1 : Int32) (y2 : Int32) : Option (Hp × Int32) := dr h 32 y0 (fun a1 => ck (¬ (y1 < 0 ∨ h.al a1 ≤ y1.toNatClampNeg)) (ck (y2 = 0 ∨ y2 = 1) (some ((h.sbi a1 y1.toNatClampNeg y2).sgi 1363 t0 (((h.sbi a1 y1.toNatClampNeg y2).gi 1363 t0) + (1 : Int32)), (1 : Int32)))))
theorem mb_X10_isAgain_183 (N : Nat) (t0 : Nat) (h : Hp) (y0 : Option Nat) (y1 : Int32) (y2 : Int32) (hJ : B_X10_isAgain_183 N t0 h y0 y1 y2 = some (hz, rz)) : Mo h hz := by
  unfold B_X10_isAgain_183 at hJ
  obtain ⟨a1, ea1, -, hJ⟩ := dr_some hJ
  obtain ⟨-, hJ⟩ := ck_some hJ
  obtain ⟨-, hJ⟩ := ck_some hJ
  obtain ⟨rfl, -⟩ := rs2 hJ
  exact ⟨fun _ _ => rfl, Nat.le_refl _, Nat.le_refl _, rfl, fun _ _ => rfl⟩
set_option maxRecDepth 100000 in
set_option maxHeartbeats 4000000 in
theorem sb_X10_isAgain_183 (C : Cx p s m args meth c cX10_isAgain 3 (some .boolean) RX10 D cs A h0.se) (hz2 : hz.nx ≤ h0.nx + mc ∧ hz.su ≤ h0.su + ms) (N : Nat) (t0 : Nat) (h : Hp) (y0 : Option Nat) (y1 : Int32) (y2 : Int32) (hJ : B_X10_isAgain_183 N t0 h y0 y1 y2 = some (hz, rz)) (hk0 : h.kd t0 = 13) {H : Heap} {locs : List Loc} {cells slots : Nat} (w : Wo D cs A s h0 h H locs cells slots) {ls : Array Slot} (hl : lv_has ls 3 [(0, .ref t0)]) : W p l e { frames := 3, cells := mc, slots := ms, locals := 90 } s m args below meth c H locs cells slots (MQ below (Zi D cs A hz rz) args s mc ms A) (F0 m 183 ls [.int y2, .int y1, va_rf y0]) := by
  obtain ⟨hx, hb, hml, hown, hts, -⟩ := id C
  unfold B_X10_isAgain_183 at hJ
  obtain ⟨a1, ea1, hka1, hJ⟩ := dr_some hJ
  rw [ea1]
  obtain ⟨hi2, hJ⟩ := ck_some hJ
  obtain ⟨hzo3, hJ⟩ := ck_some hJ
  refine jr_zastM C w hka1 hi2 hzo3 dX10_isAgain_183 (fun H locs w => ?_)
  refine lv_aload_n hx hb dX10_isAgain_184 rfl (lv_at hl 0 rfl) ?_
  refine lv_dup hx hb dX10_isAgain_185 rfl ?_
  refine fg_1363 C w hk0 tw_6_226 dX10_isAgain_186 ?_
  refine lv_iconst (v := (1 : Int32)) hx hb dX10_isAgain_189 (by decide) ?_
  refine lv_iadd hx hb dX10_isAgain_190 ?_
  refine fp_1363 (x := ((h.sbi a1 y1.toNatClampNeg y2).gi 1363 t0) + (1 : Int32)) C w hk0 tw_6_226 dX10_isAgain_191 (fun H locs w => ?_)
  refine lv_iconst (v := (1 : Int32)) hx hb dX10_isAgain_194 (by decide) ?_
  obtain ⟨rfl, rfl⟩ := rs2 hJ
  exact jr_zret C w (Or.inr rfl) hz2 dX10_isAgain_195
def B_X10_isAgain_130 (N : Nat) (t0 : Nat) (h : Hp) (x1 : Int32) : Option (Hp × Int32) := dr h 30 (h.gr 1331 t0) (fun a4 => ck (¬ (x1 < 0 ∨ h.al a4 ≤ x1.toNatClampNeg)) (dr h 30 (h.gr 1360 t0) (fun a6 => ck (¬ (h.gi 1363 t0 < 0 ∨ h.al a6 ≤ (h.gi 1363 t0).toNatClampNeg)) (dr (h.sbi a6 (h.gi 1363 t0).toNatClampNeg (h.bi a4 x1.toNatClampNeg)) 31 ((h.sbi a6 (h.gi 1363 t0).toNatClampNeg (h.bi a4 x1.toNatClampNeg)).gr 1334 t0) (fun a8 => ck (¬ (x1 < 0 ∨ (h.sbi a6 (h.gi 1363 t0).toNatClampNeg (h.bi a4 x1.toNatClampNeg)).al a8 ≤ x1.toNatClampNeg)) (dr (h.sbi a6 (h.gi 1363 t0).toNatClampNeg (h.bi a4 x1.toNatClampNeg)) 31 ((h.sbi a6 (h.gi 1363 t0).toNatClampNeg (h.bi a4 x1.toNatClampNeg)).gr 1361 t0) (fun a10 => ck (¬ ((h.sbi a6 (h.gi 1363 t0).toNatClampNeg (h.bi a4 x1.toNatClampNeg)).gi 1363 t0 < 0 ∨ (h.sbi a6 (h.gi 1363 t0).toNatClampNeg (h.bi a4 x1.toNatClampNeg)).al a10 ≤ ((h.sbi a6 (h.gi 1363 t0).toNatClampNeg (h.bi a4 x1.toNatClampNeg)).gi 1363 t0).toNatClampNeg)) (dr ((h.sbi a6 (h.gi 1363 t0).toNatClampNeg (h.bi a4 x1.toNatClampNeg)).sbw a10 ((h.sbi a6 (h.gi 1363 t0).toNatClampNeg (h.bi a4 x1.toNatClampNeg)).gi 1363 t0).toNatClampNeg ((h.sbi a6 (h.gi 1363 t0).toNatClampNeg (h.bi a4 x1.toNatClampNeg)).bw a8 x1.toNatClampNeg)) 30 (((h.sbi a6 (h.gi 1363 t0).toNatClampNeg (h.bi a4 x1.toNatClampNeg)).sbw a10 ((h.sbi a6 (h.gi 1363 t0).toNatClampNeg (h.bi a4 x1.toNatClampNeg)).gi 1363 t0).toNatClampNeg ((h.sbi a6 (h.gi 1363 t0).toNatClampNeg (h.bi a4 x1.toNatClampNeg)).bw a8 x1.toNatClampNeg)).gr 1329 t0) (fun a12 => ck (¬ (x1 < 0 ∨ ((h.sbi a6 (h.gi 1363 t0).toNatClampNeg (h.bi a4 x1.toNatClampNeg)).sbw a10 ((h.sbi a6 (h.gi 1363 t0).toNatClampNeg (h.bi a4 x1.toNatClampNeg)).gi 1363 t0).toNatClampNeg ((h.sbi a6 (h.gi 1363 t0).toNatClampNeg (h.bi a4 x1.toNatClampNeg)).bw a8 x1.toNatClampNeg)).al a12 ≤ x1.toNatClampNeg)) (if (((h.sbi a6 (h.gi 1363 t0).toNatClampNeg (h.bi a4 x1.toNatClampNeg)).sbw a10 ((h.sbi a6 (h.gi 1363 t0).toNatClampNeg (h.bi a4 x1.toNatClampNeg)).gi 1363 t0).toNatClampNeg ((h.sbi a6 (h.gi 1363 t0).toNatClampNeg (h.bi a4 x1.toNatClampNeg)).bw a8 x1.toNatClampNeg)).bi a12 x1.toNatClampNeg) = (5 : Int32) then (B_X10_isAgain_183 N t0 ((h.sbi a6 (h.gi 1363 t0).toNatClampNeg (h.bi a4 x1.toNatClampNeg)).sbw a10 ((h.sbi a6 (h.gi 1363 t0).toNatClampNeg (h.bi a4 x1.toNatClampNeg)).gi 1363 t0).toNatClampNeg ((h.sbi a6 (h.gi 1363 t0).toNatClampNeg (h.bi a4 x1.toNatClampNeg)).bw a8 x1.toNatClampNeg)) (((h.sbi a6 (h.gi 1363 t0).toNatClampNeg (h.bi a4 x1.toNatClampNeg)).sbw a10 ((h.sbi a6 (h.gi 1363 t0).toNatClampNeg (h.bi a4 x1.toNatClampNeg)).gi 1363 t0).toNatClampNeg ((h.sbi a6 (h.gi 1363 t0).toNatClampNeg (h.bi a4 x1.toNatClampNeg)).bw a8 x1.toNatClampNeg)).gr 1362 t0) (((h.sbi a6 (h.gi 1363 t0).toNatClampNeg (h.bi a4 x1.toNatClampNeg)).sbw a10 ((h.sbi a6 (h.gi 1363 t0).toNatClampNeg (h.bi a4 x1.toNatClampNeg)).gi 1363 t0).toNatClampNeg ((h.sbi a6 (h.gi 1363 t0).toNatClampNeg (h.bi a4 x1.toNatClampNeg)).bw a8 x1.toNatClampNeg)).gi 1363 t0) (1 : Int32)) else (B_X10_isAgain_183 N t0 ((h.sbi a6 (h.gi 1363 t0).toNatClampNeg (h.bi a4 x1.toNatClampNeg)).sbw a10 ((h.sbi a6 (h.gi 1363 t0).toNatClampNeg (h.bi a4 x1.toNatClampNeg)).gi 1363 t0).toNatClampNeg ((h.sbi a6 (h.gi 1363 t0).toNatClampNeg (h.bi a4 x1.toNatClampNeg)).bw a8 x1.toNatClampNeg)) (((h.sbi a6 (h.gi 1363 t0).toNatClampNeg (h.bi a4 x1.toNatClampNeg)).sbw a10 ((h.sbi a6 (h.gi 1363 t0).toNatClampNeg (h.bi a4 x1.toNatClampNeg)).gi 1363 t0).toNatClampNeg ((h.sbi a6 (h.gi 1363 t0).toNatClampNeg (h.bi a4 x1.toNatClampNeg)).bw a8 x1.toNatClampNeg)).gr 1362 t0) (((h.sbi a6 (h.gi 1363 t0).toNatClampNeg (h.bi a4 x1.toNatClampNeg)).sbw a10 ((h.sbi a6 (h.gi 1363 t0).toNatClampNeg (h.bi a4 x1.toNatClampNeg)).gi 1363 t0).toNatClampNeg ((h.sbi a6 (h.gi 1363 t0).toNatClampNeg (h.bi a4 x1.toNatClampNeg)).bw a8 x1.toNatClampNeg)).gi 1363 t0) (0 : Int32))))))))))))
theorem mb_X10_isAgain_130 (N : Nat) (t0 : Nat) (h : Hp) (x1 : Int32) (hJ : B_X10_isAgain_130 N t0 h x1 = some (hz, rz)) : Mo h hz := by
  unfold B_X10_isAgain_130 at hJ
  obtain ⟨a4, ea4, -, hJ⟩ := dr_some hJ
  obtain ⟨-, hJ⟩ := ck_some hJ
  obtain ⟨a6, ea6, -, hJ⟩ := dr_some hJ
  obtain ⟨-, hJ⟩ := ck_some hJ
  obtain ⟨a8, ea8, -, hJ⟩ := dr_some hJ
  obtain ⟨-, hJ⟩ := ck_some hJ
  obtain ⟨a10, ea10, -, hJ⟩ := dr_some hJ
  obtain ⟨-, hJ⟩ := ck_some hJ
  obtain ⟨a12, ea12, -, hJ⟩ := dr_some hJ
  obtain ⟨-, hJ⟩ := ck_some hJ
  by_cases c14 : (((h.sbi a6 (h.gi 1363 t0).toNatClampNeg (h.bi a4 x1.toNatClampNeg)).sbw a10 ((h.sbi a6 (h.gi 1363 t0).toNatClampNeg (h.bi a4 x1.toNatClampNeg)).gi 1363 t0).toNatClampNeg ((h.sbi a6 (h.gi 1363 t0).toNatClampNeg (h.bi a4 x1.toNatClampNeg)).bw a8 x1.toNatClampNeg)).bi a12 x1.toNatClampNeg) = (5 : Int32)
  · have hJ := it_pos c14 hJ
    exact (Mo.tr (show Mo h ((h.sbi a6 (h.gi 1363 t0).toNatClampNeg (h.bi a4 x1.toNatClampNeg)).sbw a10 ((h.sbi a6 (h.gi 1363 t0).toNatClampNeg (h.bi a4 x1.toNatClampNeg)).gi 1363 t0).toNatClampNeg ((h.sbi a6 (h.gi 1363 t0).toNatClampNeg (h.bi a4 x1.toNatClampNeg)).bw a8 x1.toNatClampNeg)) from ⟨fun _ _ => rfl, Nat.le_refl _, Nat.le_refl _, rfl, fun _ _ => rfl⟩) (mb_X10_isAgain_183 N t0 _ _ _ _ hJ))
  · have hJ := it_neg c14 hJ
    exact (Mo.tr (show Mo h ((h.sbi a6 (h.gi 1363 t0).toNatClampNeg (h.bi a4 x1.toNatClampNeg)).sbw a10 ((h.sbi a6 (h.gi 1363 t0).toNatClampNeg (h.bi a4 x1.toNatClampNeg)).gi 1363 t0).toNatClampNeg ((h.sbi a6 (h.gi 1363 t0).toNatClampNeg (h.bi a4 x1.toNatClampNeg)).bw a8 x1.toNatClampNeg)) from ⟨fun _ _ => rfl, Nat.le_refl _, Nat.le_refl _, rfl, fun _ _ => rfl⟩) (mb_X10_isAgain_183 N t0 _ _ _ _ hJ))
set_option maxRecDepth 100000 in
set_option maxHeartbeats 4000000 in
theorem sb_X10_isAgain_130 (C : Cx p s m args meth c cX10_isAgain 3 (some .boolean) RX10 D cs A h0.se) (hz2 : hz.nx ≤ h0.nx + mc ∧ hz.su ≤ h0.su + ms) (N : Nat) (t0 : Nat) (h : Hp) (x1 : Int32) (hJ : B_X10_isAgain_130 N t0 h x1 = some (hz, rz)) (hk0 : h.kd t0 = 13) {H : Heap} {locs : List Loc} {cells slots : Nat} (w : Wo D cs A s h0 h H locs cells slots) {ls : Array Slot} (hl : lv_has ls 3 [(0, .ref t0), (1, .int x1)]) : W p l e { frames := 3, cells := mc, slots := ms, locals := 90 } s m args below meth c H locs cells slots (MQ below (Zi D cs A hz rz) args s mc ms A) (F0 m 130 ls []) := by
  obtain ⟨hx, hb, hml, hown, hts, -⟩ := id C
  unfold B_X10_isAgain_130 at hJ
  refine lv_aload_n hx hb dX10_isAgain_130 rfl (lv_at hl 0 rfl) ?_
  refine fg_1360 C w hk0 tw_6_223 dX10_isAgain_131 ?_
  refine lv_aload_n hx hb dX10_isAgain_134 rfl (lv_at hl 0 rfl) ?_
  refine fg_1363 C w hk0 tw_6_226 dX10_isAgain_135 ?_
  refine lv_aload_n hx hb dX10_isAgain_138 rfl (lv_at hl 0 rfl) ?_
  refine fg_1331 C w hk0 tw_6_194 dX10_isAgain_139 ?_
  refine lv_iload_n hx hb dX10_isAgain_142 rfl (lv_at hl 1 rfl) ?_
  obtain ⟨a4, ea4, hka4, hJ⟩ := dr_some hJ
  rw [ea4]
  obtain ⟨hi5, hJ⟩ := ck_some hJ
  refine jr_ialdM C w hka4 hi5 dX10_isAgain_143 ?_
  obtain ⟨a6, ea6, hka6, hJ⟩ := dr_some hJ
  rw [ea6]
  obtain ⟨hi7, hJ⟩ := ck_some hJ
  refine jr_iastM C w hka6 hi7 dX10_isAgain_144 (fun H locs w => ?_)
  refine lv_aload_n hx hb dX10_isAgain_145 rfl (lv_at hl 0 rfl) ?_
  refine fg_1361 C w hk0 tw_6_224 dX10_isAgain_146 ?_
  refine lv_aload_n hx hb dX10_isAgain_149 rfl (lv_at hl 0 rfl) ?_
  refine fg_1363 C w hk0 tw_6_226 dX10_isAgain_150 ?_
  refine lv_aload_n hx hb dX10_isAgain_153 rfl (lv_at hl 0 rfl) ?_
  refine fg_1334 C w hk0 tw_6_197 dX10_isAgain_154 ?_
  refine lv_iload_n hx hb dX10_isAgain_157 rfl (lv_at hl 1 rfl) ?_
  obtain ⟨a8, ea8, hka8, hJ⟩ := dr_some hJ
  rw [ea8]
  obtain ⟨hi9, hJ⟩ := ck_some hJ
  refine jr_laldM C w hka8 hi9 dX10_isAgain_158 ?_
  obtain ⟨a10, ea10, hka10, hJ⟩ := dr_some hJ
  rw [ea10]
  obtain ⟨hi11, hJ⟩ := ck_some hJ
  refine jr_lastM C w hka10 hi11 dX10_isAgain_159 (fun H locs w => ?_)
  refine lv_aload_n hx hb dX10_isAgain_160 rfl (lv_at hl 0 rfl) ?_
  refine fg_1362 C w hk0 tw_6_225 dX10_isAgain_161 ?_
  refine lv_aload_n hx hb dX10_isAgain_164 rfl (lv_at hl 0 rfl) ?_
  refine fg_1363 C w hk0 tw_6_226 dX10_isAgain_165 ?_
  refine lv_aload_n hx hb dX10_isAgain_168 rfl (lv_at hl 0 rfl) ?_
  refine fg_1329 C w hk0 tw_6_192 dX10_isAgain_169 ?_
  refine lv_iload_n hx hb dX10_isAgain_172 rfl (lv_at hl 1 rfl) ?_
  obtain ⟨a12, ea12, hka12, hJ⟩ := dr_some hJ
  rw [ea12]
  obtain ⟨hi13, hJ⟩ := ck_some hJ
  refine jr_ialdM C w hka12 hi13 dX10_isAgain_173 ?_
  refine lv_iconst (v := (5 : Int32)) hx hb dX10_isAgain_174 (by decide) ?_
  refine lv_icmp_ne (tgt := 182) hx hb dX10_isAgain_175 (by decide) (fun c14 => ?_) (fun c14 => ?_)
  · have hJ := it_neg c14 hJ
    refine lv_iconst (v := (0 : Int32)) hx hb dX10_isAgain_182 (by decide) ?_
    exact sb_X10_isAgain_183 C hz2 N t0 _ _ _ _ hJ hk0 w (lv_sub (l' := [(0, .ref t0)]) hl [0] rfl)
  · have hJ := it_pos c14 hJ
    refine lv_iconst (v := (1 : Int32)) hx hb dX10_isAgain_178 (by decide) ?_
    refine lv_goto (tgt := 183) hx hb dX10_isAgain_179 (by decide) ?_
    exact sb_X10_isAgain_183 C hz2 N t0 _ _ _ _ hJ hk0 w (lv_sub (l' := [(0, .ref t0)]) hl [0] rfl)
def B_X10_isAgain_129 (N : Nat) (t0 : Nat) (h : Hp) (y0 : Int32) : Option (Hp × Int32) := ck (y0 = 0 ∨ y0 = 1) (some (h, y0))
theorem mb_X10_isAgain_129 (N : Nat) (t0 : Nat) (h : Hp) (y0 : Int32) (hJ : B_X10_isAgain_129 N t0 h y0 = some (hz, rz)) : Mo h hz := by
  unfold B_X10_isAgain_129 at hJ
  obtain ⟨-, hJ⟩ := ck_some hJ
  obtain ⟨rfl, -⟩ := rs2 hJ
  exact ⟨fun _ _ => rfl, Nat.le_refl _, Nat.le_refl _, rfl, fun _ _ => rfl⟩
set_option maxRecDepth 100000 in
set_option maxHeartbeats 4000000 in
theorem sb_X10_isAgain_129 (C : Cx p s m args meth c cX10_isAgain 3 (some .boolean) RX10 D cs A h0.se) (hz2 : hz.nx ≤ h0.nx + mc ∧ hz.su ≤ h0.su + ms) (N : Nat) (t0 : Nat) (h : Hp) (y0 : Int32) (hJ : B_X10_isAgain_129 N t0 h y0 = some (hz, rz)) (hk0 : h.kd t0 = 13) {H : Heap} {locs : List Loc} {cells slots : Nat} (w : Wo D cs A s h0 h H locs cells slots) {ls : Array Slot} (hl : lv_has ls 3 [(0, .ref t0)]) : W p l e { frames := 3, cells := mc, slots := ms, locals := 90 } s m args below meth c H locs cells slots (MQ below (Zi D cs A hz rz) args s mc ms A) (F0 m 129 ls [.int y0]) := by
  obtain ⟨hx, hb, hml, hown, hts, -⟩ := id C
  unfold B_X10_isAgain_129 at hJ
  obtain ⟨hzo15, hJ⟩ := ck_some hJ
  obtain ⟨rfl, rfl⟩ := rs2 hJ
  exact jr_zret C w hzo15 hz2 dX10_isAgain_129
def B_X10_isAgain_123 (N : Nat) (t0 : Nat) (h : Hp) (y0 : Int32) : Option (Hp × Int32) := ck (y0 = 0 ∨ y0 = 1) (some (h, y0))
theorem mb_X10_isAgain_123 (N : Nat) (t0 : Nat) (h : Hp) (y0 : Int32) (hJ : B_X10_isAgain_123 N t0 h y0 = some (hz, rz)) : Mo h hz := by
  unfold B_X10_isAgain_123 at hJ
  obtain ⟨-, hJ⟩ := ck_some hJ
  obtain ⟨rfl, -⟩ := rs2 hJ
  exact ⟨fun _ _ => rfl, Nat.le_refl _, Nat.le_refl _, rfl, fun _ _ => rfl⟩
set_option maxRecDepth 100000 in
set_option maxHeartbeats 4000000 in
theorem sb_X10_isAgain_123 (C : Cx p s m args meth c cX10_isAgain 3 (some .boolean) RX10 D cs A h0.se) (hz2 : hz.nx ≤ h0.nx + mc ∧ hz.su ≤ h0.su + ms) (N : Nat) (t0 : Nat) (h : Hp) (y0 : Int32) (hJ : B_X10_isAgain_123 N t0 h y0 = some (hz, rz)) (hk0 : h.kd t0 = 13) {H : Heap} {locs : List Loc} {cells slots : Nat} (w : Wo D cs A s h0 h H locs cells slots) {ls : Array Slot} (hl : lv_has ls 3 [(0, .ref t0)]) : W p l e { frames := 3, cells := mc, slots := ms, locals := 90 } s m args below meth c H locs cells slots (MQ below (Zi D cs A hz rz) args s mc ms A) (F0 m 123 ls [.int y0]) := by
  obtain ⟨hx, hb, hml, hown, hts, -⟩ := id C
  unfold B_X10_isAgain_123 at hJ
  obtain ⟨hzo16, hJ⟩ := ck_some hJ
  obtain ⟨rfl, rfl⟩ := rs2 hJ
  exact jr_zret C w hzo16 hz2 dX10_isAgain_123
def B_X10_isAgain_116 (N : Nat) (t0 : Nat) (h : Hp) (y0 : Int32) : Option (Hp × Int32) := ck (y0 = 0 ∨ y0 = 1) (some (h, y0))
theorem mb_X10_isAgain_116 (N : Nat) (t0 : Nat) (h : Hp) (y0 : Int32) (hJ : B_X10_isAgain_116 N t0 h y0 = some (hz, rz)) : Mo h hz := by
  unfold B_X10_isAgain_116 at hJ
  obtain ⟨-, hJ⟩ := ck_some hJ
  obtain ⟨rfl, -⟩ := rs2 hJ
  exact ⟨fun _ _ => rfl, Nat.le_refl _, Nat.le_refl _, rfl, fun _ _ => rfl⟩
set_option maxRecDepth 100000 in
set_option maxHeartbeats 4000000 in
theorem sb_X10_isAgain_116 (C : Cx p s m args meth c cX10_isAgain 3 (some .boolean) RX10 D cs A h0.se) (hz2 : hz.nx ≤ h0.nx + mc ∧ hz.su ≤ h0.su + ms) (N : Nat) (t0 : Nat) (h : Hp) (y0 : Int32) (hJ : B_X10_isAgain_116 N t0 h y0 = some (hz, rz)) (hk0 : h.kd t0 = 13) {H : Heap} {locs : List Loc} {cells slots : Nat} (w : Wo D cs A s h0 h H locs cells slots) {ls : Array Slot} (hl : lv_has ls 3 [(0, .ref t0)]) : W p l e { frames := 3, cells := mc, slots := ms, locals := 90 } s m args below meth c H locs cells slots (MQ below (Zi D cs A hz rz) args s mc ms A) (F0 m 116 ls [.int y0]) := by
  obtain ⟨hx, hb, hml, hown, hts, -⟩ := id C
  unfold B_X10_isAgain_116 at hJ
  obtain ⟨hzo17, hJ⟩ := ck_some hJ
  obtain ⟨rfl, rfl⟩ := rs2 hJ
  exact jr_zret C w hzo17 hz2 dX10_isAgain_116
def B_X10_isAgain_109 (N : Nat) (t0 : Nat) (h : Hp) (y0 : Int32) : Option (Hp × Int32) := ck (y0 = 0 ∨ y0 = 1) (some (h, y0))
theorem mb_X10_isAgain_109 (N : Nat) (t0 : Nat) (h : Hp) (y0 : Int32) (hJ : B_X10_isAgain_109 N t0 h y0 = some (hz, rz)) : Mo h hz := by
  unfold B_X10_isAgain_109 at hJ
  obtain ⟨-, hJ⟩ := ck_some hJ
  obtain ⟨rfl, -⟩ := rs2 hJ
  exact ⟨fun _ _ => rfl, Nat.le_refl _, Nat.le_refl _, rfl, fun _ _ => rfl⟩
set_option maxRecDepth 100000 in
set_option maxHeartbeats 4000000 in
theorem sb_X10_isAgain_109 (C : Cx p s m args meth c cX10_isAgain 3 (some .boolean) RX10 D cs A h0.se) (hz2 : hz.nx ≤ h0.nx + mc ∧ hz.su ≤ h0.su + ms) (N : Nat) (t0 : Nat) (h : Hp) (y0 : Int32) (hJ : B_X10_isAgain_109 N t0 h y0 = some (hz, rz)) (hk0 : h.kd t0 = 13) {H : Heap} {locs : List Loc} {cells slots : Nat} (w : Wo D cs A s h0 h H locs cells slots) {ls : Array Slot} (hl : lv_has ls 3 [(0, .ref t0)]) : W p l e { frames := 3, cells := mc, slots := ms, locals := 90 } s m args below meth c H locs cells slots (MQ below (Zi D cs A hz rz) args s mc ms A) (F0 m 109 ls [.int y0]) := by
  obtain ⟨hx, hb, hml, hown, hts, -⟩ := id C
  unfold B_X10_isAgain_109 at hJ
  obtain ⟨hzo18, hJ⟩ := ck_some hJ
  obtain ⟨rfl, rfl⟩ := rs2 hJ
  exact jr_zret C w hzo18 hz2 dX10_isAgain_109
def B_X10_isAgain_91 (N : Nat) (t0 : Nat) (h : Hp) : Option (Hp × Int32) := B_X10_isAgain_109 N t0 h (0 : Int32)
theorem mb_X10_isAgain_91 (N : Nat) (t0 : Nat) (h : Hp) (hJ : B_X10_isAgain_91 N t0 h = some (hz, rz)) : Mo h hz := by
  unfold B_X10_isAgain_91 at hJ
  exact mb_X10_isAgain_109 N t0 _ _ hJ
set_option maxRecDepth 100000 in
set_option maxHeartbeats 4000000 in
theorem sb_X10_isAgain_91 (C : Cx p s m args meth c cX10_isAgain 3 (some .boolean) RX10 D cs A h0.se) (hz2 : hz.nx ≤ h0.nx + mc ∧ hz.su ≤ h0.su + ms) (N : Nat) (t0 : Nat) (h : Hp) (hJ : B_X10_isAgain_91 N t0 h = some (hz, rz)) (hk0 : h.kd t0 = 13) {H : Heap} {locs : List Loc} {cells slots : Nat} (w : Wo D cs A s h0 h H locs cells slots) {ls : Array Slot} (hl : lv_has ls 3 [(0, .ref t0)]) : W p l e { frames := 3, cells := mc, slots := ms, locals := 90 } s m args below meth c H locs cells slots (MQ below (Zi D cs A hz rz) args s mc ms A) (F0 m 91 ls []) := by
  obtain ⟨hx, hb, hml, hown, hts, -⟩ := id C
  unfold B_X10_isAgain_91 at hJ
  refine lv_iconst (v := (0 : Int32)) hx hb dX10_isAgain_91 (by decide) ?_
  refine lv_goto (tgt := 109) hx hb dX10_isAgain_92 (by decide) ?_
  exact sb_X10_isAgain_109 C hz2 N t0 _ _ hJ hk0 w hl
def B_X10_isAgain_58 (N : Nat) (t0 : Nat) (h : Hp) (x1 : Int32) (y0 : Int32) : Option (Hp × Int32) := if y0 = 0 then (dr h 30 (h.gr 1335 t0) (fun a20 => ck (¬ (x1 < 0 ∨ h.al a20 ≤ x1.toNatClampNeg)) (if (h.bi a20 x1.toNatClampNeg) = 0 then (B_X10_isAgain_109 N t0 h (1 : Int32)) else (B_X10_isAgain_109 N t0 h (0 : Int32))))) else (dr h 30 (h.gr 1335 t0) (fun a23 => ck (¬ (x1 < 0 ∨ h.al a23 ≤ x1.toNatClampNeg)) (if (h.bi a23 x1.toNatClampNeg) = (1 : Int32) then (dr h 31 (h.gr 1337 t0) (fun a26 => ck (¬ (x1 < 0 ∨ h.al a26 ≤ x1.toNatClampNeg)) (if (lg_cmp (h.bw a26 x1.toNatClampNeg) (h.gl 1351 t0)) = 0 then (B_X10_isAgain_109 N t0 h (1 : Int32)) else (B_X10_isAgain_91 N t0 h)))) else (B_X10_isAgain_91 N t0 h))))
theorem mb_X10_isAgain_58 (N : Nat) (t0 : Nat) (h : Hp) (x1 : Int32) (y0 : Int32) (hJ : B_X10_isAgain_58 N t0 h x1 y0 = some (hz, rz)) : Mo h hz := by
  unfold B_X10_isAgain_58 at hJ
  by_cases c19 : y0 = 0
  · have hJ := it_pos c19 hJ
    obtain ⟨a20, ea20, -, hJ⟩ := dr_some hJ
    obtain ⟨-, hJ⟩ := ck_some hJ
    by_cases c22 : (h.bi a20 x1.toNatClampNeg) = 0
    · have hJ := it_pos c22 hJ
      exact mb_X10_isAgain_109 N t0 _ _ hJ
    · have hJ := it_neg c22 hJ
      exact mb_X10_isAgain_109 N t0 _ _ hJ
  · have hJ := it_neg c19 hJ
    obtain ⟨a23, ea23, -, hJ⟩ := dr_some hJ
    obtain ⟨-, hJ⟩ := ck_some hJ
    by_cases c25 : (h.bi a23 x1.toNatClampNeg) = (1 : Int32)
    · have hJ := it_pos c25 hJ
      obtain ⟨a26, ea26, -, hJ⟩ := dr_some hJ
      obtain ⟨-, hJ⟩ := ck_some hJ
      by_cases c28 : (lg_cmp (h.bw a26 x1.toNatClampNeg) (h.gl 1351 t0)) = 0
      · have hJ := it_pos c28 hJ
        exact mb_X10_isAgain_109 N t0 _ _ hJ
      · have hJ := it_neg c28 hJ
        exact mb_X10_isAgain_91 N t0 _ hJ
    · have hJ := it_neg c25 hJ
      exact mb_X10_isAgain_91 N t0 _ hJ
set_option maxRecDepth 100000 in
set_option maxHeartbeats 4000000 in
theorem sb_X10_isAgain_58 (C : Cx p s m args meth c cX10_isAgain 3 (some .boolean) RX10 D cs A h0.se) (hz2 : hz.nx ≤ h0.nx + mc ∧ hz.su ≤ h0.su + ms) (N : Nat) (t0 : Nat) (h : Hp) (x1 : Int32) (y0 : Int32) (hJ : B_X10_isAgain_58 N t0 h x1 y0 = some (hz, rz)) (hk0 : h.kd t0 = 13) {H : Heap} {locs : List Loc} {cells slots : Nat} (w : Wo D cs A s h0 h H locs cells slots) {ls : Array Slot} (hl : lv_has ls 3 [(0, .ref t0), (1, .int x1)]) : W p l e { frames := 3, cells := mc, slots := ms, locals := 90 } s m args below meth c H locs cells slots (MQ below (Zi D cs A hz rz) args s mc ms A) (F0 m 58 ls [.int y0]) := by
  obtain ⟨hx, hb, hml, hown, hts, -⟩ := id C
  unfold B_X10_isAgain_58 at hJ
  refine lv_istore_n (i := 2) (lv' := [(2, .int y0), (0, .ref t0), (1, .int x1)]) hx hb dX10_isAgain_58 rfl hl (by decide) rfl (fun ls hl => ?_)
  refine lv_iload_n hx hb dX10_isAgain_59 rfl (lv_at hl 0 rfl) ?_
  refine lv_if_eq (tgt := 95) hx hb dX10_isAgain_60 (by decide) (fun c19 => ?_) (fun c19 => ?_)
  · have hJ := it_pos c19 hJ
    refine lv_aload_n hx hb dX10_isAgain_95 rfl (lv_at hl 1 rfl) ?_
    refine fg_1335 C w hk0 tw_6_198 dX10_isAgain_96 ?_
    refine lv_iload_n hx hb dX10_isAgain_99 rfl (lv_at hl 2 rfl) ?_
    obtain ⟨a20, ea20, hka20, hJ⟩ := dr_some hJ
    rw [ea20]
    obtain ⟨hi21, hJ⟩ := ck_some hJ
    refine jr_ialdM C w hka20 hi21 dX10_isAgain_100 ?_
    refine lv_if_ne (tgt := 108) hx hb dX10_isAgain_101 (by decide) (fun c22 => ?_) (fun c22 => ?_)
    · have hJ := it_neg c22 hJ
      refine lv_iconst (v := (0 : Int32)) hx hb dX10_isAgain_108 (by decide) ?_
      exact sb_X10_isAgain_109 C hz2 N t0 _ _ hJ hk0 w (lv_sub (l' := [(0, .ref t0)]) hl [1] rfl)
    · have hJ := it_pos c22 hJ
      refine lv_iconst (v := (1 : Int32)) hx hb dX10_isAgain_104 (by decide) ?_
      refine lv_goto (tgt := 109) hx hb dX10_isAgain_105 (by decide) ?_
      exact sb_X10_isAgain_109 C hz2 N t0 _ _ hJ hk0 w (lv_sub (l' := [(0, .ref t0)]) hl [1] rfl)
  · have hJ := it_neg c19 hJ
    refine lv_aload_n hx hb dX10_isAgain_63 rfl (lv_at hl 1 rfl) ?_
    refine fg_1335 C w hk0 tw_6_198 dX10_isAgain_64 ?_
    refine lv_iload_n hx hb dX10_isAgain_67 rfl (lv_at hl 2 rfl) ?_
    obtain ⟨a23, ea23, hka23, hJ⟩ := dr_some hJ
    rw [ea23]
    obtain ⟨hi24, hJ⟩ := ck_some hJ
    refine jr_ialdM C w hka23 hi24 dX10_isAgain_68 ?_
    refine lv_iconst (v := (1 : Int32)) hx hb dX10_isAgain_69 (by decide) ?_
    refine lv_icmp_ne (tgt := 91) hx hb dX10_isAgain_70 (by decide) (fun c25 => ?_) (fun c25 => ?_)
    · have hJ := it_neg c25 hJ
      exact sb_X10_isAgain_91 C hz2 N t0 _ hJ hk0 w (lv_sub (l' := [(0, .ref t0)]) hl [1] rfl)
    · have hJ := it_pos c25 hJ
      refine lv_aload_n hx hb dX10_isAgain_73 rfl (lv_at hl 1 rfl) ?_
      refine fg_1337 C w hk0 tw_6_200 dX10_isAgain_74 ?_
      refine lv_iload_n hx hb dX10_isAgain_77 rfl (lv_at hl 2 rfl) ?_
      obtain ⟨a26, ea26, hka26, hJ⟩ := dr_some hJ
      rw [ea26]
      obtain ⟨hi27, hJ⟩ := ck_some hJ
      refine jr_laldM C w hka26 hi27 dX10_isAgain_78 ?_
      refine lv_aload_n hx hb dX10_isAgain_79 rfl (lv_at hl 1 rfl) ?_
      refine fg_1351 C w hk0 tw_6_214 dX10_isAgain_80 ?_
      refine W.lcmp hx hb dX10_isAgain_83 ?_
      refine lv_if_ne (tgt := 91) hx hb dX10_isAgain_84 (by decide) (fun c28 => ?_) (fun c28 => ?_)
      · have hJ := it_neg c28 hJ
        exact sb_X10_isAgain_91 C hz2 N t0 _ hJ hk0 w (lv_sub (l' := [(0, .ref t0)]) hl [1] rfl)
      · have hJ := it_pos c28 hJ
        refine lv_iconst (v := (1 : Int32)) hx hb dX10_isAgain_87 (by decide) ?_
        refine lv_goto (tgt := 109) hx hb dX10_isAgain_88 (by decide) ?_
        exact sb_X10_isAgain_109 C hz2 N t0 _ _ hJ hk0 w (lv_sub (l' := [(0, .ref t0)]) hl [1] rfl)
def B_X10_isAgain_0 (N : Nat) (t0 : Nat) (h : Hp) (x1 : Int32) : Option (Hp × Int32) := dr h 30 (h.gr 1329 t0) (fun a29 => ck (¬ (x1 < 0 ∨ h.al a29 ≤ x1.toNatClampNeg)) (if (h.bi a29 x1.toNatClampNeg) = (1 : Int32) then (dr h 30 (h.gr 1331 t0) (fun a32 => ck (¬ (x1 < 0 ∨ h.al a32 ≤ x1.toNatClampNeg)) ((J_X10_hasNow N t0 h (h.bi a32 x1.toNatClampNeg)).bind (fun z => B_X10_isAgain_58 N t0 z.1 x1 z.2)))) else (if (h.bi a29 x1.toNatClampNeg) = (2 : Int32) then ((J_X10_isNearAgain N t0 h x1 (1 : Int32)).bind (fun z => B_X10_isAgain_116 N t0 z.1 z.2)) else (if (h.bi a29 x1.toNatClampNeg) = (3 : Int32) then ((J_X10_isNearAgain N t0 h x1 (0 : Int32)).bind (fun z => B_X10_isAgain_123 N t0 z.1 z.2)) else (if (h.bi a29 x1.toNatClampNeg) = (4 : Int32) then ((J_X10_isScanAgain N t0 h x1).bind (fun z => B_X10_isAgain_129 N t0 z.1 z.2)) else (if (h.bi a29 x1.toNatClampNeg) = (5 : Int32) then (B_X10_isAgain_130 N t0 h x1) else (if (h.bi a29 x1.toNatClampNeg) = (6 : Int32) then (B_X10_isAgain_130 N t0 h x1) else (if (h.bi a29 x1.toNatClampNeg) = (7 : Int32) then (dr h 30 (h.gr 1364 t0) (fun a56 => ck (¬ (h.gi 1365 t0 < 0 ∨ h.al a56 ≤ (h.gi 1365 t0).toNatClampNeg)) (B_X10_isAgain_219 N t0 ((h.sbi a56 (h.gi 1365 t0).toNatClampNeg (h.gi 1363 t0)).sgi 1365 t0 (((h.sbi a56 (h.gi 1365 t0).toNatClampNeg (h.gi 1363 t0)).gi 1365 t0) + (1 : Int32)))))) else (dr h 30 (h.gr 1331 t0) (fun a58 => ck (¬ (x1 < 0 ∨ h.al a58 ≤ x1.toNatClampNeg)) (dr h 30 (h.gr 1364 t0) (fun a60 => ck (¬ ((h.bi a58 x1.toNatClampNeg) - (1 : Int32) < 0 ∨ h.al a60 ≤ ((h.bi a58 x1.toNatClampNeg) - (1 : Int32)).toNatClampNeg)) (dr (h.sgi 1363 t0 (h.bi a60 ((h.bi a58 x1.toNatClampNeg) - (1 : Int32)).toNatClampNeg)) 30 ((h.sgi 1363 t0 (h.bi a60 ((h.bi a58 x1.toNatClampNeg) - (1 : Int32)).toNatClampNeg)).gr 1331 t0) (fun a62 => ck (¬ (x1 < 0 ∨ (h.sgi 1363 t0 (h.bi a60 ((h.bi a58 x1.toNatClampNeg) - (1 : Int32)).toNatClampNeg)).al a62 ≤ x1.toNatClampNeg)) (some ((h.sgi 1363 t0 (h.bi a60 ((h.bi a58 x1.toNatClampNeg) - (1 : Int32)).toNatClampNeg)).sgi 1365 t0 ((h.sgi 1363 t0 (h.bi a60 ((h.bi a58 x1.toNatClampNeg) - (1 : Int32)).toNatClampNeg)).bi a62 x1.toNatClampNeg), (1 : Int32)))))))))))))))))
theorem mb_X10_isAgain_0 (N : Nat) (t0 : Nat) (h : Hp) (x1 : Int32) (hJ : B_X10_isAgain_0 N t0 h x1 = some (hz, rz)) : Mo h hz := by
  unfold B_X10_isAgain_0 at hJ
  obtain ⟨a29, ea29, -, hJ⟩ := dr_some hJ
  obtain ⟨-, hJ⟩ := ck_some hJ
  by_cases c31 : (h.bi a29 x1.toNatClampNeg) = (1 : Int32)
  · have hJ := it_pos c31 hJ
    obtain ⟨a32, ea32, -, hJ⟩ := dr_some hJ
    obtain ⟨-, hJ⟩ := ck_some hJ
    obtain ⟨⟨h34, r35⟩, e36, hJ⟩ := ob_some hJ
    exact (mo_X10_hasNow N t0 h (h.bi a32 x1.toNatClampNeg) e36).tr (mb_X10_isAgain_58 N t0 _ _ _ hJ)
  · have hJ := it_neg c31 hJ
    by_cases c38 : (h.bi a29 x1.toNatClampNeg) = (2 : Int32)
    · have hJ := it_pos c38 hJ
      obtain ⟨⟨h39, r40⟩, e41, hJ⟩ := ob_some hJ
      exact (mo_X10_isNearAgain N t0 h x1 (1 : Int32) e41).tr (mb_X10_isAgain_116 N t0 _ _ hJ)
    · have hJ := it_neg c38 hJ
      by_cases c43 : (h.bi a29 x1.toNatClampNeg) = (3 : Int32)
      · have hJ := it_pos c43 hJ
        obtain ⟨⟨h44, r45⟩, e46, hJ⟩ := ob_some hJ
        exact (mo_X10_isNearAgain N t0 h x1 (0 : Int32) e46).tr (mb_X10_isAgain_123 N t0 _ _ hJ)
      · have hJ := it_neg c43 hJ
        by_cases c48 : (h.bi a29 x1.toNatClampNeg) = (4 : Int32)
        · have hJ := it_pos c48 hJ
          obtain ⟨⟨h49, r50⟩, e51, hJ⟩ := ob_some hJ
          exact (mo_X10_isScanAgain N t0 h x1 e51).tr (mb_X10_isAgain_129 N t0 _ _ hJ)
        · have hJ := it_neg c48 hJ
          by_cases c53 : (h.bi a29 x1.toNatClampNeg) = (5 : Int32)
          · have hJ := it_pos c53 hJ
            exact mb_X10_isAgain_130 N t0 _ _ hJ
          · have hJ := it_neg c53 hJ
            by_cases c54 : (h.bi a29 x1.toNatClampNeg) = (6 : Int32)
            · have hJ := it_pos c54 hJ
              exact mb_X10_isAgain_130 N t0 _ _ hJ
            · have hJ := it_neg c54 hJ
              by_cases c55 : (h.bi a29 x1.toNatClampNeg) = (7 : Int32)
              · have hJ := it_pos c55 hJ
                obtain ⟨a56, ea56, -, hJ⟩ := dr_some hJ
                obtain ⟨-, hJ⟩ := ck_some hJ
                exact (Mo.tr (show Mo h ((h.sbi a56 (h.gi 1365 t0).toNatClampNeg (h.gi 1363 t0)).sgi 1365 t0 (((h.sbi a56 (h.gi 1365 t0).toNatClampNeg (h.gi 1363 t0)).gi 1365 t0) + (1 : Int32))) from ⟨fun _ _ => rfl, Nat.le_refl _, Nat.le_refl _, rfl, fun _ _ => rfl⟩) (mb_X10_isAgain_219 N t0 _ hJ))
              · have hJ := it_neg c55 hJ
                obtain ⟨a58, ea58, -, hJ⟩ := dr_some hJ
                obtain ⟨-, hJ⟩ := ck_some hJ
                obtain ⟨a60, ea60, -, hJ⟩ := dr_some hJ
                obtain ⟨-, hJ⟩ := ck_some hJ
                obtain ⟨a62, ea62, -, hJ⟩ := dr_some hJ
                obtain ⟨-, hJ⟩ := ck_some hJ
                obtain ⟨rfl, -⟩ := rs2 hJ
                exact ⟨fun _ _ => rfl, Nat.le_refl _, Nat.le_refl _, rfl, fun _ _ => rfl⟩
set_option maxRecDepth 100000 in
set_option maxHeartbeats 4000000 in
theorem sb_X10_isAgain_0 (C : Cx p s m args meth c cX10_isAgain 3 (some .boolean) RX10 D cs A h0.se) (hz2 : hz.nx ≤ h0.nx + mc ∧ hz.su ≤ h0.su + ms) (N : Nat) (t0 : Nat) (h : Hp) (x1 : Int32) (hJ : B_X10_isAgain_0 N t0 h x1 = some (hz, rz)) (hk0 : h.kd t0 = 13) {H : Heap} {locs : List Loc} {cells slots : Nat} (w : Wo D cs A s h0 h H locs cells slots) {ls : Array Slot} (hl : lv_has ls 3 [(0, .ref t0), (1, .int x1)]) : W p l e { frames := 3, cells := mc, slots := ms, locals := 90 } s m args below meth c H locs cells slots (MQ below (Zi D cs A hz rz) args s mc ms A) (F0 m 0 ls []) := by
  obtain ⟨hx, hb, hml, hown, hts, -⟩ := id C
  unfold B_X10_isAgain_0 at hJ
  refine lv_aload_n hx hb dX10_isAgain_0 rfl (lv_at hl 0 rfl) ?_
  refine fg_1329 C w hk0 tw_6_192 dX10_isAgain_1 ?_
  refine lv_iload_n hx hb dX10_isAgain_4 rfl (lv_at hl 1 rfl) ?_
  obtain ⟨a29, ea29, hka29, hJ⟩ := dr_some hJ
  rw [ea29]
  obtain ⟨hi30, hJ⟩ := ck_some hJ
  refine jr_ialdM C w hka29 hi30 dX10_isAgain_5 ?_
  by_cases c31 : (h.bi a29 x1.toNatClampNeg) = (1 : Int32)
  · have hJ := it_pos c31 hJ
    refine lv_tableIn (tgt := 48) hx hb dX10_isAgain_6 (by rw [c31]; decide) (by rw [c31]; decide) (off := 42) (by rw [c31]; rfl) (by decide) ?_
    refine lv_aload_n hx hb dX10_isAgain_48 rfl (lv_at hl 0 rfl) ?_
    refine lv_aload_n hx hb dX10_isAgain_49 rfl (lv_at hl 0 rfl) ?_
    refine fg_1331 C w hk0 tw_6_194 dX10_isAgain_50 ?_
    refine lv_iload_n hx hb dX10_isAgain_53 rfl (lv_at hl 1 rfl) ?_
    obtain ⟨a32, ea32, hka32, hJ⟩ := dr_some hJ
    rw [ea32]
    obtain ⟨hi33, hJ⟩ := ck_some hJ
    refine jr_ialdM C w hka32 hi33 dX10_isAgain_54 ?_
    obtain ⟨⟨h34, r35⟩, e36, hJ⟩ := ob_some hJ
    refine jc_Vi (As := [.int (h.bi a32 x1.toNatClampNeg)]) C w (cc_X10_hasNow N t0 h (h.bi a32 x1.toNatClampNeg) hk0 e36) (mo_X10_hasNow N t0 h (h.bi a32 x1.toNatClampNeg) e36) (mb_X10_isAgain_58 N t0 _ _ _ hJ) hz2 hk0 (by decide) rfl (fs := fs13 h t0) rfl rfl ⟨tw_8_147, tw_8_144, tw_8_146, ts_73, tw_1_7⟩ cd_X10_hasNow ⟨by decide, by decide⟩ hl.1 (by first | exact Nat.le_of_ble_eq_true rfl | simp [rf_cat, cat_i, cat_l, cat_r]) rfl dX10_isAgain_55 (fun H locs w1 => ?_)
    have hk37 := kd_keep w (mo_X10_hasNow N t0 h (h.bi a32 x1.toNatClampNeg) e36) hk0 (by decide)
    have w := w1
    exact sb_X10_isAgain_58 C hz2 N t0 _ _ _ hJ hk37 w hl
  · have hJ := it_neg c31 hJ
    by_cases c38 : (h.bi a29 x1.toNatClampNeg) = (2 : Int32)
    · have hJ := it_pos c38 hJ
      refine lv_tableIn (tgt := 110) hx hb dX10_isAgain_6 (by rw [c38]; decide) (by rw [c38]; decide) (off := 104) (by rw [c38]; rfl) (by decide) ?_
      refine lv_aload_n hx hb dX10_isAgain_110 rfl (lv_at hl 0 rfl) ?_
      refine lv_iload_n hx hb dX10_isAgain_111 rfl (lv_at hl 1 rfl) ?_
      refine lv_iconst (v := (1 : Int32)) hx hb dX10_isAgain_112 (by decide) ?_
      obtain ⟨⟨h39, r40⟩, e41, hJ⟩ := ob_some hJ
      refine jc_Vi (As := [.int x1, .int (1 : Int32)]) C w (cc_X10_isNearAgain N t0 h x1 (1 : Int32) hk0 e41) (mo_X10_isNearAgain N t0 h x1 (1 : Int32) e41) (mb_X10_isAgain_116 N t0 _ _ hJ) hz2 hk0 (by decide) rfl (fs := fs13 h t0) rfl rfl ⟨tw_8_155, tw_8_152, tw_8_154, ts_75, tw_1_7⟩ cd_X10_isNearAgain ⟨by decide, by decide⟩ hl.1 (by first | exact Nat.le_of_ble_eq_true rfl | simp [rf_cat, cat_i, cat_l, cat_r]) rfl dX10_isAgain_113 (fun H locs w1 => ?_)
      have hk42 := kd_keep w (mo_X10_isNearAgain N t0 h x1 (1 : Int32) e41) hk0 (by decide)
      have w := w1
      exact sb_X10_isAgain_116 C hz2 N t0 _ _ hJ hk42 w (lv_sub (l' := [(0, .ref t0)]) hl [0] rfl)
    · have hJ := it_neg c38 hJ
      by_cases c43 : (h.bi a29 x1.toNatClampNeg) = (3 : Int32)
      · have hJ := it_pos c43 hJ
        refine lv_tableIn (tgt := 117) hx hb dX10_isAgain_6 (by rw [c43]; decide) (by rw [c43]; decide) (off := 111) (by rw [c43]; rfl) (by decide) ?_
        refine lv_aload_n hx hb dX10_isAgain_117 rfl (lv_at hl 0 rfl) ?_
        refine lv_iload_n hx hb dX10_isAgain_118 rfl (lv_at hl 1 rfl) ?_
        refine lv_iconst (v := (0 : Int32)) hx hb dX10_isAgain_119 (by decide) ?_
        obtain ⟨⟨h44, r45⟩, e46, hJ⟩ := ob_some hJ
        refine jc_Vi (As := [.int x1, .int (0 : Int32)]) C w (cc_X10_isNearAgain N t0 h x1 (0 : Int32) hk0 e46) (mo_X10_isNearAgain N t0 h x1 (0 : Int32) e46) (mb_X10_isAgain_123 N t0 _ _ hJ) hz2 hk0 (by decide) rfl (fs := fs13 h t0) rfl rfl ⟨tw_8_155, tw_8_152, tw_8_154, ts_75, tw_1_7⟩ cd_X10_isNearAgain ⟨by decide, by decide⟩ hl.1 (by first | exact Nat.le_of_ble_eq_true rfl | simp [rf_cat, cat_i, cat_l, cat_r]) rfl dX10_isAgain_120 (fun H locs w1 => ?_)
        have hk47 := kd_keep w (mo_X10_isNearAgain N t0 h x1 (0 : Int32) e46) hk0 (by decide)
        have w := w1
        exact sb_X10_isAgain_123 C hz2 N t0 _ _ hJ hk47 w (lv_sub (l' := [(0, .ref t0)]) hl [0] rfl)
      · have hJ := it_neg c43 hJ
        by_cases c48 : (h.bi a29 x1.toNatClampNeg) = (4 : Int32)
        · have hJ := it_pos c48 hJ
          refine lv_tableIn (tgt := 124) hx hb dX10_isAgain_6 (by rw [c48]; decide) (by rw [c48]; decide) (off := 118) (by rw [c48]; rfl) (by decide) ?_
          refine lv_aload_n hx hb dX10_isAgain_124 rfl (lv_at hl 0 rfl) ?_
          refine lv_iload_n hx hb dX10_isAgain_125 rfl (lv_at hl 1 rfl) ?_
          obtain ⟨⟨h49, r50⟩, e51, hJ⟩ := ob_some hJ
          refine jc_Vi (As := [.int x1]) C w (cc_X10_isScanAgain N t0 h x1 hk0 e51) (mo_X10_isScanAgain N t0 h x1 e51) (mb_X10_isAgain_129 N t0 _ _ hJ) hz2 hk0 (by decide) rfl (fs := fs13 h t0) rfl rfl ⟨tw_8_159, tw_8_156, tw_8_158, ts_76, tw_1_7⟩ cd_X10_isScanAgain ⟨by decide, by decide⟩ hl.1 (by first | exact Nat.le_of_ble_eq_true rfl | simp [rf_cat, cat_i, cat_l, cat_r]) rfl dX10_isAgain_126 (fun H locs w1 => ?_)
          have hk52 := kd_keep w (mo_X10_isScanAgain N t0 h x1 e51) hk0 (by decide)
          have w := w1
          exact sb_X10_isAgain_129 C hz2 N t0 _ _ hJ hk52 w (lv_sub (l' := [(0, .ref t0)]) hl [0] rfl)
        · have hJ := it_neg c48 hJ
          by_cases c53 : (h.bi a29 x1.toNatClampNeg) = (5 : Int32)
          · have hJ := it_pos c53 hJ
            refine lv_tableIn (tgt := 130) hx hb dX10_isAgain_6 (by rw [c53]; decide) (by rw [c53]; decide) (off := 124) (by rw [c53]; rfl) (by decide) ?_
            exact sb_X10_isAgain_130 C hz2 N t0 _ _ hJ hk0 w hl
          · have hJ := it_neg c53 hJ
            by_cases c54 : (h.bi a29 x1.toNatClampNeg) = (6 : Int32)
            · have hJ := it_pos c54 hJ
              refine lv_tableIn (tgt := 130) hx hb dX10_isAgain_6 (by rw [c54]; decide) (by rw [c54]; decide) (off := 124) (by rw [c54]; rfl) (by decide) ?_
              exact sb_X10_isAgain_130 C hz2 N t0 _ _ hJ hk0 w hl
            · have hJ := it_neg c54 hJ
              by_cases c55 : (h.bi a29 x1.toNatClampNeg) = (7 : Int32)
              · have hJ := it_pos c55 hJ
                refine lv_tableIn (tgt := 196) hx hb dX10_isAgain_6 (by rw [c55]; decide) (by rw [c55]; decide) (off := 190) (by rw [c55]; rfl) (by decide) ?_
                refine lv_aload_n hx hb dX10_isAgain_196 rfl (lv_at hl 0 rfl) ?_
                refine fg_1364 C w hk0 tw_6_227 dX10_isAgain_197 ?_
                refine lv_aload_n hx hb dX10_isAgain_200 rfl (lv_at hl 0 rfl) ?_
                refine fg_1365 C w hk0 tw_6_228 dX10_isAgain_201 ?_
                refine lv_aload_n hx hb dX10_isAgain_204 rfl (lv_at hl 0 rfl) ?_
                refine fg_1363 C w hk0 tw_6_226 dX10_isAgain_205 ?_
                obtain ⟨a56, ea56, hka56, hJ⟩ := dr_some hJ
                rw [ea56]
                obtain ⟨hi57, hJ⟩ := ck_some hJ
                refine jr_iastM C w hka56 hi57 dX10_isAgain_208 (fun H locs w => ?_)
                refine lv_aload_n hx hb dX10_isAgain_209 rfl (lv_at hl 0 rfl) ?_
                refine lv_dup hx hb dX10_isAgain_210 rfl ?_
                refine fg_1365 C w hk0 tw_6_228 dX10_isAgain_211 ?_
                refine lv_iconst (v := (1 : Int32)) hx hb dX10_isAgain_214 (by decide) ?_
                refine lv_iadd hx hb dX10_isAgain_215 ?_
                refine fp_1365 (x := ((h.sbi a56 (h.gi 1365 t0).toNatClampNeg (h.gi 1363 t0)).gi 1365 t0) + (1 : Int32)) C w hk0 tw_6_228 dX10_isAgain_216 (fun H locs w => ?_)
                exact sb_X10_isAgain_219 C hz2 N t0 _ hJ hk0 w (lv_sub (l' := [(0, .ref t0)]) hl [0] rfl)
              · have hJ := it_neg c55 hJ
                refine lv_tableOut (tgt := 221) hx hb dX10_isAgain_6 (by have := ne_ti (n := 1) rfl c31; have := ne_ti (n := 2) rfl c38; have := ne_ti (n := 3) rfl c43; have := ne_ti (n := 4) rfl c48; have := ne_ti (n := 5) rfl c53; have := ne_ti (n := 6) rfl c54; have := ne_ti (n := 7) rfl c55;  omega) (by decide) ?_
                refine lv_aload_n hx hb dX10_isAgain_221 rfl (lv_at hl 0 rfl) ?_
                refine lv_aload_n hx hb dX10_isAgain_222 rfl (lv_at hl 0 rfl) ?_
                refine fg_1364 C w hk0 tw_6_227 dX10_isAgain_223 ?_
                refine lv_aload_n hx hb dX10_isAgain_226 rfl (lv_at hl 0 rfl) ?_
                refine fg_1331 C w hk0 tw_6_194 dX10_isAgain_227 ?_
                refine lv_iload_n hx hb dX10_isAgain_230 rfl (lv_at hl 1 rfl) ?_
                obtain ⟨a58, ea58, hka58, hJ⟩ := dr_some hJ
                rw [ea58]
                obtain ⟨hi59, hJ⟩ := ck_some hJ
                refine jr_ialdM C w hka58 hi59 dX10_isAgain_231 ?_
                refine lv_iconst (v := (1 : Int32)) hx hb dX10_isAgain_232 (by decide) ?_
                refine lv_isub hx hb dX10_isAgain_233 ?_
                obtain ⟨a60, ea60, hka60, hJ⟩ := dr_some hJ
                rw [ea60]
                obtain ⟨hi61, hJ⟩ := ck_some hJ
                refine jr_ialdM C w hka60 hi61 dX10_isAgain_234 ?_
                refine fp_1363 (x := h.bi a60 ((h.bi a58 x1.toNatClampNeg) - (1 : Int32)).toNatClampNeg) C w hk0 tw_6_226 dX10_isAgain_235 (fun H locs w => ?_)
                refine lv_aload_n hx hb dX10_isAgain_238 rfl (lv_at hl 0 rfl) ?_
                refine lv_aload_n hx hb dX10_isAgain_239 rfl (lv_at hl 0 rfl) ?_
                refine fg_1331 C w hk0 tw_6_194 dX10_isAgain_240 ?_
                refine lv_iload_n hx hb dX10_isAgain_243 rfl (lv_at hl 1 rfl) ?_
                obtain ⟨a62, ea62, hka62, hJ⟩ := dr_some hJ
                rw [ea62]
                obtain ⟨hi63, hJ⟩ := ck_some hJ
                refine jr_ialdM C w hka62 hi63 dX10_isAgain_244 ?_
                refine fp_1365 (x := (h.sgi 1363 t0 (h.bi a60 ((h.bi a58 x1.toNatClampNeg) - (1 : Int32)).toNatClampNeg)).bi a62 x1.toNatClampNeg) C w hk0 tw_6_228 dX10_isAgain_245 (fun H locs w => ?_)
                refine lv_iconst (v := (1 : Int32)) hx hb dX10_isAgain_248 (by decide) ?_
                obtain ⟨rfl, rfl⟩ := rs2 hJ
                exact jr_zret C w (Or.inr rfl) hz2 dX10_isAgain_249
def J_X10_isAgain (N : Nat) (t0 : Nat) (h : Hp) (x1 : Int32) : Option (Hp × Int32) := B_X10_isAgain_0 N t0 h x1
theorem mo_X10_isAgain (N : Nat) (t0 : Nat) (h : Hp) (x1 : Int32) (hJ : J_X10_isAgain N t0 h x1 = some (hz, rz)) : Mo h hz := mb_X10_isAgain_0 N t0 h x1 hJ
theorem cd_X10_isAgain : Cd yX10_isAgain 1 := ⟨by decide +kernel, by decide +kernel, by decide +kernel⟩
theorem cc_X10_isAgain (N : Nat) (t0 : Nat) (h : Hp) (x1 : Int32) (hk0 : h.kd t0 = 13) (hJ : J_X10_isAgain N t0 h x1 = some (hz, rz)) : Ci l yX10_isAgain cX10_isAgain 3 (some .boolean) 3 90 D cs h hz [.ref t0, .int x1] rz := by
  intro mc ms g1 g2
  refine je_any (by decide) (by simp [lg_sl, rf_cat, cat_i, cat_l, cat_r]) ?_
  intro p e s m args below meth c C hin2 w ls hl
  have hl : lv_has ls 3 [(0, .ref t0), (1, .int x1)] := hl
  exact sb_X10_isAgain_0 C ⟨g1, g2⟩ N t0 h x1 hJ hk0 w hl
end G_X10_isAgain
section G_X10_again
variable {p : Program} {l : Launch} {e : Env} {s : State} {m : MethodId} {args : Array Value} {below : List Frame} {meth : Method} {c : Code} {D : va_G} {cs : C4} {A : Nat → Prop} {h0 hz : Hp} {mc ms : Nat} {rz : Int32}
def B_X10_again_48 (N : Nat) (k14 : Hp → Int32 → Int32 → Int32 → Option (Hp × Int32)) (t0 : Nat) (h : Hp) (x1 : Int32) (x2 : Int32) (x3 : Int32) : Option (Hp × Int32) := k14 h x1 x2 (x3 + (1 : Int32))
theorem mb_X10_again_48 (N : Nat) (k14 : Hp → Int32 → Int32 → Int32 → Option (Hp × Int32)) (t0 : Nat) (h : Hp) (x1 : Int32) (x2 : Int32) (x3 : Int32) (m14 : ∀ (h : Hp) (x1 : Int32) (x2 : Int32) (x3 : Int32), k14 h x1 x2 x3 = some (hz, rz) → Mo h hz) (hJ : B_X10_again_48 N k14 t0 h x1 x2 x3 = some (hz, rz)) : Mo h hz := by
  unfold B_X10_again_48 at hJ
  exact m14 _ _ _ _ hJ
set_option maxRecDepth 100000 in
set_option maxHeartbeats 4000000 in
theorem sb_X10_again_48 (C : Cx p s m args meth c cX10_again 5 (some .int) RX10 D cs A h0.se) (hz2 : hz.nx ≤ h0.nx + mc ∧ hz.su ≤ h0.su + ms) (N : Nat) (k14 : Hp → Int32 → Int32 → Int32 → Option (Hp × Int32)) (t0 : Nat) (m14 : ∀ (h : Hp) (x1 : Int32) (x2 : Int32) (x3 : Int32), k14 h x1 x2 x3 = some (hz, rz) → Mo h hz) (i14 : ∀ (h : Hp) (x1 : Int32) (x2 : Int32) (x3 : Int32) (H : Heap) (locs : List Loc) (cells slots : Nat) (ls : Array Slot), k14 h x1 x2 x3 = some (hz, rz) → h.kd t0 = 13 → Wo D cs A s h0 h H locs cells slots → lv_has ls 5 [(0, .ref t0), (1, .int x1), (2, .int x2), (3, .int x3)] → W p l e { frames := 4, cells := mc, slots := ms, locals := 120 } s m args below meth c H locs cells slots (MQ below (Zi D cs A hz rz) args s mc ms A) (F0 m 14 ls [])) (h : Hp) (x1 : Int32) (x2 : Int32) (x3 : Int32) (hJ : B_X10_again_48 N k14 t0 h x1 x2 x3 = some (hz, rz)) (hk0 : h.kd t0 = 13) {H : Heap} {locs : List Loc} {cells slots : Nat} (w : Wo D cs A s h0 h H locs cells slots) {ls : Array Slot} (hl : lv_has ls 5 [(0, .ref t0), (1, .int x1), (2, .int x2), (3, .int x3)]) : W p l e { frames := 4, cells := mc, slots := ms, locals := 120 } s m args below meth c H locs cells slots (MQ below (Zi D cs A hz rz) args s mc ms A) (F0 m 48 ls []) := by
  obtain ⟨hx, hb, hml, hown, hts, -⟩ := id C
  unfold B_X10_again_48 at hJ
  refine lv_iinc (v := x3 + (1 : Int32)) (lv' := [(3, .int (x3 + (1 : Int32))), (0, .ref t0), (1, .int x1), (2, .int x2)]) hx hb dX10_again_48 hl (k := 3) rfl rfl (by decide) rfl (fun ls hl => ?_)
  refine lv_goto (tgt := 14) hx hb dX10_again_51 (by decide) ?_
  exact i14 _ _ _ _ _ _ _ _ _ hJ hk0 w (lv_sub (l' := [(0, .ref t0), (1, .int x1), (2, .int x2), (3, .int (x3 + (1 : Int32)))]) hl [1, 2, 3, 0] rfl)
def B_X10_again_46 (N : Nat) (k14 : Hp → Int32 → Int32 → Int32 → Option (Hp × Int32)) (t0 : Nat) (h : Hp) (x1 : Int32) (x3 : Int32) (y0 : Int32) (y1 : Int32) : Option (Hp × Int32) := B_X10_again_48 N k14 t0 h x1 (y0 + y1) x3
theorem mb_X10_again_46 (N : Nat) (k14 : Hp → Int32 → Int32 → Int32 → Option (Hp × Int32)) (t0 : Nat) (h : Hp) (x1 : Int32) (x3 : Int32) (y0 : Int32) (y1 : Int32) (m14 : ∀ (h : Hp) (x1 : Int32) (x2 : Int32) (x3 : Int32), k14 h x1 x2 x3 = some (hz, rz) → Mo h hz) (hJ : B_X10_again_46 N k14 t0 h x1 x3 y0 y1 = some (hz, rz)) : Mo h hz := by
  unfold B_X10_again_46 at hJ
  exact mb_X10_again_48 N k14 t0 _ _ _ _ m14 hJ
set_option maxRecDepth 100000 in
set_option maxHeartbeats 4000000 in
theorem sb_X10_again_46 (C : Cx p s m args meth c cX10_again 5 (some .int) RX10 D cs A h0.se) (hz2 : hz.nx ≤ h0.nx + mc ∧ hz.su ≤ h0.su + ms) (N : Nat) (k14 : Hp → Int32 → Int32 → Int32 → Option (Hp × Int32)) (t0 : Nat) (m14 : ∀ (h : Hp) (x1 : Int32) (x2 : Int32) (x3 : Int32), k14 h x1 x2 x3 = some (hz, rz) → Mo h hz) (i14 : ∀ (h : Hp) (x1 : Int32) (x2 : Int32) (x3 : Int32) (H : Heap) (locs : List Loc) (cells slots : Nat) (ls : Array Slot), k14 h x1 x2 x3 = some (hz, rz) → h.kd t0 = 13 → Wo D cs A s h0 h H locs cells slots → lv_has ls 5 [(0, .ref t0), (1, .int x1), (2, .int x2), (3, .int x3)] → W p l e { frames := 4, cells := mc, slots := ms, locals := 120 } s m args below meth c H locs cells slots (MQ below (Zi D cs A hz rz) args s mc ms A) (F0 m 14 ls [])) (h : Hp) (x1 : Int32) (x3 : Int32) (y0 : Int32) (y1 : Int32) (hJ : B_X10_again_46 N k14 t0 h x1 x3 y0 y1 = some (hz, rz)) (hk0 : h.kd t0 = 13) {H : Heap} {locs : List Loc} {cells slots : Nat} (w : Wo D cs A s h0 h H locs cells slots) {ls : Array Slot} (hl : lv_has ls 5 [(0, .ref t0), (1, .int x1), (3, .int x3)]) : W p l e { frames := 4, cells := mc, slots := ms, locals := 120 } s m args below meth c H locs cells slots (MQ below (Zi D cs A hz rz) args s mc ms A) (F0 m 46 ls [.int y1, .int y0]) := by
  obtain ⟨hx, hb, hml, hown, hts, -⟩ := id C
  unfold B_X10_again_46 at hJ
  refine lv_iadd hx hb dX10_again_46 ?_
  refine lv_istore_n (i := 2) (lv' := [(2, .int (y0 + y1)), (0, .ref t0), (1, .int x1), (3, .int x3)]) hx hb dX10_again_47 rfl hl (by decide) rfl (fun ls hl => ?_)
  exact sb_X10_again_48 C hz2 N k14 t0 m14 i14 _ _ _ _ hJ hk0 w (lv_sub (l' := [(0, .ref t0), (1, .int x1), (2, .int (y0 + y1)), (3, .int x3)]) hl [1, 2, 0, 3] rfl)
def B_X10_again_38 (N : Nat) (k14 : Hp → Int32 → Int32 → Int32 → Option (Hp × Int32)) (t0 : Nat) (h : Hp) (x1 : Int32) (x3 : Int32) (y0 : Int32) (y1 : Int32) : Option (Hp × Int32) := if y1 = 0 then (B_X10_again_46 N k14 t0 h x1 x3 y0 (1 : Int32)) else (B_X10_again_46 N k14 t0 h x1 x3 y0 (0 : Int32))
theorem mb_X10_again_38 (N : Nat) (k14 : Hp → Int32 → Int32 → Int32 → Option (Hp × Int32)) (t0 : Nat) (h : Hp) (x1 : Int32) (x3 : Int32) (y0 : Int32) (y1 : Int32) (m14 : ∀ (h : Hp) (x1 : Int32) (x2 : Int32) (x3 : Int32), k14 h x1 x2 x3 = some (hz, rz) → Mo h hz) (hJ : B_X10_again_38 N k14 t0 h x1 x3 y0 y1 = some (hz, rz)) : Mo h hz := by
  unfold B_X10_again_38 at hJ
  by_cases c1 : y1 = 0
  · have hJ := it_pos c1 hJ
    exact mb_X10_again_46 N k14 t0 _ _ _ _ _ m14 hJ
  · have hJ := it_neg c1 hJ
    exact mb_X10_again_46 N k14 t0 _ _ _ _ _ m14 hJ
set_option maxRecDepth 100000 in
set_option maxHeartbeats 4000000 in
theorem sb_X10_again_38 (C : Cx p s m args meth c cX10_again 5 (some .int) RX10 D cs A h0.se) (hz2 : hz.nx ≤ h0.nx + mc ∧ hz.su ≤ h0.su + ms) (N : Nat) (k14 : Hp → Int32 → Int32 → Int32 → Option (Hp × Int32)) (t0 : Nat) (m14 : ∀ (h : Hp) (x1 : Int32) (x2 : Int32) (x3 : Int32), k14 h x1 x2 x3 = some (hz, rz) → Mo h hz) (i14 : ∀ (h : Hp) (x1 : Int32) (x2 : Int32) (x3 : Int32) (H : Heap) (locs : List Loc) (cells slots : Nat) (ls : Array Slot), k14 h x1 x2 x3 = some (hz, rz) → h.kd t0 = 13 → Wo D cs A s h0 h H locs cells slots → lv_has ls 5 [(0, .ref t0), (1, .int x1), (2, .int x2), (3, .int x3)] → W p l e { frames := 4, cells := mc, slots := ms, locals := 120 } s m args below meth c H locs cells slots (MQ below (Zi D cs A hz rz) args s mc ms A) (F0 m 14 ls [])) (h : Hp) (x1 : Int32) (x3 : Int32) (y0 : Int32) (y1 : Int32) (hJ : B_X10_again_38 N k14 t0 h x1 x3 y0 y1 = some (hz, rz)) (hk0 : h.kd t0 = 13) {H : Heap} {locs : List Loc} {cells slots : Nat} (w : Wo D cs A s h0 h H locs cells slots) {ls : Array Slot} (hl : lv_has ls 5 [(0, .ref t0), (1, .int x1), (3, .int x3)]) : W p l e { frames := 4, cells := mc, slots := ms, locals := 120 } s m args below meth c H locs cells slots (MQ below (Zi D cs A hz rz) args s mc ms A) (F0 m 38 ls [.int y1, .int y0]) := by
  obtain ⟨hx, hb, hml, hown, hts, -⟩ := id C
  unfold B_X10_again_38 at hJ
  refine lv_if_eq (tgt := 45) hx hb dX10_again_38 (by decide) (fun c1 => ?_) (fun c1 => ?_)
  · have hJ := it_pos c1 hJ
    refine lv_iconst (v := (1 : Int32)) hx hb dX10_again_45 (by decide) ?_
    exact sb_X10_again_46 C hz2 N k14 t0 m14 i14 _ _ _ _ _ hJ hk0 w hl
  · have hJ := it_neg c1 hJ
    refine lv_iconst (v := (0 : Int32)) hx hb dX10_again_41 (by decide) ?_
    refine lv_goto (tgt := 46) hx hb dX10_again_42 (by decide) ?_
    exact sb_X10_again_46 C hz2 N k14 t0 m14 i14 _ _ _ _ _ hJ hk0 w hl
def B_X10_again_74 (N : Nat) (k56 : Hp → Int32 → Int32 → Option (Hp × Int32)) (t0 : Nat) (h : Hp) (x2 : Int32) (x3 : Int32) (y0 : Int32) : Option (Hp × Int32) := dr h 32 (h.gr 1362 t0) (fun a2 => ck (¬ (x3 < 0 ∨ h.al a2 ≤ x3.toNatClampNeg)) (dr h 32 (h.gr 1358 t0) (fun a4 => ck (¬ (y0 < 0 ∨ h.al a4 ≤ y0.toNatClampNeg)) (ck (h.bi a2 x3.toNatClampNeg = 0 ∨ h.bi a2 x3.toNatClampNeg = 1) (dr (h.sbi a4 y0.toNatClampNeg (h.bi a2 x3.toNatClampNeg)) 31 ((h.sbi a4 y0.toNatClampNeg (h.bi a2 x3.toNatClampNeg)).gr 1361 t0) (fun a7 => ck (¬ (x3 < 0 ∨ (h.sbi a4 y0.toNatClampNeg (h.bi a2 x3.toNatClampNeg)).al a7 ≤ x3.toNatClampNeg)) (dr (h.sbi a4 y0.toNatClampNeg (h.bi a2 x3.toNatClampNeg)) 31 ((h.sbi a4 y0.toNatClampNeg (h.bi a2 x3.toNatClampNeg)).gr 1359 t0) (fun a9 => ck (¬ (y0 < 0 ∨ (h.sbi a4 y0.toNatClampNeg (h.bi a2 x3.toNatClampNeg)).al a9 ≤ y0.toNatClampNeg)) (k56 ((h.sbi a4 y0.toNatClampNeg (h.bi a2 x3.toNatClampNeg)).sbw a9 y0.toNatClampNeg ((h.sbi a4 y0.toNatClampNeg (h.bi a2 x3.toNatClampNeg)).bw a7 x3.toNatClampNeg)) x2 (x3 + (1 : Int32)))))))))))
theorem mb_X10_again_74 (N : Nat) (k56 : Hp → Int32 → Int32 → Option (Hp × Int32)) (t0 : Nat) (h : Hp) (x2 : Int32) (x3 : Int32) (y0 : Int32) (m56 : ∀ (h : Hp) (x2 : Int32) (x3 : Int32), k56 h x2 x3 = some (hz, rz) → Mo h hz) (hJ : B_X10_again_74 N k56 t0 h x2 x3 y0 = some (hz, rz)) : Mo h hz := by
  unfold B_X10_again_74 at hJ
  obtain ⟨a2, ea2, -, hJ⟩ := dr_some hJ
  obtain ⟨-, hJ⟩ := ck_some hJ
  obtain ⟨a4, ea4, -, hJ⟩ := dr_some hJ
  obtain ⟨-, hJ⟩ := ck_some hJ
  obtain ⟨-, hJ⟩ := ck_some hJ
  obtain ⟨a7, ea7, -, hJ⟩ := dr_some hJ
  obtain ⟨-, hJ⟩ := ck_some hJ
  obtain ⟨a9, ea9, -, hJ⟩ := dr_some hJ
  obtain ⟨-, hJ⟩ := ck_some hJ
  exact (Mo.tr (show Mo h ((h.sbi a4 y0.toNatClampNeg (h.bi a2 x3.toNatClampNeg)).sbw a9 y0.toNatClampNeg ((h.sbi a4 y0.toNatClampNeg (h.bi a2 x3.toNatClampNeg)).bw a7 x3.toNatClampNeg)) from ⟨fun _ _ => rfl, Nat.le_refl _, Nat.le_refl _, rfl, fun _ _ => rfl⟩) (m56 _ _ _ hJ))
set_option maxRecDepth 100000 in
set_option maxHeartbeats 4000000 in
theorem sb_X10_again_74 (C : Cx p s m args meth c cX10_again 5 (some .int) RX10 D cs A h0.se) (hz2 : hz.nx ≤ h0.nx + mc ∧ hz.su ≤ h0.su + ms) (N : Nat) (k56 : Hp → Int32 → Int32 → Option (Hp × Int32)) (t0 : Nat) (m56 : ∀ (h : Hp) (x2 : Int32) (x3 : Int32), k56 h x2 x3 = some (hz, rz) → Mo h hz) (i56 : ∀ (h : Hp) (x2 : Int32) (x3 : Int32) (H : Heap) (locs : List Loc) (cells slots : Nat) (ls : Array Slot), k56 h x2 x3 = some (hz, rz) → h.kd t0 = 13 → Wo D cs A s h0 h H locs cells slots → lv_has ls 5 [(0, .ref t0), (2, .int x2), (3, .int x3)] → W p l e { frames := 4, cells := mc, slots := ms, locals := 120 } s m args below meth c H locs cells slots (MQ below (Zi D cs A hz rz) args s mc ms A) (F0 m 56 ls [])) (h : Hp) (x2 : Int32) (x3 : Int32) (y0 : Int32) (hJ : B_X10_again_74 N k56 t0 h x2 x3 y0 = some (hz, rz)) (hk0 : h.kd t0 = 13) {H : Heap} {locs : List Loc} {cells slots : Nat} (w : Wo D cs A s h0 h H locs cells slots) {ls : Array Slot} (hl : lv_has ls 5 [(0, .ref t0), (2, .int x2), (3, .int x3)]) : W p l e { frames := 4, cells := mc, slots := ms, locals := 120 } s m args below meth c H locs cells slots (MQ below (Zi D cs A hz rz) args s mc ms A) (F0 m 74 ls [.int y0]) := by
  obtain ⟨hx, hb, hml, hown, hts, -⟩ := id C
  unfold B_X10_again_74 at hJ
  refine lv_istore (i := 4) (lv' := [(4, .int y0), (0, .ref t0), (2, .int x2), (3, .int x3)]) hx hb dX10_again_74 hl (by decide) rfl (fun ls hl => ?_)
  refine lv_aload_n hx hb dX10_again_76 rfl (lv_at hl 1 rfl) ?_
  refine fg_1358 C w hk0 tw_6_221 dX10_again_77 ?_
  refine lv_iload hx hb dX10_again_80 (lv_at hl 0 rfl) ?_
  refine lv_aload_n hx hb dX10_again_82 rfl (lv_at hl 1 rfl) ?_
  refine fg_1362 C w hk0 tw_6_225 dX10_again_83 ?_
  refine lv_iload_n hx hb dX10_again_86 rfl (lv_at hl 3 rfl) ?_
  obtain ⟨a2, ea2, hka2, hJ⟩ := dr_some hJ
  rw [ea2]
  obtain ⟨hi3, hJ⟩ := ck_some hJ
  refine jr_zaldM C w hka2 hi3 dX10_again_87 ?_
  obtain ⟨a4, ea4, hka4, hJ⟩ := dr_some hJ
  rw [ea4]
  obtain ⟨hi5, hJ⟩ := ck_some hJ
  obtain ⟨hzo6, hJ⟩ := ck_some hJ
  refine jr_zastM C w hka4 hi5 hzo6 dX10_again_88 (fun H locs w => ?_)
  refine lv_aload_n hx hb dX10_again_89 rfl (lv_at hl 1 rfl) ?_
  refine fg_1359 C w hk0 tw_6_222 dX10_again_90 ?_
  refine lv_iload hx hb dX10_again_93 (lv_at hl 0 rfl) ?_
  refine lv_aload_n hx hb dX10_again_95 rfl (lv_at hl 1 rfl) ?_
  refine fg_1361 C w hk0 tw_6_224 dX10_again_96 ?_
  refine lv_iload_n hx hb dX10_again_99 rfl (lv_at hl 3 rfl) ?_
  obtain ⟨a7, ea7, hka7, hJ⟩ := dr_some hJ
  rw [ea7]
  obtain ⟨hi8, hJ⟩ := ck_some hJ
  refine jr_laldM C w hka7 hi8 dX10_again_100 ?_
  obtain ⟨a9, ea9, hka9, hJ⟩ := dr_some hJ
  rw [ea9]
  obtain ⟨hi10, hJ⟩ := ck_some hJ
  refine jr_lastM C w hka9 hi10 dX10_again_101 (fun H locs w => ?_)
  refine lv_iinc (v := x3 + (1 : Int32)) (lv' := [(3, .int (x3 + (1 : Int32))), (4, .int y0), (0, .ref t0), (2, .int x2)]) hx hb dX10_again_102 hl (k := 3) rfl rfl (by decide) rfl (fun ls hl => ?_)
  refine lv_goto (tgt := 56) hx hb dX10_again_105 (by decide) ?_
  exact i56 _ _ _ _ _ _ _ _ hJ hk0 w (lv_sub (l' := [(0, .ref t0), (2, .int x2), (3, .int (x3 + (1 : Int32)))]) hl [2, 3, 0] rfl)
def B_X10_again_56 (N : Nat) (k56 : Hp → Int32 → Int32 → Option (Hp × Int32)) (t0 : Nat) (h : Hp) (x2 : Int32) (x3 : Int32) : Option (Hp × Int32) := if (h.gi 1363 t0) ≤ x3 then (some (h, x2)) else (dr h 30 (h.gr 1360 t0) (fun a12 => ck (¬ (x3 < 0 ∨ h.al a12 ≤ x3.toNatClampNeg)) ((J_X10_keyAt N t0 h (h.bi a12 x3.toNatClampNeg)).bind (fun z => B_X10_again_74 N k56 t0 z.1 x2 x3 z.2))))
theorem mb_X10_again_56 (N : Nat) (k56 : Hp → Int32 → Int32 → Option (Hp × Int32)) (t0 : Nat) (h : Hp) (x2 : Int32) (x3 : Int32) (m56 : ∀ (h : Hp) (x2 : Int32) (x3 : Int32), k56 h x2 x3 = some (hz, rz) → Mo h hz) (hJ : B_X10_again_56 N k56 t0 h x2 x3 = some (hz, rz)) : Mo h hz := by
  unfold B_X10_again_56 at hJ
  by_cases c11 : (h.gi 1363 t0) ≤ x3
  · have hJ := it_pos c11 hJ
    obtain ⟨rfl, -⟩ := rs2 hJ
    exact ⟨fun _ _ => rfl, Nat.le_refl _, Nat.le_refl _, rfl, fun _ _ => rfl⟩
  · have hJ := it_neg c11 hJ
    obtain ⟨a12, ea12, -, hJ⟩ := dr_some hJ
    obtain ⟨-, hJ⟩ := ck_some hJ
    obtain ⟨⟨h14, r15⟩, e16, hJ⟩ := ob_some hJ
    exact (mo_X10_keyAt N t0 h (h.bi a12 x3.toNatClampNeg) e16).tr (mb_X10_again_74 N k56 t0 _ _ _ _ m56 hJ)
set_option maxRecDepth 100000 in
set_option maxHeartbeats 4000000 in
theorem sb_X10_again_56 (C : Cx p s m args meth c cX10_again 5 (some .int) RX10 D cs A h0.se) (hz2 : hz.nx ≤ h0.nx + mc ∧ hz.su ≤ h0.su + ms) (N : Nat) (k56 : Hp → Int32 → Int32 → Option (Hp × Int32)) (t0 : Nat) (m56 : ∀ (h : Hp) (x2 : Int32) (x3 : Int32), k56 h x2 x3 = some (hz, rz) → Mo h hz) (i56 : ∀ (h : Hp) (x2 : Int32) (x3 : Int32) (H : Heap) (locs : List Loc) (cells slots : Nat) (ls : Array Slot), k56 h x2 x3 = some (hz, rz) → h.kd t0 = 13 → Wo D cs A s h0 h H locs cells slots → lv_has ls 5 [(0, .ref t0), (2, .int x2), (3, .int x3)] → W p l e { frames := 4, cells := mc, slots := ms, locals := 120 } s m args below meth c H locs cells slots (MQ below (Zi D cs A hz rz) args s mc ms A) (F0 m 56 ls [])) (h : Hp) (x2 : Int32) (x3 : Int32) (hJ : B_X10_again_56 N k56 t0 h x2 x3 = some (hz, rz)) (hk0 : h.kd t0 = 13) {H : Heap} {locs : List Loc} {cells slots : Nat} (w : Wo D cs A s h0 h H locs cells slots) {ls : Array Slot} (hl : lv_has ls 5 [(0, .ref t0), (2, .int x2), (3, .int x3)]) : W p l e { frames := 4, cells := mc, slots := ms, locals := 120 } s m args below meth c H locs cells slots (MQ below (Zi D cs A hz rz) args s mc ms A) (F0 m 56 ls []) := by
  obtain ⟨hx, hb, hml, hown, hts, -⟩ := id C
  unfold B_X10_again_56 at hJ
  refine lv_iload_n hx hb dX10_again_56 rfl (lv_at hl 2 rfl) ?_
  refine lv_aload_n hx hb dX10_again_57 rfl (lv_at hl 0 rfl) ?_
  refine fg_1363 C w hk0 tw_6_226 dX10_again_58 ?_
  refine lv_icmp_ge (tgt := 108) hx hb dX10_again_61 (by decide) (fun c11 => ?_) (fun c11 => ?_)
  · have hJ := it_pos c11 hJ
    refine lv_iload_n hx hb dX10_again_108 rfl (lv_at hl 1 rfl) ?_
    obtain ⟨rfl, rfl⟩ := rs2 hJ
    exact jr_iret C w hz2 dX10_again_109
  · have hJ := it_neg c11 hJ
    refine lv_aload_n hx hb dX10_again_64 rfl (lv_at hl 0 rfl) ?_
    refine lv_aload_n hx hb dX10_again_65 rfl (lv_at hl 0 rfl) ?_
    refine fg_1360 C w hk0 tw_6_223 dX10_again_66 ?_
    refine lv_iload_n hx hb dX10_again_69 rfl (lv_at hl 2 rfl) ?_
    obtain ⟨a12, ea12, hka12, hJ⟩ := dr_some hJ
    rw [ea12]
    obtain ⟨hi13, hJ⟩ := ck_some hJ
    refine jr_ialdM C w hka12 hi13 dX10_again_70 ?_
    obtain ⟨⟨h14, r15⟩, e16, hJ⟩ := ob_some hJ
    refine jc_Vi (As := [.int (h.bi a12 x3.toNatClampNeg)]) C w (cc_X10_keyAt N t0 h (h.bi a12 x3.toNatClampNeg) hk0 e16) (mo_X10_keyAt N t0 h (h.bi a12 x3.toNatClampNeg) e16) (mb_X10_again_74 N k56 t0 _ _ _ _ m56 hJ) hz2 hk0 (by decide) rfl (fs := fs13 h t0) rfl rfl ⟨tw_8_151, tw_8_148, tw_8_150, ts_74, tw_1_7⟩ cd_X10_keyAt ⟨by decide, by decide⟩ hl.1 (by first | exact Nat.le_of_ble_eq_true rfl | simp [rf_cat, cat_i, cat_l, cat_r]) rfl dX10_again_71 (fun H locs w1 => ?_)
    have hk17 := kd_keep w (mo_X10_keyAt N t0 h (h.bi a12 x3.toNatClampNeg) e16) hk0 (by decide)
    have w := w1
    exact sb_X10_again_74 C hz2 N k56 t0 m56 i56 _ _ _ _ hJ hk17 w hl
def L_X10_again_56 (N : Nat) (t0 : Nat) : Nat → Hp → Int32 → Int32 → Option (Hp × Int32)
  | 0 => fun _ _ _ => none
  | n + 1 => fun h x2 x3 => B_X10_again_56 N (L_X10_again_56 N t0 n) t0 h x2 x3
theorem ml_X10_again_56 (N : Nat) (t0 : Nat) : ∀ (n : Nat) (h : Hp) (x2 : Int32) (x3 : Int32), L_X10_again_56 N t0 n h x2 x3 = some (hz, rz) → Mo h hz := by
  intro n
  induction n with
  | zero => intro h x2 x3 hJ; cases hJ
  | succ n ih => intro h x2 x3 hJ; exact mb_X10_again_56 N (L_X10_again_56 N t0 n) t0 h x2 x3 ih hJ
theorem sl_X10_again_56 (C : Cx p s m args meth c cX10_again 5 (some .int) RX10 D cs A h0.se) (hz2 : hz.nx ≤ h0.nx + mc ∧ hz.su ≤ h0.su + ms) (N : Nat) (t0 : Nat) : ∀ n : Nat, ∀ (h : Hp) (x2 : Int32) (x3 : Int32) (H : Heap) (locs : List Loc) (cells slots : Nat) (ls : Array Slot), L_X10_again_56 N t0 n h x2 x3 = some (hz, rz) → h.kd t0 = 13 → Wo D cs A s h0 h H locs cells slots → lv_has ls 5 [(0, .ref t0), (2, .int x2), (3, .int x3)] → W p l e { frames := 4, cells := mc, slots := ms, locals := 120 } s m args below meth c H locs cells slots (MQ below (Zi D cs A hz rz) args s mc ms A) (F0 m 56 ls []) := by
  intro n
  induction n with
  | zero => intro h x2 x3 H locs cells slots ls hJ; cases hJ
  | succ n ih =>
    intro h x2 x3 H locs cells slots ls hJ hk0 w hl
    exact sb_X10_again_56 C hz2 N (L_X10_again_56 N t0 n) t0 (ml_X10_again_56 N t0 n) ih h x2 x3 hJ hk0 w hl
def B_X10_again_14 (N : Nat) (k14 : Hp → Int32 → Int32 → Int32 → Option (Hp × Int32)) (t0 : Nat) (h : Hp) (x1 : Int32) (x2 : Int32) (x3 : Int32) : Option (Hp × Int32) := if (h.gi 1339 t0) ≤ x3 then (L_X10_again_56 N t0 N h x2 (0 : Int32)) else (dr h 30 (h.gr 1330 t0) (fun a19 => ck (¬ (x3 < 0 ∨ h.al a19 ≤ x3.toNatClampNeg)) (if (h.bi a19 x3.toNatClampNeg) = x1 then ((J_X10_isAgain N t0 h x3).bind (fun z => B_X10_again_38 N k14 t0 z.1 x1 x3 x2 z.2)) else (B_X10_again_48 N k14 t0 h x1 x2 x3))))
theorem mb_X10_again_14 (N : Nat) (k14 : Hp → Int32 → Int32 → Int32 → Option (Hp × Int32)) (t0 : Nat) (h : Hp) (x1 : Int32) (x2 : Int32) (x3 : Int32) (m14 : ∀ (h : Hp) (x1 : Int32) (x2 : Int32) (x3 : Int32), k14 h x1 x2 x3 = some (hz, rz) → Mo h hz) (hJ : B_X10_again_14 N k14 t0 h x1 x2 x3 = some (hz, rz)) : Mo h hz := by
  unfold B_X10_again_14 at hJ
  by_cases c18 : (h.gi 1339 t0) ≤ x3
  · have hJ := it_pos c18 hJ
    exact ml_X10_again_56 N t0 N _ _ _ hJ
  · have hJ := it_neg c18 hJ
    obtain ⟨a19, ea19, -, hJ⟩ := dr_some hJ
    obtain ⟨-, hJ⟩ := ck_some hJ
    by_cases c21 : (h.bi a19 x3.toNatClampNeg) = x1
    · have hJ := it_pos c21 hJ
      obtain ⟨⟨h22, r23⟩, e24, hJ⟩ := ob_some hJ
      exact (mo_X10_isAgain N t0 h x3 e24).tr (mb_X10_again_38 N k14 t0 _ _ _ _ _ m14 hJ)
    · have hJ := it_neg c21 hJ
      exact mb_X10_again_48 N k14 t0 _ _ _ _ m14 hJ
set_option maxRecDepth 100000 in
set_option maxHeartbeats 4000000 in
theorem sb_X10_again_14 (C : Cx p s m args meth c cX10_again 5 (some .int) RX10 D cs A h0.se) (hz2 : hz.nx ≤ h0.nx + mc ∧ hz.su ≤ h0.su + ms) (N : Nat) (k14 : Hp → Int32 → Int32 → Int32 → Option (Hp × Int32)) (t0 : Nat) (m14 : ∀ (h : Hp) (x1 : Int32) (x2 : Int32) (x3 : Int32), k14 h x1 x2 x3 = some (hz, rz) → Mo h hz) (i14 : ∀ (h : Hp) (x1 : Int32) (x2 : Int32) (x3 : Int32) (H : Heap) (locs : List Loc) (cells slots : Nat) (ls : Array Slot), k14 h x1 x2 x3 = some (hz, rz) → h.kd t0 = 13 → Wo D cs A s h0 h H locs cells slots → lv_has ls 5 [(0, .ref t0), (1, .int x1), (2, .int x2), (3, .int x3)] → W p l e { frames := 4, cells := mc, slots := ms, locals := 120 } s m args below meth c H locs cells slots (MQ below (Zi D cs A hz rz) args s mc ms A) (F0 m 14 ls [])) (h : Hp) (x1 : Int32) (x2 : Int32) (x3 : Int32) (hJ : B_X10_again_14 N k14 t0 h x1 x2 x3 = some (hz, rz)) (hk0 : h.kd t0 = 13) {H : Heap} {locs : List Loc} {cells slots : Nat} (w : Wo D cs A s h0 h H locs cells slots) {ls : Array Slot} (hl : lv_has ls 5 [(0, .ref t0), (1, .int x1), (2, .int x2), (3, .int x3)]) : W p l e { frames := 4, cells := mc, slots := ms, locals := 120 } s m args below meth c H locs cells slots (MQ below (Zi D cs A hz rz) args s mc ms A) (F0 m 14 ls []) := by
  obtain ⟨hx, hb, hml, hown, hts, -⟩ := id C
  unfold B_X10_again_14 at hJ
  refine lv_iload_n hx hb dX10_again_14 rfl (lv_at hl 3 rfl) ?_
  refine lv_aload_n hx hb dX10_again_15 rfl (lv_at hl 0 rfl) ?_
  refine fg_1339 C w hk0 tw_6_202 dX10_again_16 ?_
  refine lv_icmp_ge (tgt := 54) hx hb dX10_again_19 (by decide) (fun c18 => ?_) (fun c18 => ?_)
  · have hJ := it_pos c18 hJ
    refine lv_iconst (v := (0 : Int32)) hx hb dX10_again_54 (by decide) ?_
    refine lv_istore_n (i := 3) (lv' := [(3, .int (0 : Int32)), (0, .ref t0), (1, .int x1), (2, .int x2)]) hx hb dX10_again_55 rfl hl (by decide) rfl (fun ls hl => ?_)
    exact sl_X10_again_56 C hz2 N t0 N _ _ _ _ _ _ _ _ hJ hk0 w (lv_sub (l' := [(0, .ref t0), (2, .int x2), (3, .int (0 : Int32))]) hl [1, 3, 0] rfl)
  · have hJ := it_neg c18 hJ
    refine lv_aload_n hx hb dX10_again_22 rfl (lv_at hl 0 rfl) ?_
    refine fg_1330 C w hk0 tw_6_193 dX10_again_23 ?_
    refine lv_iload_n hx hb dX10_again_26 rfl (lv_at hl 3 rfl) ?_
    obtain ⟨a19, ea19, hka19, hJ⟩ := dr_some hJ
    rw [ea19]
    obtain ⟨hi20, hJ⟩ := ck_some hJ
    refine jr_ialdM C w hka19 hi20 dX10_again_27 ?_
    refine lv_iload_n hx hb dX10_again_28 rfl (lv_at hl 1 rfl) ?_
    refine lv_icmp_ne (tgt := 48) hx hb dX10_again_29 (by decide) (fun c21 => ?_) (fun c21 => ?_)
    · have hJ := it_neg c21 hJ
      exact sb_X10_again_48 C hz2 N k14 t0 m14 i14 _ _ _ _ hJ hk0 w hl
    · have hJ := it_pos c21 hJ
      refine lv_iload_n hx hb dX10_again_32 rfl (lv_at hl 2 rfl) ?_
      refine lv_aload_n hx hb dX10_again_33 rfl (lv_at hl 0 rfl) ?_
      refine lv_iload_n hx hb dX10_again_34 rfl (lv_at hl 3 rfl) ?_
      obtain ⟨⟨h22, r23⟩, e24, hJ⟩ := ob_some hJ
      refine jc_Vi (As := [.int x3]) C w (cc_X10_isAgain N t0 h x3 hk0 e24) (mo_X10_isAgain N t0 h x3 e24) (mb_X10_again_38 N k14 t0 _ _ _ _ _ m14 hJ) hz2 hk0 (by decide) rfl (fs := fs13 h t0) rfl rfl ⟨tw_8_143, tw_8_140, tw_8_142, ts_72, tw_1_7⟩ cd_X10_isAgain ⟨by decide, by decide⟩ hl.1 (by first | exact Nat.le_of_ble_eq_true rfl | simp [rf_cat, cat_i, cat_l, cat_r]) rfl dX10_again_35 (fun H locs w1 => ?_)
      have hk25 := kd_keep w (mo_X10_isAgain N t0 h x3 e24) hk0 (by decide)
      have w := w1
      exact sb_X10_again_38 C hz2 N k14 t0 m14 i14 _ _ _ _ _ hJ hk25 w (lv_sub (l' := [(0, .ref t0), (1, .int x1), (3, .int x3)]) hl [0, 1, 3] rfl)
def L_X10_again_14 (N : Nat) (t0 : Nat) : Nat → Hp → Int32 → Int32 → Int32 → Option (Hp × Int32)
  | 0 => fun _ _ _ _ => none
  | n + 1 => fun h x1 x2 x3 => B_X10_again_14 N (L_X10_again_14 N t0 n) t0 h x1 x2 x3
theorem ml_X10_again_14 (N : Nat) (t0 : Nat) : ∀ (n : Nat) (h : Hp) (x1 : Int32) (x2 : Int32) (x3 : Int32), L_X10_again_14 N t0 n h x1 x2 x3 = some (hz, rz) → Mo h hz := by
  intro n
  induction n with
  | zero => intro h x1 x2 x3 hJ; cases hJ
  | succ n ih => intro h x1 x2 x3 hJ; exact mb_X10_again_14 N (L_X10_again_14 N t0 n) t0 h x1 x2 x3 ih hJ
theorem sl_X10_again_14 (C : Cx p s m args meth c cX10_again 5 (some .int) RX10 D cs A h0.se) (hz2 : hz.nx ≤ h0.nx + mc ∧ hz.su ≤ h0.su + ms) (N : Nat) (t0 : Nat) : ∀ n : Nat, ∀ (h : Hp) (x1 : Int32) (x2 : Int32) (x3 : Int32) (H : Heap) (locs : List Loc) (cells slots : Nat) (ls : Array Slot), L_X10_again_14 N t0 n h x1 x2 x3 = some (hz, rz) → h.kd t0 = 13 → Wo D cs A s h0 h H locs cells slots → lv_has ls 5 [(0, .ref t0), (1, .int x1), (2, .int x2), (3, .int x3)] → W p l e { frames := 4, cells := mc, slots := ms, locals := 120 } s m args below meth c H locs cells slots (MQ below (Zi D cs A hz rz) args s mc ms A) (F0 m 14 ls []) := by
  intro n
  induction n with
  | zero => intro h x1 x2 x3 H locs cells slots ls hJ; cases hJ
  | succ n ih =>
    intro h x1 x2 x3 H locs cells slots ls hJ hk0 w hl
    exact sb_X10_again_14 C hz2 N (L_X10_again_14 N t0 n) t0 (ml_X10_again_14 N t0 n) ih h x1 x2 x3 hJ hk0 w hl
def B_X10_again_0 (N : Nat) (t0 : Nat) (h : Hp) (x1 : Int32) : Option (Hp × Int32) := L_X10_again_14 N t0 N ((h.sgi 1363 t0 (0 : Int32)).sgi 1365 t0 (0 : Int32)) x1 (0 : Int32) (0 : Int32)
theorem mb_X10_again_0 (N : Nat) (t0 : Nat) (h : Hp) (x1 : Int32) (hJ : B_X10_again_0 N t0 h x1 = some (hz, rz)) : Mo h hz := by
  unfold B_X10_again_0 at hJ
  exact (Mo.tr (show Mo h ((h.sgi 1363 t0 (0 : Int32)).sgi 1365 t0 (0 : Int32)) from ⟨fun _ _ => rfl, Nat.le_refl _, Nat.le_refl _, rfl, fun _ _ => rfl⟩) (ml_X10_again_14 N t0 N _ _ _ _ hJ))
set_option maxRecDepth 100000 in
set_option maxHeartbeats 4000000 in
theorem sb_X10_again_0 (C : Cx p s m args meth c cX10_again 5 (some .int) RX10 D cs A h0.se) (hz2 : hz.nx ≤ h0.nx + mc ∧ hz.su ≤ h0.su + ms) (N : Nat) (t0 : Nat) (h : Hp) (x1 : Int32) (hJ : B_X10_again_0 N t0 h x1 = some (hz, rz)) (hk0 : h.kd t0 = 13) {H : Heap} {locs : List Loc} {cells slots : Nat} (w : Wo D cs A s h0 h H locs cells slots) {ls : Array Slot} (hl : lv_has ls 5 [(0, .ref t0), (1, .int x1)]) : W p l e { frames := 4, cells := mc, slots := ms, locals := 120 } s m args below meth c H locs cells slots (MQ below (Zi D cs A hz rz) args s mc ms A) (F0 m 0 ls []) := by
  obtain ⟨hx, hb, hml, hown, hts, -⟩ := id C
  unfold B_X10_again_0 at hJ
  refine lv_aload_n hx hb dX10_again_0 rfl (lv_at hl 0 rfl) ?_
  refine lv_iconst (v := (0 : Int32)) hx hb dX10_again_1 (by decide) ?_
  refine fp_1363 (x := (0 : Int32)) C w hk0 tw_6_226 dX10_again_2 (fun H locs w => ?_)
  refine lv_aload_n hx hb dX10_again_5 rfl (lv_at hl 0 rfl) ?_
  refine lv_iconst (v := (0 : Int32)) hx hb dX10_again_6 (by decide) ?_
  refine fp_1365 (x := (0 : Int32)) C w hk0 tw_6_228 dX10_again_7 (fun H locs w => ?_)
  refine lv_iconst (v := (0 : Int32)) hx hb dX10_again_10 (by decide) ?_
  refine lv_istore_n (i := 2) (lv' := [(2, .int (0 : Int32)), (0, .ref t0), (1, .int x1)]) hx hb dX10_again_11 rfl hl (by decide) rfl (fun ls hl => ?_)
  refine lv_iconst (v := (0 : Int32)) hx hb dX10_again_12 (by decide) ?_
  refine lv_istore_n (i := 3) (lv' := [(3, .int (0 : Int32)), (2, .int (0 : Int32)), (0, .ref t0), (1, .int x1)]) hx hb dX10_again_13 rfl hl (by decide) rfl (fun ls hl => ?_)
  exact sl_X10_again_14 C hz2 N t0 N _ _ _ _ _ _ _ _ _ hJ hk0 w (lv_sub (l' := [(0, .ref t0), (1, .int x1), (2, .int (0 : Int32)), (3, .int (0 : Int32))]) hl [2, 3, 1, 0] rfl)
def J_X10_again (N : Nat) (t0 : Nat) (h : Hp) (x1 : Int32) : Option (Hp × Int32) := B_X10_again_0 N t0 h x1
theorem mo_X10_again (N : Nat) (t0 : Nat) (h : Hp) (x1 : Int32) (hJ : J_X10_again N t0 h x1 = some (hz, rz)) : Mo h hz := mb_X10_again_0 N t0 h x1 hJ
theorem cd_X10_again : Cd yX10_again 1 := ⟨by decide +kernel, by decide +kernel, by decide +kernel⟩
theorem cc_X10_again (N : Nat) (t0 : Nat) (h : Hp) (x1 : Int32) (hk0 : h.kd t0 = 13) (hJ : J_X10_again N t0 h x1 = some (hz, rz)) : Ci l yX10_again cX10_again 5 (some .int) 4 120 D cs h hz [.ref t0, .int x1] rz := by
  intro mc ms g1 g2
  refine je_any (by decide) (by simp [lg_sl, rf_cat, cat_i, cat_l, cat_r]) ?_
  intro p e s m args below meth c C hin2 w ls hl
  have hl : lv_has ls 5 [(0, .ref t0), (1, .int x1)] := hl
  exact sb_X10_again_0 C ⟨g1, g2⟩ N t0 h x1 hJ hk0 w hl
end G_X10_again
section G_X10_joins
variable {p : Program} {l : Launch} {e : Env} {s : State} {m : MethodId} {args : Array Value} {below : List Frame} {meth : Method} {c : Code} {D : va_G} {cs : C4} {A : Nat → Prop} {h0 hz : Hp} {mc ms : Nat}
def B_X10_joins_28 (N : Nat) (t0 : Nat) (h : Hp) : Option (Hp × Unit) := some (h, ())
theorem mb_X10_joins_28 (N : Nat) (t0 : Nat) (h : Hp) (hJ : B_X10_joins_28 N t0 h = some (hz, ())) : Mo h hz := by
  unfold B_X10_joins_28 at hJ
  obtain ⟨rfl, -⟩ := rs2 hJ
  exact ⟨fun _ _ => rfl, Nat.le_refl _, Nat.le_refl _, rfl, fun _ _ => rfl⟩
set_option maxRecDepth 100000 in
set_option maxHeartbeats 4000000 in
theorem sb_X10_joins_28 (C : Cx p s m args meth c cX10_joins 3 none RX10 D cs A h0.se) (hz2 : hz.nx ≤ h0.nx + mc ∧ hz.su ≤ h0.su + ms) (N : Nat) (t0 : Nat) (h : Hp) (hJ : B_X10_joins_28 N t0 h = some (hz, ())) (hk0 : h.kd t0 = 13) {H : Heap} {locs : List Loc} {cells slots : Nat} (w : Wo D cs A s h0 h H locs cells slots) {ls : Array Slot} (hl : lv_has ls 3 [(0, .ref t0)]) : W p l e { frames := 0, cells := mc, slots := ms, locals := 0 } s m args below meth c H locs cells slots (MQ below (Zv D cs A hz) args s mc ms A) (F0 m 28 ls []) := by
  obtain ⟨hx, hb, hml, hown, hts, -⟩ := id C
  unfold B_X10_joins_28 at hJ
  obtain ⟨rfl, -⟩ := rs2 hJ
  exact jr_vret C w hz2 dX10_joins_28
def B_X10_joins_0 (N : Nat) (t0 : Nat) (h : Hp) (x1 : Int32) (x2 : Int32) : Option (Hp × Unit) := if x1 = x2 then (B_X10_joins_28 N t0 h) else (dr h 31 (h.gr 1356 t0) (fun a2 => ck (¬ (((9 : Int32) * x1) + (x2 >>> ((6 : Int32) &&& 31)) < 0 ∨ h.al a2 ≤ (((9 : Int32) * x1) + (x2 >>> ((6 : Int32) &&& 31))).toNatClampNeg)) (ck (¬ (((9 : Int32) * x1) + (x2 >>> ((6 : Int32) &&& 31)) < 0 ∨ h.al a2 ≤ (((9 : Int32) * x1) + (x2 >>> ((6 : Int32) &&& 31))).toNatClampNeg)) (B_X10_joins_28 N t0 (h.sbw a2 (((9 : Int32) * x1) + (x2 >>> ((6 : Int32) &&& 31))).toNatClampNeg ((h.bw a2 (((9 : Int32) * x1) + (x2 >>> ((6 : Int32) &&& 31))).toNatClampNeg) ||| ((1 : Int64) <<< ((x2 &&& (63 : Int32)).toInt64 &&& 63))))))))
theorem mb_X10_joins_0 (N : Nat) (t0 : Nat) (h : Hp) (x1 : Int32) (x2 : Int32) (hJ : B_X10_joins_0 N t0 h x1 x2 = some (hz, ())) : Mo h hz := by
  unfold B_X10_joins_0 at hJ
  by_cases c1 : x1 = x2
  · have hJ := it_pos c1 hJ
    exact mb_X10_joins_28 N t0 _ hJ
  · have hJ := it_neg c1 hJ
    obtain ⟨a2, ea2, -, hJ⟩ := dr_some hJ
    obtain ⟨-, hJ⟩ := ck_some hJ
    obtain ⟨-, hJ⟩ := ck_some hJ
    exact (Mo.tr (show Mo h (h.sbw a2 (((9 : Int32) * x1) + (x2 >>> ((6 : Int32) &&& 31))).toNatClampNeg ((h.bw a2 (((9 : Int32) * x1) + (x2 >>> ((6 : Int32) &&& 31))).toNatClampNeg) ||| ((1 : Int64) <<< ((x2 &&& (63 : Int32)).toInt64 &&& 63)))) from ⟨fun _ _ => rfl, Nat.le_refl _, Nat.le_refl _, rfl, fun _ _ => rfl⟩) (mb_X10_joins_28 N t0 _ hJ))
set_option maxRecDepth 100000 in
set_option maxHeartbeats 4000000 in
theorem sb_X10_joins_0 (C : Cx p s m args meth c cX10_joins 3 none RX10 D cs A h0.se) (hz2 : hz.nx ≤ h0.nx + mc ∧ hz.su ≤ h0.su + ms) (N : Nat) (t0 : Nat) (h : Hp) (x1 : Int32) (x2 : Int32) (hJ : B_X10_joins_0 N t0 h x1 x2 = some (hz, ())) (hk0 : h.kd t0 = 13) {H : Heap} {locs : List Loc} {cells slots : Nat} (w : Wo D cs A s h0 h H locs cells slots) {ls : Array Slot} (hl : lv_has ls 3 [(0, .ref t0), (1, .int x1), (2, .int x2)]) : W p l e { frames := 0, cells := mc, slots := ms, locals := 0 } s m args below meth c H locs cells slots (MQ below (Zv D cs A hz) args s mc ms A) (F0 m 0 ls []) := by
  obtain ⟨hx, hb, hml, hown, hts, -⟩ := id C
  unfold B_X10_joins_0 at hJ
  refine lv_iload_n hx hb dX10_joins_0 rfl (lv_at hl 1 rfl) ?_
  refine lv_iload_n hx hb dX10_joins_1 rfl (lv_at hl 2 rfl) ?_
  refine lv_icmp_eq (tgt := 28) hx hb dX10_joins_2 (by decide) (fun c1 => ?_) (fun c1 => ?_)
  · have hJ := it_pos c1 hJ
    exact sb_X10_joins_28 C hz2 N t0 _ hJ hk0 w (lv_sub (l' := [(0, .ref t0)]) hl [0] rfl)
  · have hJ := it_neg c1 hJ
    refine lv_aload_n hx hb dX10_joins_5 rfl (lv_at hl 0 rfl) ?_
    refine fg_1356 C w hk0 tw_6_219 dX10_joins_6 ?_
    refine lv_bipush (v := (9 : Int32)) hx hb dX10_joins_9 (by decide) ?_
    refine lv_iload_n hx hb dX10_joins_11 rfl (lv_at hl 1 rfl) ?_
    refine lv_imul hx hb dX10_joins_12 ?_
    refine lv_iload_n hx hb dX10_joins_13 rfl (lv_at hl 2 rfl) ?_
    refine lv_bipush (v := (6 : Int32)) hx hb dX10_joins_14 (by decide) ?_
    refine lv_ishr hx hb dX10_joins_16 ?_
    refine lv_iadd hx hb dX10_joins_17 ?_
    refine lv_dup2_11 hx hb dX10_joins_18 rfl (rf_cat _) ?_
    obtain ⟨a2, ea2, hka2, hJ⟩ := dr_some hJ
    rw [ea2]
    obtain ⟨hi3, hJ⟩ := ck_some hJ
    refine jr_laldM C w hka2 hi3 dX10_joins_19 ?_
    refine lv_lconst (v := (1 : Int64)) hx hb dX10_joins_20 (by decide) ?_
    refine lv_iload_n hx hb dX10_joins_21 rfl (lv_at hl 2 rfl) ?_
    refine lv_bipush (v := (63 : Int32)) hx hb dX10_joins_22 (by decide) ?_
    refine lv_iand hx hb dX10_joins_24 ?_
    refine lv_lshl hx hb dX10_joins_25 rfl ?_
    refine lv_lor hx hb dX10_joins_26 ?_
    obtain ⟨hi4, hJ⟩ := ck_some hJ
    refine jr_lastM C w hka2 hi4 dX10_joins_27 (fun H locs w => ?_)
    exact sb_X10_joins_28 C hz2 N t0 _ hJ hk0 w (lv_sub (l' := [(0, .ref t0)]) hl [0] rfl)
def J_X10_joins (N : Nat) (t0 : Nat) (h : Hp) (x1 : Int32) (x2 : Int32) : Option (Hp × Unit) := B_X10_joins_0 N t0 h x1 x2
theorem mo_X10_joins (N : Nat) (t0 : Nat) (h : Hp) (x1 : Int32) (x2 : Int32) (hJ : J_X10_joins N t0 h x1 x2 = some (hz, ())) : Mo h hz := mb_X10_joins_0 N t0 h x1 x2 hJ
theorem cd_X10_joins : Cd yX10_joins 2 := ⟨by decide +kernel, by decide +kernel, by decide +kernel⟩
theorem cc_X10_joins (N : Nat) (t0 : Nat) (h : Hp) (x1 : Int32) (x2 : Int32) (hk0 : h.kd t0 = 13) (hJ : J_X10_joins N t0 h x1 x2 = some (hz, ())) : Cv l yX10_joins cX10_joins 3 none 0 0 D cs h hz [.ref t0, .int x1, .int x2] := by
  intro mc ms g1 g2
  refine je_any (by decide) (by simp [lg_sl, rf_cat, cat_i, cat_l, cat_r]) ?_
  intro p e s m args below meth c C hin2 w ls hl
  have hl : lv_has ls 3 [(0, .ref t0), (1, .int x1), (2, .int x2)] := hl
  exact sb_X10_joins_0 C ⟨g1, g2⟩ N t0 h x1 x2 hJ hk0 w hl
end G_X10_joins
section G_X10_lastOf
variable {p : Program} {l : Launch} {e : Env} {s : State} {m : MethodId} {args : Array Value} {below : List Frame} {meth : Method} {c : Code} {D : va_G} {cs : C4} {A : Nat → Prop} {h0 hz : Hp} {mc ms : Nat} {rz : Int32}
def B_X10_lastOf_4 (N : Nat) (k4 : Hp → Int32 → Int32 → Option (Hp × Int32)) (t0 : Nat) (h : Hp) (x1 : Int32) (x2 : Int32) : Option (Hp × Int32) := if x2 < 0 then (some (h, (-1 : Int32))) else (dr h 30 (h.gr 1324 t0) (fun a2 => ck (¬ (x2 < 0 ∨ h.al a2 ≤ x2.toNatClampNeg)) (dr h 30 (h.gr 1324 t0) (fun a4 => ck (¬ (x1 < 0 ∨ h.al a4 ≤ x1.toNatClampNeg)) (if (h.bi a2 x2.toNatClampNeg) = (h.bi a4 x1.toNatClampNeg) then (some (h, x2)) else (k4 h x1 (x2 + (-1 : Int32))))))))
theorem mb_X10_lastOf_4 (N : Nat) (k4 : Hp → Int32 → Int32 → Option (Hp × Int32)) (t0 : Nat) (h : Hp) (x1 : Int32) (x2 : Int32) (m4 : ∀ (h : Hp) (x1 : Int32) (x2 : Int32), k4 h x1 x2 = some (hz, rz) → Mo h hz) (hJ : B_X10_lastOf_4 N k4 t0 h x1 x2 = some (hz, rz)) : Mo h hz := by
  unfold B_X10_lastOf_4 at hJ
  by_cases c1 : x2 < 0
  · have hJ := it_pos c1 hJ
    obtain ⟨rfl, -⟩ := rs2 hJ
    exact ⟨fun _ _ => rfl, Nat.le_refl _, Nat.le_refl _, rfl, fun _ _ => rfl⟩
  · have hJ := it_neg c1 hJ
    obtain ⟨a2, ea2, -, hJ⟩ := dr_some hJ
    obtain ⟨-, hJ⟩ := ck_some hJ
    obtain ⟨a4, ea4, -, hJ⟩ := dr_some hJ
    obtain ⟨-, hJ⟩ := ck_some hJ
    by_cases c6 : (h.bi a2 x2.toNatClampNeg) = (h.bi a4 x1.toNatClampNeg)
    · have hJ := it_pos c6 hJ
      obtain ⟨rfl, -⟩ := rs2 hJ
      exact ⟨fun _ _ => rfl, Nat.le_refl _, Nat.le_refl _, rfl, fun _ _ => rfl⟩
    · have hJ := it_neg c6 hJ
      exact m4 _ _ _ hJ
set_option maxRecDepth 100000 in
set_option maxHeartbeats 4000000 in
theorem sb_X10_lastOf_4 (C : Cx p s m args meth c cX10_lastOf 3 (some .int) RX10 D cs A h0.se) (hz2 : hz.nx ≤ h0.nx + mc ∧ hz.su ≤ h0.su + ms) (N : Nat) (k4 : Hp → Int32 → Int32 → Option (Hp × Int32)) (t0 : Nat) (m4 : ∀ (h : Hp) (x1 : Int32) (x2 : Int32), k4 h x1 x2 = some (hz, rz) → Mo h hz) (i4 : ∀ (h : Hp) (x1 : Int32) (x2 : Int32) (H : Heap) (locs : List Loc) (cells slots : Nat) (ls : Array Slot), k4 h x1 x2 = some (hz, rz) → h.kd t0 = 13 → Wo D cs A s h0 h H locs cells slots → lv_has ls 3 [(0, .ref t0), (1, .int x1), (2, .int x2)] → W p l e { frames := 0, cells := mc, slots := ms, locals := 0 } s m args below meth c H locs cells slots (MQ below (Zi D cs A hz rz) args s mc ms A) (F0 m 4 ls [])) (h : Hp) (x1 : Int32) (x2 : Int32) (hJ : B_X10_lastOf_4 N k4 t0 h x1 x2 = some (hz, rz)) (hk0 : h.kd t0 = 13) {H : Heap} {locs : List Loc} {cells slots : Nat} (w : Wo D cs A s h0 h H locs cells slots) {ls : Array Slot} (hl : lv_has ls 3 [(0, .ref t0), (1, .int x1), (2, .int x2)]) : W p l e { frames := 0, cells := mc, slots := ms, locals := 0 } s m args below meth c H locs cells slots (MQ below (Zi D cs A hz rz) args s mc ms A) (F0 m 4 ls []) := by
  obtain ⟨hx, hb, hml, hown, hts, -⟩ := id C
  unfold B_X10_lastOf_4 at hJ
  refine lv_iload_n hx hb dX10_lastOf_4 rfl (lv_at hl 2 rfl) ?_
  refine lv_if_lt (tgt := 31) hx hb dX10_lastOf_5 (by decide) (fun c1 => ?_) (fun c1 => ?_)
  · have hJ := it_pos c1 hJ
    refine lv_iconst (v := (-1 : Int32)) hx hb dX10_lastOf_31 (by decide) ?_
    obtain ⟨rfl, rfl⟩ := rs2 hJ
    exact jr_iret C w hz2 dX10_lastOf_32
  · have hJ := it_neg c1 hJ
    refine lv_aload_n hx hb dX10_lastOf_8 rfl (lv_at hl 0 rfl) ?_
    refine fg_1324 C w hk0 tw_6_187 dX10_lastOf_9 ?_
    refine lv_iload_n hx hb dX10_lastOf_12 rfl (lv_at hl 2 rfl) ?_
    obtain ⟨a2, ea2, hka2, hJ⟩ := dr_some hJ
    rw [ea2]
    obtain ⟨hi3, hJ⟩ := ck_some hJ
    refine jr_ialdM C w hka2 hi3 dX10_lastOf_13 ?_
    refine lv_aload_n hx hb dX10_lastOf_14 rfl (lv_at hl 0 rfl) ?_
    refine fg_1324 C w hk0 tw_6_187 dX10_lastOf_15 ?_
    refine lv_iload_n hx hb dX10_lastOf_18 rfl (lv_at hl 1 rfl) ?_
    obtain ⟨a4, ea4, hka4, hJ⟩ := dr_some hJ
    rw [ea4]
    obtain ⟨hi5, hJ⟩ := ck_some hJ
    refine jr_ialdM C w hka4 hi5 dX10_lastOf_19 ?_
    refine lv_icmp_ne (tgt := 25) hx hb dX10_lastOf_20 (by decide) (fun c6 => ?_) (fun c6 => ?_)
    · have hJ := it_neg c6 hJ
      refine lv_iinc (v := x2 + (-1 : Int32)) (lv' := [(2, .int (x2 + (-1 : Int32))), (0, .ref t0), (1, .int x1)]) hx hb dX10_lastOf_25 hl (k := 2) rfl rfl (by decide) rfl (fun ls hl => ?_)
      refine lv_goto (tgt := 4) hx hb dX10_lastOf_28 (by decide) ?_
      exact i4 _ _ _ _ _ _ _ _ hJ hk0 w (lv_sub (l' := [(0, .ref t0), (1, .int x1), (2, .int (x2 + (-1 : Int32)))]) hl [1, 2, 0] rfl)
    · have hJ := it_pos c6 hJ
      refine lv_iload_n hx hb dX10_lastOf_23 rfl (lv_at hl 2 rfl) ?_
      obtain ⟨rfl, rfl⟩ := rs2 hJ
      exact jr_iret C w hz2 dX10_lastOf_24
def L_X10_lastOf_4 (N : Nat) (t0 : Nat) : Nat → Hp → Int32 → Int32 → Option (Hp × Int32)
  | 0 => fun _ _ _ => none
  | n + 1 => fun h x1 x2 => B_X10_lastOf_4 N (L_X10_lastOf_4 N t0 n) t0 h x1 x2
theorem ml_X10_lastOf_4 (N : Nat) (t0 : Nat) : ∀ (n : Nat) (h : Hp) (x1 : Int32) (x2 : Int32), L_X10_lastOf_4 N t0 n h x1 x2 = some (hz, rz) → Mo h hz := by
  intro n
  induction n with
  | zero => intro h x1 x2 hJ; cases hJ
  | succ n ih => intro h x1 x2 hJ; exact mb_X10_lastOf_4 N (L_X10_lastOf_4 N t0 n) t0 h x1 x2 ih hJ
theorem sl_X10_lastOf_4 (C : Cx p s m args meth c cX10_lastOf 3 (some .int) RX10 D cs A h0.se) (hz2 : hz.nx ≤ h0.nx + mc ∧ hz.su ≤ h0.su + ms) (N : Nat) (t0 : Nat) : ∀ n : Nat, ∀ (h : Hp) (x1 : Int32) (x2 : Int32) (H : Heap) (locs : List Loc) (cells slots : Nat) (ls : Array Slot), L_X10_lastOf_4 N t0 n h x1 x2 = some (hz, rz) → h.kd t0 = 13 → Wo D cs A s h0 h H locs cells slots → lv_has ls 3 [(0, .ref t0), (1, .int x1), (2, .int x2)] → W p l e { frames := 0, cells := mc, slots := ms, locals := 0 } s m args below meth c H locs cells slots (MQ below (Zi D cs A hz rz) args s mc ms A) (F0 m 4 ls []) := by
  intro n
  induction n with
  | zero => intro h x1 x2 H locs cells slots ls hJ; cases hJ
  | succ n ih =>
    intro h x1 x2 H locs cells slots ls hJ hk0 w hl
    exact sb_X10_lastOf_4 C hz2 N (L_X10_lastOf_4 N t0 n) t0 (ml_X10_lastOf_4 N t0 n) ih h x1 x2 hJ hk0 w hl
def B_X10_lastOf_0 (N : Nat) (t0 : Nat) (h : Hp) (x1 : Int32) : Option (Hp × Int32) := L_X10_lastOf_4 N t0 N h x1 (x1 - (1 : Int32))
theorem mb_X10_lastOf_0 (N : Nat) (t0 : Nat) (h : Hp) (x1 : Int32) (hJ : B_X10_lastOf_0 N t0 h x1 = some (hz, rz)) : Mo h hz := by
  unfold B_X10_lastOf_0 at hJ
  exact ml_X10_lastOf_4 N t0 N _ _ _ hJ
set_option maxRecDepth 100000 in
set_option maxHeartbeats 4000000 in
theorem sb_X10_lastOf_0 (C : Cx p s m args meth c cX10_lastOf 3 (some .int) RX10 D cs A h0.se) (hz2 : hz.nx ≤ h0.nx + mc ∧ hz.su ≤ h0.su + ms) (N : Nat) (t0 : Nat) (h : Hp) (x1 : Int32) (hJ : B_X10_lastOf_0 N t0 h x1 = some (hz, rz)) (hk0 : h.kd t0 = 13) {H : Heap} {locs : List Loc} {cells slots : Nat} (w : Wo D cs A s h0 h H locs cells slots) {ls : Array Slot} (hl : lv_has ls 3 [(0, .ref t0), (1, .int x1)]) : W p l e { frames := 0, cells := mc, slots := ms, locals := 0 } s m args below meth c H locs cells slots (MQ below (Zi D cs A hz rz) args s mc ms A) (F0 m 0 ls []) := by
  obtain ⟨hx, hb, hml, hown, hts, -⟩ := id C
  unfold B_X10_lastOf_0 at hJ
  refine lv_iload_n hx hb dX10_lastOf_0 rfl (lv_at hl 1 rfl) ?_
  refine lv_iconst (v := (1 : Int32)) hx hb dX10_lastOf_1 (by decide) ?_
  refine lv_isub hx hb dX10_lastOf_2 ?_
  refine lv_istore_n (i := 2) (lv' := [(2, .int (x1 - (1 : Int32))), (0, .ref t0), (1, .int x1)]) hx hb dX10_lastOf_3 rfl hl (by decide) rfl (fun ls hl => ?_)
  exact sl_X10_lastOf_4 C hz2 N t0 N _ _ _ _ _ _ _ _ hJ hk0 w (lv_sub (l' := [(0, .ref t0), (1, .int x1), (2, .int (x1 - (1 : Int32)))]) hl [1, 2, 0] rfl)
def J_X10_lastOf (N : Nat) (t0 : Nat) (h : Hp) (x1 : Int32) : Option (Hp × Int32) := B_X10_lastOf_0 N t0 h x1
theorem mo_X10_lastOf (N : Nat) (t0 : Nat) (h : Hp) (x1 : Int32) (hJ : J_X10_lastOf N t0 h x1 = some (hz, rz)) : Mo h hz := mb_X10_lastOf_0 N t0 h x1 hJ
theorem cd_X10_lastOf : Cd yX10_lastOf 1 := ⟨by decide +kernel, by decide +kernel, by decide +kernel⟩
theorem cc_X10_lastOf (N : Nat) (t0 : Nat) (h : Hp) (x1 : Int32) (hk0 : h.kd t0 = 13) (hJ : J_X10_lastOf N t0 h x1 = some (hz, rz)) : Ci l yX10_lastOf cX10_lastOf 3 (some .int) 0 0 D cs h hz [.ref t0, .int x1] rz := by
  intro mc ms g1 g2
  refine je_any (by decide) (by simp [lg_sl, rf_cat, cat_i, cat_l, cat_r]) ?_
  intro p e s m args below meth c C hin2 w ls hl
  have hl : lv_has ls 3 [(0, .ref t0), (1, .int x1)] := hl
  exact sb_X10_lastOf_0 C ⟨g1, g2⟩ N t0 h x1 hJ hk0 w hl
end G_X10_lastOf
section G_X10_nextOf
variable {p : Program} {l : Launch} {e : Env} {s : State} {m : MethodId} {args : Array Value} {below : List Frame} {meth : Method} {c : Code} {D : va_G} {cs : C4} {A : Nat → Prop} {h0 hz : Hp} {mc ms : Nat} {rz : Int32}
def B_X10_nextOf_4 (N : Nat) (k4 : Hp → Int32 → Int32 → Option (Hp × Int32)) (t0 : Nat) (h : Hp) (x1 : Int32) (x2 : Int32) : Option (Hp × Int32) := if (h.gi 1328 t0) ≤ x2 then (some (h, (-1 : Int32))) else (dr h 30 (h.gr 1324 t0) (fun a2 => ck (¬ (x2 < 0 ∨ h.al a2 ≤ x2.toNatClampNeg)) (dr h 30 (h.gr 1324 t0) (fun a4 => ck (¬ (x1 < 0 ∨ h.al a4 ≤ x1.toNatClampNeg)) (if (h.bi a2 x2.toNatClampNeg) = (h.bi a4 x1.toNatClampNeg) then (some (h, x2)) else (k4 h x1 (x2 + (1 : Int32))))))))
theorem mb_X10_nextOf_4 (N : Nat) (k4 : Hp → Int32 → Int32 → Option (Hp × Int32)) (t0 : Nat) (h : Hp) (x1 : Int32) (x2 : Int32) (m4 : ∀ (h : Hp) (x1 : Int32) (x2 : Int32), k4 h x1 x2 = some (hz, rz) → Mo h hz) (hJ : B_X10_nextOf_4 N k4 t0 h x1 x2 = some (hz, rz)) : Mo h hz := by
  unfold B_X10_nextOf_4 at hJ
  by_cases c1 : (h.gi 1328 t0) ≤ x2
  · have hJ := it_pos c1 hJ
    obtain ⟨rfl, -⟩ := rs2 hJ
    exact ⟨fun _ _ => rfl, Nat.le_refl _, Nat.le_refl _, rfl, fun _ _ => rfl⟩
  · have hJ := it_neg c1 hJ
    obtain ⟨a2, ea2, -, hJ⟩ := dr_some hJ
    obtain ⟨-, hJ⟩ := ck_some hJ
    obtain ⟨a4, ea4, -, hJ⟩ := dr_some hJ
    obtain ⟨-, hJ⟩ := ck_some hJ
    by_cases c6 : (h.bi a2 x2.toNatClampNeg) = (h.bi a4 x1.toNatClampNeg)
    · have hJ := it_pos c6 hJ
      obtain ⟨rfl, -⟩ := rs2 hJ
      exact ⟨fun _ _ => rfl, Nat.le_refl _, Nat.le_refl _, rfl, fun _ _ => rfl⟩
    · have hJ := it_neg c6 hJ
      exact m4 _ _ _ hJ
set_option maxRecDepth 100000 in
set_option maxHeartbeats 4000000 in
theorem sb_X10_nextOf_4 (C : Cx p s m args meth c cX10_nextOf 3 (some .int) RX10 D cs A h0.se) (hz2 : hz.nx ≤ h0.nx + mc ∧ hz.su ≤ h0.su + ms) (N : Nat) (k4 : Hp → Int32 → Int32 → Option (Hp × Int32)) (t0 : Nat) (m4 : ∀ (h : Hp) (x1 : Int32) (x2 : Int32), k4 h x1 x2 = some (hz, rz) → Mo h hz) (i4 : ∀ (h : Hp) (x1 : Int32) (x2 : Int32) (H : Heap) (locs : List Loc) (cells slots : Nat) (ls : Array Slot), k4 h x1 x2 = some (hz, rz) → h.kd t0 = 13 → Wo D cs A s h0 h H locs cells slots → lv_has ls 3 [(0, .ref t0), (1, .int x1), (2, .int x2)] → W p l e { frames := 0, cells := mc, slots := ms, locals := 0 } s m args below meth c H locs cells slots (MQ below (Zi D cs A hz rz) args s mc ms A) (F0 m 4 ls [])) (h : Hp) (x1 : Int32) (x2 : Int32) (hJ : B_X10_nextOf_4 N k4 t0 h x1 x2 = some (hz, rz)) (hk0 : h.kd t0 = 13) {H : Heap} {locs : List Loc} {cells slots : Nat} (w : Wo D cs A s h0 h H locs cells slots) {ls : Array Slot} (hl : lv_has ls 3 [(0, .ref t0), (1, .int x1), (2, .int x2)]) : W p l e { frames := 0, cells := mc, slots := ms, locals := 0 } s m args below meth c H locs cells slots (MQ below (Zi D cs A hz rz) args s mc ms A) (F0 m 4 ls []) := by
  obtain ⟨hx, hb, hml, hown, hts, -⟩ := id C
  unfold B_X10_nextOf_4 at hJ
  refine lv_iload_n hx hb dX10_nextOf_4 rfl (lv_at hl 2 rfl) ?_
  refine lv_aload_n hx hb dX10_nextOf_5 rfl (lv_at hl 0 rfl) ?_
  refine fg_1328 C w hk0 tw_6_191 dX10_nextOf_6 ?_
  refine lv_icmp_ge (tgt := 35) hx hb dX10_nextOf_9 (by decide) (fun c1 => ?_) (fun c1 => ?_)
  · have hJ := it_pos c1 hJ
    refine lv_iconst (v := (-1 : Int32)) hx hb dX10_nextOf_35 (by decide) ?_
    obtain ⟨rfl, rfl⟩ := rs2 hJ
    exact jr_iret C w hz2 dX10_nextOf_36
  · have hJ := it_neg c1 hJ
    refine lv_aload_n hx hb dX10_nextOf_12 rfl (lv_at hl 0 rfl) ?_
    refine fg_1324 C w hk0 tw_6_187 dX10_nextOf_13 ?_
    refine lv_iload_n hx hb dX10_nextOf_16 rfl (lv_at hl 2 rfl) ?_
    obtain ⟨a2, ea2, hka2, hJ⟩ := dr_some hJ
    rw [ea2]
    obtain ⟨hi3, hJ⟩ := ck_some hJ
    refine jr_ialdM C w hka2 hi3 dX10_nextOf_17 ?_
    refine lv_aload_n hx hb dX10_nextOf_18 rfl (lv_at hl 0 rfl) ?_
    refine fg_1324 C w hk0 tw_6_187 dX10_nextOf_19 ?_
    refine lv_iload_n hx hb dX10_nextOf_22 rfl (lv_at hl 1 rfl) ?_
    obtain ⟨a4, ea4, hka4, hJ⟩ := dr_some hJ
    rw [ea4]
    obtain ⟨hi5, hJ⟩ := ck_some hJ
    refine jr_ialdM C w hka4 hi5 dX10_nextOf_23 ?_
    refine lv_icmp_ne (tgt := 29) hx hb dX10_nextOf_24 (by decide) (fun c6 => ?_) (fun c6 => ?_)
    · have hJ := it_neg c6 hJ
      refine lv_iinc (v := x2 + (1 : Int32)) (lv' := [(2, .int (x2 + (1 : Int32))), (0, .ref t0), (1, .int x1)]) hx hb dX10_nextOf_29 hl (k := 2) rfl rfl (by decide) rfl (fun ls hl => ?_)
      refine lv_goto (tgt := 4) hx hb dX10_nextOf_32 (by decide) ?_
      exact i4 _ _ _ _ _ _ _ _ hJ hk0 w (lv_sub (l' := [(0, .ref t0), (1, .int x1), (2, .int (x2 + (1 : Int32)))]) hl [1, 2, 0] rfl)
    · have hJ := it_pos c6 hJ
      refine lv_iload_n hx hb dX10_nextOf_27 rfl (lv_at hl 2 rfl) ?_
      obtain ⟨rfl, rfl⟩ := rs2 hJ
      exact jr_iret C w hz2 dX10_nextOf_28
def L_X10_nextOf_4 (N : Nat) (t0 : Nat) : Nat → Hp → Int32 → Int32 → Option (Hp × Int32)
  | 0 => fun _ _ _ => none
  | n + 1 => fun h x1 x2 => B_X10_nextOf_4 N (L_X10_nextOf_4 N t0 n) t0 h x1 x2
theorem ml_X10_nextOf_4 (N : Nat) (t0 : Nat) : ∀ (n : Nat) (h : Hp) (x1 : Int32) (x2 : Int32), L_X10_nextOf_4 N t0 n h x1 x2 = some (hz, rz) → Mo h hz := by
  intro n
  induction n with
  | zero => intro h x1 x2 hJ; cases hJ
  | succ n ih => intro h x1 x2 hJ; exact mb_X10_nextOf_4 N (L_X10_nextOf_4 N t0 n) t0 h x1 x2 ih hJ
theorem sl_X10_nextOf_4 (C : Cx p s m args meth c cX10_nextOf 3 (some .int) RX10 D cs A h0.se) (hz2 : hz.nx ≤ h0.nx + mc ∧ hz.su ≤ h0.su + ms) (N : Nat) (t0 : Nat) : ∀ n : Nat, ∀ (h : Hp) (x1 : Int32) (x2 : Int32) (H : Heap) (locs : List Loc) (cells slots : Nat) (ls : Array Slot), L_X10_nextOf_4 N t0 n h x1 x2 = some (hz, rz) → h.kd t0 = 13 → Wo D cs A s h0 h H locs cells slots → lv_has ls 3 [(0, .ref t0), (1, .int x1), (2, .int x2)] → W p l e { frames := 0, cells := mc, slots := ms, locals := 0 } s m args below meth c H locs cells slots (MQ below (Zi D cs A hz rz) args s mc ms A) (F0 m 4 ls []) := by
  intro n
  induction n with
  | zero => intro h x1 x2 H locs cells slots ls hJ; cases hJ
  | succ n ih =>
    intro h x1 x2 H locs cells slots ls hJ hk0 w hl
    exact sb_X10_nextOf_4 C hz2 N (L_X10_nextOf_4 N t0 n) t0 (ml_X10_nextOf_4 N t0 n) ih h x1 x2 hJ hk0 w hl
def B_X10_nextOf_0 (N : Nat) (t0 : Nat) (h : Hp) (x1 : Int32) : Option (Hp × Int32) := L_X10_nextOf_4 N t0 N h x1 (x1 + (1 : Int32))
theorem mb_X10_nextOf_0 (N : Nat) (t0 : Nat) (h : Hp) (x1 : Int32) (hJ : B_X10_nextOf_0 N t0 h x1 = some (hz, rz)) : Mo h hz := by
  unfold B_X10_nextOf_0 at hJ
  exact ml_X10_nextOf_4 N t0 N _ _ _ hJ
set_option maxRecDepth 100000 in
set_option maxHeartbeats 4000000 in
theorem sb_X10_nextOf_0 (C : Cx p s m args meth c cX10_nextOf 3 (some .int) RX10 D cs A h0.se) (hz2 : hz.nx ≤ h0.nx + mc ∧ hz.su ≤ h0.su + ms) (N : Nat) (t0 : Nat) (h : Hp) (x1 : Int32) (hJ : B_X10_nextOf_0 N t0 h x1 = some (hz, rz)) (hk0 : h.kd t0 = 13) {H : Heap} {locs : List Loc} {cells slots : Nat} (w : Wo D cs A s h0 h H locs cells slots) {ls : Array Slot} (hl : lv_has ls 3 [(0, .ref t0), (1, .int x1)]) : W p l e { frames := 0, cells := mc, slots := ms, locals := 0 } s m args below meth c H locs cells slots (MQ below (Zi D cs A hz rz) args s mc ms A) (F0 m 0 ls []) := by
  obtain ⟨hx, hb, hml, hown, hts, -⟩ := id C
  unfold B_X10_nextOf_0 at hJ
  refine lv_iload_n hx hb dX10_nextOf_0 rfl (lv_at hl 1 rfl) ?_
  refine lv_iconst (v := (1 : Int32)) hx hb dX10_nextOf_1 (by decide) ?_
  refine lv_iadd hx hb dX10_nextOf_2 ?_
  refine lv_istore_n (i := 2) (lv' := [(2, .int (x1 + (1 : Int32))), (0, .ref t0), (1, .int x1)]) hx hb dX10_nextOf_3 rfl hl (by decide) rfl (fun ls hl => ?_)
  exact sl_X10_nextOf_4 C hz2 N t0 N _ _ _ _ _ _ _ _ hJ hk0 w (lv_sub (l' := [(0, .ref t0), (1, .int x1), (2, .int (x1 + (1 : Int32)))]) hl [1, 2, 0] rfl)
def J_X10_nextOf (N : Nat) (t0 : Nat) (h : Hp) (x1 : Int32) : Option (Hp × Int32) := B_X10_nextOf_0 N t0 h x1
theorem mo_X10_nextOf (N : Nat) (t0 : Nat) (h : Hp) (x1 : Int32) (hJ : J_X10_nextOf N t0 h x1 = some (hz, rz)) : Mo h hz := mb_X10_nextOf_0 N t0 h x1 hJ
theorem cd_X10_nextOf : Cd yX10_nextOf 1 := ⟨by decide +kernel, by decide +kernel, by decide +kernel⟩
theorem cc_X10_nextOf (N : Nat) (t0 : Nat) (h : Hp) (x1 : Int32) (hk0 : h.kd t0 = 13) (hJ : J_X10_nextOf N t0 h x1 = some (hz, rz)) : Ci l yX10_nextOf cX10_nextOf 3 (some .int) 0 0 D cs h hz [.ref t0, .int x1] rz := by
  intro mc ms g1 g2
  refine je_any (by decide) (by simp [lg_sl, rf_cat, cat_i, cat_l, cat_r]) ?_
  intro p e s m args below meth c C hin2 w ls hl
  have hl : lv_has ls 3 [(0, .ref t0), (1, .int x1)] := hl
  exact sb_X10_nextOf_0 C ⟨g1, g2⟩ N t0 h x1 hJ hk0 w hl
end G_X10_nextOf
section G_X10_draw
variable {p : Program} {l : Launch} {e : Env} {s : State} {m : MethodId} {args : Array Value} {below : List Frame} {meth : Method} {c : Code} {D : va_G} {cs : C4} {A : Nat → Prop} {h0 hz : Hp} {mc ms : Nat}
def B_X10_draw_230 (N : Nat) (k26 : Hp → Int32 → Option (Hp × Unit)) (k70 : Hp → Int32 → Int32 → Int32 → Int32 → Option (Hp × Unit)) (t0 : Nat) (h : Hp) (x1 : Int32) (x2 : Int32) (x3 : Int32) (x4 : Int32) : Option (Hp × Unit) := k70 h x1 x2 x3 (x4 + (1 : Int32))
theorem mb_X10_draw_230 (N : Nat) (k26 : Hp → Int32 → Option (Hp × Unit)) (k70 : Hp → Int32 → Int32 → Int32 → Int32 → Option (Hp × Unit)) (t0 : Nat) (h : Hp) (x1 : Int32) (x2 : Int32) (x3 : Int32) (x4 : Int32) (m26 : ∀ (h : Hp) (x1 : Int32), k26 h x1 = some (hz, ()) → Mo h hz) (m70 : ∀ (h : Hp) (x1 : Int32) (x2 : Int32) (x3 : Int32) (x4 : Int32), k70 h x1 x2 x3 x4 = some (hz, ()) → Mo h hz) (hJ : B_X10_draw_230 N k26 k70 t0 h x1 x2 x3 x4 = some (hz, ())) : Mo h hz := by
  unfold B_X10_draw_230 at hJ
  exact m70 _ _ _ _ _ hJ
set_option maxRecDepth 100000 in
set_option maxHeartbeats 4000000 in
theorem sb_X10_draw_230 (C : Cx p s m args meth c cX10_draw 7 none RX10 D cs A h0.se) (hz2 : hz.nx ≤ h0.nx + mc ∧ hz.su ≤ h0.su + ms) (N : Nat) (k26 : Hp → Int32 → Option (Hp × Unit)) (k70 : Hp → Int32 → Int32 → Int32 → Int32 → Option (Hp × Unit)) (t0 : Nat) (m26 : ∀ (h : Hp) (x1 : Int32), k26 h x1 = some (hz, ()) → Mo h hz) (m70 : ∀ (h : Hp) (x1 : Int32) (x2 : Int32) (x3 : Int32) (x4 : Int32), k70 h x1 x2 x3 x4 = some (hz, ()) → Mo h hz) (i26 : ∀ (h : Hp) (x1 : Int32) (H : Heap) (locs : List Loc) (cells slots : Nat) (ls : Array Slot), k26 h x1 = some (hz, ()) → h.kd t0 = 13 → Wo D cs A s h0 h H locs cells slots → lv_has ls 7 [(0, .ref t0), (1, .int x1)] → W p l e { frames := 1, cells := mc, slots := ms, locals := 30 } s m args below meth c H locs cells slots (MQ below (Zv D cs A hz) args s mc ms A) (F0 m 26 ls [])) (i70 : ∀ (h : Hp) (x1 : Int32) (x2 : Int32) (x3 : Int32) (x4 : Int32) (H : Heap) (locs : List Loc) (cells slots : Nat) (ls : Array Slot), k70 h x1 x2 x3 x4 = some (hz, ()) → h.kd t0 = 13 → Wo D cs A s h0 h H locs cells slots → lv_has ls 7 [(0, .ref t0), (1, .int x1), (2, .int x2), (3, .int x3), (4, .int x4)] → W p l e { frames := 1, cells := mc, slots := ms, locals := 30 } s m args below meth c H locs cells slots (MQ below (Zv D cs A hz) args s mc ms A) (F0 m 70 ls [])) (h : Hp) (x1 : Int32) (x2 : Int32) (x3 : Int32) (x4 : Int32) (hJ : B_X10_draw_230 N k26 k70 t0 h x1 x2 x3 x4 = some (hz, ())) (hk0 : h.kd t0 = 13) {H : Heap} {locs : List Loc} {cells slots : Nat} (w : Wo D cs A s h0 h H locs cells slots) {ls : Array Slot} (hl : lv_has ls 7 [(0, .ref t0), (1, .int x1), (2, .int x2), (3, .int x3), (4, .int x4)]) : W p l e { frames := 1, cells := mc, slots := ms, locals := 30 } s m args below meth c H locs cells slots (MQ below (Zv D cs A hz) args s mc ms A) (F0 m 230 ls []) := by
  obtain ⟨hx, hb, hml, hown, hts, -⟩ := id C
  unfold B_X10_draw_230 at hJ
  refine lv_iinc (v := x4 + (1 : Int32)) (lv' := [(4, .int (x4 + (1 : Int32))), (0, .ref t0), (1, .int x1), (2, .int x2), (3, .int x3)]) hx hb dX10_draw_230 hl (k := 4) rfl rfl (by decide) rfl (fun ls hl => ?_)
  refine lv_goto (tgt := 70) hx hb dX10_draw_233 (by decide) ?_
  exact i70 _ _ _ _ _ _ _ _ _ _ hJ hk0 w (lv_sub (l' := [(0, .ref t0), (1, .int x1), (2, .int x2), (3, .int x3), (4, .int (x4 + (1 : Int32)))]) hl [1, 2, 3, 4, 0] rfl)
def B_X10_draw_218 (N : Nat) (k26 : Hp → Int32 → Option (Hp × Unit)) (k70 : Hp → Int32 → Int32 → Int32 → Int32 → Option (Hp × Unit)) (t0 : Nat) (h : Hp) (x1 : Int32) (x2 : Int32) (x3 : Int32) (x4 : Int32) (x5 : Int32) : Option (Hp × Unit) := dr h 30 (h.gr 1325 t0) (fun a1 => ck (¬ (x1 < 0 ∨ h.al a1 ≤ x1.toNatClampNeg)) ((J_X10_joins N t0 h x5 (h.bi a1 x1.toNatClampNeg)).bind (fun z => B_X10_draw_230 N k26 k70 t0 z.1 x1 x2 x3 x4)))
theorem mb_X10_draw_218 (N : Nat) (k26 : Hp → Int32 → Option (Hp × Unit)) (k70 : Hp → Int32 → Int32 → Int32 → Int32 → Option (Hp × Unit)) (t0 : Nat) (h : Hp) (x1 : Int32) (x2 : Int32) (x3 : Int32) (x4 : Int32) (x5 : Int32) (m26 : ∀ (h : Hp) (x1 : Int32), k26 h x1 = some (hz, ()) → Mo h hz) (m70 : ∀ (h : Hp) (x1 : Int32) (x2 : Int32) (x3 : Int32) (x4 : Int32), k70 h x1 x2 x3 x4 = some (hz, ()) → Mo h hz) (hJ : B_X10_draw_218 N k26 k70 t0 h x1 x2 x3 x4 x5 = some (hz, ())) : Mo h hz := by
  unfold B_X10_draw_218 at hJ
  obtain ⟨a1, ea1, -, hJ⟩ := dr_some hJ
  obtain ⟨-, hJ⟩ := ck_some hJ
  obtain ⟨⟨h3, r4⟩, e5, hJ⟩ := ob_some hJ
  exact (mo_X10_joins N t0 h x5 (h.bi a1 x1.toNatClampNeg) e5).tr (mb_X10_draw_230 N k26 k70 t0 _ _ _ _ _ m26 m70 hJ)
set_option maxRecDepth 100000 in
set_option maxHeartbeats 4000000 in
theorem sb_X10_draw_218 (C : Cx p s m args meth c cX10_draw 7 none RX10 D cs A h0.se) (hz2 : hz.nx ≤ h0.nx + mc ∧ hz.su ≤ h0.su + ms) (N : Nat) (k26 : Hp → Int32 → Option (Hp × Unit)) (k70 : Hp → Int32 → Int32 → Int32 → Int32 → Option (Hp × Unit)) (t0 : Nat) (m26 : ∀ (h : Hp) (x1 : Int32), k26 h x1 = some (hz, ()) → Mo h hz) (m70 : ∀ (h : Hp) (x1 : Int32) (x2 : Int32) (x3 : Int32) (x4 : Int32), k70 h x1 x2 x3 x4 = some (hz, ()) → Mo h hz) (i26 : ∀ (h : Hp) (x1 : Int32) (H : Heap) (locs : List Loc) (cells slots : Nat) (ls : Array Slot), k26 h x1 = some (hz, ()) → h.kd t0 = 13 → Wo D cs A s h0 h H locs cells slots → lv_has ls 7 [(0, .ref t0), (1, .int x1)] → W p l e { frames := 1, cells := mc, slots := ms, locals := 30 } s m args below meth c H locs cells slots (MQ below (Zv D cs A hz) args s mc ms A) (F0 m 26 ls [])) (i70 : ∀ (h : Hp) (x1 : Int32) (x2 : Int32) (x3 : Int32) (x4 : Int32) (H : Heap) (locs : List Loc) (cells slots : Nat) (ls : Array Slot), k70 h x1 x2 x3 x4 = some (hz, ()) → h.kd t0 = 13 → Wo D cs A s h0 h H locs cells slots → lv_has ls 7 [(0, .ref t0), (1, .int x1), (2, .int x2), (3, .int x3), (4, .int x4)] → W p l e { frames := 1, cells := mc, slots := ms, locals := 30 } s m args below meth c H locs cells slots (MQ below (Zv D cs A hz) args s mc ms A) (F0 m 70 ls [])) (h : Hp) (x1 : Int32) (x2 : Int32) (x3 : Int32) (x4 : Int32) (x5 : Int32) (hJ : B_X10_draw_218 N k26 k70 t0 h x1 x2 x3 x4 x5 = some (hz, ())) (hk0 : h.kd t0 = 13) {H : Heap} {locs : List Loc} {cells slots : Nat} (w : Wo D cs A s h0 h H locs cells slots) {ls : Array Slot} (hl : lv_has ls 7 [(0, .ref t0), (1, .int x1), (2, .int x2), (3, .int x3), (4, .int x4), (5, .int x5)]) : W p l e { frames := 1, cells := mc, slots := ms, locals := 30 } s m args below meth c H locs cells slots (MQ below (Zv D cs A hz) args s mc ms A) (F0 m 218 ls []) := by
  obtain ⟨hx, hb, hml, hown, hts, -⟩ := id C
  unfold B_X10_draw_218 at hJ
  refine lv_aload_n hx hb dX10_draw_218 rfl (lv_at hl 0 rfl) ?_
  refine lv_iload hx hb dX10_draw_219 (lv_at hl 5 rfl) ?_
  refine lv_aload_n hx hb dX10_draw_221 rfl (lv_at hl 0 rfl) ?_
  refine fg_1325 C w hk0 tw_6_188 dX10_draw_222 ?_
  refine lv_iload_n hx hb dX10_draw_225 rfl (lv_at hl 1 rfl) ?_
  obtain ⟨a1, ea1, hka1, hJ⟩ := dr_some hJ
  rw [ea1]
  obtain ⟨hi2, hJ⟩ := ck_some hJ
  refine jr_ialdM C w hka1 hi2 dX10_draw_226 ?_
  obtain ⟨⟨h3, r4⟩, e5, hJ⟩ := ob_some hJ
  refine jc_Vv (As := [.int x5, .int (h.bi a1 x1.toNatClampNeg)]) C w (cc_X10_joins N t0 h x5 (h.bi a1 x1.toNatClampNeg) hk0 e5) (mo_X10_joins N t0 h x5 (h.bi a1 x1.toNatClampNeg) e5) (mb_X10_draw_230 N k26 k70 t0 _ _ _ _ _ m26 m70 hJ) hz2 hk0 (by decide) rfl (fs := fs13 h t0) rfl rfl ⟨tw_8_124, tw_8_121, tw_8_123, ts_68, tw_1_7⟩ cd_X10_joins ⟨by decide, by decide⟩ hl.1 (by first | exact Nat.le_of_ble_eq_true rfl | simp [rf_cat, cat_i, cat_l, cat_r]) rfl dX10_draw_227 (fun H locs w1 => ?_)
  have hk6 := kd_keep w (mo_X10_joins N t0 h x5 (h.bi a1 x1.toNatClampNeg) e5) hk0 (by decide)
  have w := w1
  exact sb_X10_draw_230 C hz2 N k26 k70 t0 m26 m70 i26 i70 _ _ _ _ _ hJ hk6 w (lv_sub (l' := [(0, .ref t0), (1, .int x1), (2, .int x2), (3, .int x3), (4, .int x4)]) hl [0, 1, 2, 3, 4] rfl)
def B_X10_draw_208 (N : Nat) (k26 : Hp → Int32 → Option (Hp × Unit)) (k70 : Hp → Int32 → Int32 → Int32 → Int32 → Option (Hp × Unit)) (t0 : Nat) (h : Hp) (x1 : Int32) (x2 : Int32) (x3 : Int32) (x4 : Int32) (x5 : Int32) (y0 : Int32) : Option (Hp × Unit) := dr h 30 (h.gr 1303 t0) (fun a7 => ck (¬ (x5 < 0 ∨ h.al a7 ≤ x5.toNatClampNeg)) (if (h.bi a7 x5.toNatClampNeg) < y0 then (B_X10_draw_230 N k26 k70 t0 h x1 x2 x3 x4) else (B_X10_draw_218 N k26 k70 t0 h x1 x2 x3 x4 x5)))
theorem mb_X10_draw_208 (N : Nat) (k26 : Hp → Int32 → Option (Hp × Unit)) (k70 : Hp → Int32 → Int32 → Int32 → Int32 → Option (Hp × Unit)) (t0 : Nat) (h : Hp) (x1 : Int32) (x2 : Int32) (x3 : Int32) (x4 : Int32) (x5 : Int32) (y0 : Int32) (m26 : ∀ (h : Hp) (x1 : Int32), k26 h x1 = some (hz, ()) → Mo h hz) (m70 : ∀ (h : Hp) (x1 : Int32) (x2 : Int32) (x3 : Int32) (x4 : Int32), k70 h x1 x2 x3 x4 = some (hz, ()) → Mo h hz) (hJ : B_X10_draw_208 N k26 k70 t0 h x1 x2 x3 x4 x5 y0 = some (hz, ())) : Mo h hz := by
  unfold B_X10_draw_208 at hJ
  obtain ⟨a7, ea7, -, hJ⟩ := dr_some hJ
  obtain ⟨-, hJ⟩ := ck_some hJ
  by_cases c9 : (h.bi a7 x5.toNatClampNeg) < y0
  · have hJ := it_pos c9 hJ
    exact mb_X10_draw_230 N k26 k70 t0 _ _ _ _ _ m26 m70 hJ
  · have hJ := it_neg c9 hJ
    exact mb_X10_draw_218 N k26 k70 t0 _ _ _ _ _ _ m26 m70 hJ
set_option maxRecDepth 100000 in
set_option maxHeartbeats 4000000 in
theorem sb_X10_draw_208 (C : Cx p s m args meth c cX10_draw 7 none RX10 D cs A h0.se) (hz2 : hz.nx ≤ h0.nx + mc ∧ hz.su ≤ h0.su + ms) (N : Nat) (k26 : Hp → Int32 → Option (Hp × Unit)) (k70 : Hp → Int32 → Int32 → Int32 → Int32 → Option (Hp × Unit)) (t0 : Nat) (m26 : ∀ (h : Hp) (x1 : Int32), k26 h x1 = some (hz, ()) → Mo h hz) (m70 : ∀ (h : Hp) (x1 : Int32) (x2 : Int32) (x3 : Int32) (x4 : Int32), k70 h x1 x2 x3 x4 = some (hz, ()) → Mo h hz) (i26 : ∀ (h : Hp) (x1 : Int32) (H : Heap) (locs : List Loc) (cells slots : Nat) (ls : Array Slot), k26 h x1 = some (hz, ()) → h.kd t0 = 13 → Wo D cs A s h0 h H locs cells slots → lv_has ls 7 [(0, .ref t0), (1, .int x1)] → W p l e { frames := 1, cells := mc, slots := ms, locals := 30 } s m args below meth c H locs cells slots (MQ below (Zv D cs A hz) args s mc ms A) (F0 m 26 ls [])) (i70 : ∀ (h : Hp) (x1 : Int32) (x2 : Int32) (x3 : Int32) (x4 : Int32) (H : Heap) (locs : List Loc) (cells slots : Nat) (ls : Array Slot), k70 h x1 x2 x3 x4 = some (hz, ()) → h.kd t0 = 13 → Wo D cs A s h0 h H locs cells slots → lv_has ls 7 [(0, .ref t0), (1, .int x1), (2, .int x2), (3, .int x3), (4, .int x4)] → W p l e { frames := 1, cells := mc, slots := ms, locals := 30 } s m args below meth c H locs cells slots (MQ below (Zv D cs A hz) args s mc ms A) (F0 m 70 ls [])) (h : Hp) (x1 : Int32) (x2 : Int32) (x3 : Int32) (x4 : Int32) (x5 : Int32) (y0 : Int32) (hJ : B_X10_draw_208 N k26 k70 t0 h x1 x2 x3 x4 x5 y0 = some (hz, ())) (hk0 : h.kd t0 = 13) {H : Heap} {locs : List Loc} {cells slots : Nat} (w : Wo D cs A s h0 h H locs cells slots) {ls : Array Slot} (hl : lv_has ls 7 [(0, .ref t0), (1, .int x1), (2, .int x2), (3, .int x3), (4, .int x4), (5, .int x5)]) : W p l e { frames := 1, cells := mc, slots := ms, locals := 30 } s m args below meth c H locs cells slots (MQ below (Zv D cs A hz) args s mc ms A) (F0 m 208 ls [.int y0]) := by
  obtain ⟨hx, hb, hml, hown, hts, -⟩ := id C
  unfold B_X10_draw_208 at hJ
  refine lv_aload_n hx hb dX10_draw_208 rfl (lv_at hl 0 rfl) ?_
  refine fg_1303 C w hk0 tw_6_166 dX10_draw_209 ?_
  refine lv_iload hx hb dX10_draw_212 (lv_at hl 5 rfl) ?_
  obtain ⟨a7, ea7, hka7, hJ⟩ := dr_some hJ
  rw [ea7]
  obtain ⟨hi8, hJ⟩ := ck_some hJ
  refine jr_ialdM C w hka7 hi8 dX10_draw_214 ?_
  refine lv_icmp_gt (tgt := 230) hx hb dX10_draw_215 (by decide) (fun c9 => ?_) (fun c9 => ?_)
  · have hJ := it_pos c9 hJ
    exact sb_X10_draw_230 C hz2 N k26 k70 t0 m26 m70 i26 i70 _ _ _ _ _ hJ hk0 w (lv_sub (l' := [(0, .ref t0), (1, .int x1), (2, .int x2), (3, .int x3), (4, .int x4)]) hl [0, 1, 2, 3, 4] rfl)
  · have hJ := it_neg c9 hJ
    exact sb_X10_draw_218 C hz2 N k26 k70 t0 m26 m70 i26 i70 _ _ _ _ _ _ hJ hk0 w hl
def B_X10_draw_193 (N : Nat) (k26 : Hp → Int32 → Option (Hp × Unit)) (k70 : Hp → Int32 → Int32 → Int32 → Int32 → Option (Hp × Unit)) (t0 : Nat) (h : Hp) (x1 : Int32) (x2 : Int32) (x3 : Int32) (x4 : Int32) (x5 : Int32) (x6 : Int32) : Option (Hp × Unit) := if x6 = 0 then (if x3 = (-1 : Int32) then (B_X10_draw_218 N k26 k70 t0 h x1 x2 x3 x4 x5) else ((J_X10_momentOf N t0 h x3).bind (fun z => B_X10_draw_208 N k26 k70 t0 z.1 x1 x2 x3 x4 x5 z.2))) else (B_X10_draw_230 N k26 k70 t0 h x1 x2 x3 x4)
theorem mb_X10_draw_193 (N : Nat) (k26 : Hp → Int32 → Option (Hp × Unit)) (k70 : Hp → Int32 → Int32 → Int32 → Int32 → Option (Hp × Unit)) (t0 : Nat) (h : Hp) (x1 : Int32) (x2 : Int32) (x3 : Int32) (x4 : Int32) (x5 : Int32) (x6 : Int32) (m26 : ∀ (h : Hp) (x1 : Int32), k26 h x1 = some (hz, ()) → Mo h hz) (m70 : ∀ (h : Hp) (x1 : Int32) (x2 : Int32) (x3 : Int32) (x4 : Int32), k70 h x1 x2 x3 x4 = some (hz, ()) → Mo h hz) (hJ : B_X10_draw_193 N k26 k70 t0 h x1 x2 x3 x4 x5 x6 = some (hz, ())) : Mo h hz := by
  unfold B_X10_draw_193 at hJ
  by_cases c10 : x6 = 0
  · have hJ := it_pos c10 hJ
    by_cases c11 : x3 = (-1 : Int32)
    · have hJ := it_pos c11 hJ
      exact mb_X10_draw_218 N k26 k70 t0 _ _ _ _ _ _ m26 m70 hJ
    · have hJ := it_neg c11 hJ
      obtain ⟨⟨h12, r13⟩, e14, hJ⟩ := ob_some hJ
      exact (mo_X10_momentOf N t0 h x3 e14).tr (mb_X10_draw_208 N k26 k70 t0 _ _ _ _ _ _ _ m26 m70 hJ)
  · have hJ := it_neg c10 hJ
    exact mb_X10_draw_230 N k26 k70 t0 _ _ _ _ _ m26 m70 hJ
set_option maxRecDepth 100000 in
set_option maxHeartbeats 4000000 in
theorem sb_X10_draw_193 (C : Cx p s m args meth c cX10_draw 7 none RX10 D cs A h0.se) (hz2 : hz.nx ≤ h0.nx + mc ∧ hz.su ≤ h0.su + ms) (N : Nat) (k26 : Hp → Int32 → Option (Hp × Unit)) (k70 : Hp → Int32 → Int32 → Int32 → Int32 → Option (Hp × Unit)) (t0 : Nat) (m26 : ∀ (h : Hp) (x1 : Int32), k26 h x1 = some (hz, ()) → Mo h hz) (m70 : ∀ (h : Hp) (x1 : Int32) (x2 : Int32) (x3 : Int32) (x4 : Int32), k70 h x1 x2 x3 x4 = some (hz, ()) → Mo h hz) (i26 : ∀ (h : Hp) (x1 : Int32) (H : Heap) (locs : List Loc) (cells slots : Nat) (ls : Array Slot), k26 h x1 = some (hz, ()) → h.kd t0 = 13 → Wo D cs A s h0 h H locs cells slots → lv_has ls 7 [(0, .ref t0), (1, .int x1)] → W p l e { frames := 1, cells := mc, slots := ms, locals := 30 } s m args below meth c H locs cells slots (MQ below (Zv D cs A hz) args s mc ms A) (F0 m 26 ls [])) (i70 : ∀ (h : Hp) (x1 : Int32) (x2 : Int32) (x3 : Int32) (x4 : Int32) (H : Heap) (locs : List Loc) (cells slots : Nat) (ls : Array Slot), k70 h x1 x2 x3 x4 = some (hz, ()) → h.kd t0 = 13 → Wo D cs A s h0 h H locs cells slots → lv_has ls 7 [(0, .ref t0), (1, .int x1), (2, .int x2), (3, .int x3), (4, .int x4)] → W p l e { frames := 1, cells := mc, slots := ms, locals := 30 } s m args below meth c H locs cells slots (MQ below (Zv D cs A hz) args s mc ms A) (F0 m 70 ls [])) (h : Hp) (x1 : Int32) (x2 : Int32) (x3 : Int32) (x4 : Int32) (x5 : Int32) (x6 : Int32) (hJ : B_X10_draw_193 N k26 k70 t0 h x1 x2 x3 x4 x5 x6 = some (hz, ())) (hk0 : h.kd t0 = 13) {H : Heap} {locs : List Loc} {cells slots : Nat} (w : Wo D cs A s h0 h H locs cells slots) {ls : Array Slot} (hl : lv_has ls 7 [(0, .ref t0), (1, .int x1), (2, .int x2), (3, .int x3), (4, .int x4), (5, .int x5), (6, .int x6)]) : W p l e { frames := 1, cells := mc, slots := ms, locals := 30 } s m args below meth c H locs cells slots (MQ below (Zv D cs A hz) args s mc ms A) (F0 m 193 ls []) := by
  obtain ⟨hx, hb, hml, hown, hts, -⟩ := id C
  unfold B_X10_draw_193 at hJ
  refine lv_iload hx hb dX10_draw_193 (lv_at hl 6 rfl) ?_
  refine lv_if_ne (tgt := 230) hx hb dX10_draw_195 (by decide) (fun c10 => ?_) (fun c10 => ?_)
  · have hJ := it_neg c10 hJ
    exact sb_X10_draw_230 C hz2 N k26 k70 t0 m26 m70 i26 i70 _ _ _ _ _ hJ hk0 w (lv_sub (l' := [(0, .ref t0), (1, .int x1), (2, .int x2), (3, .int x3), (4, .int x4)]) hl [0, 1, 2, 3, 4] rfl)
  · have hJ := it_pos c10 hJ
    refine lv_iload_n hx hb dX10_draw_198 rfl (lv_at hl 3 rfl) ?_
    refine lv_iconst (v := (-1 : Int32)) hx hb dX10_draw_199 (by decide) ?_
    refine lv_icmp_eq (tgt := 218) hx hb dX10_draw_200 (by decide) (fun c11 => ?_) (fun c11 => ?_)
    · have hJ := it_pos c11 hJ
      exact sb_X10_draw_218 C hz2 N k26 k70 t0 m26 m70 i26 i70 _ _ _ _ _ _ hJ hk0 w (lv_sub (l' := [(0, .ref t0), (1, .int x1), (2, .int x2), (3, .int x3), (4, .int x4), (5, .int x5)]) hl [0, 1, 2, 3, 4, 5] rfl)
    · have hJ := it_neg c11 hJ
      refine lv_aload_n hx hb dX10_draw_203 rfl (lv_at hl 0 rfl) ?_
      refine lv_iload_n hx hb dX10_draw_204 rfl (lv_at hl 3 rfl) ?_
      obtain ⟨⟨h12, r13⟩, e14, hJ⟩ := ob_some hJ
      refine jc_Vi (As := [.int x3]) C w (cc_X10_momentOf N t0 h x3 hk0 e14) (mo_X10_momentOf N t0 h x3 e14) (mb_X10_draw_208 N k26 k70 t0 _ _ _ _ _ _ _ m26 m70 hJ) hz2 hk0 (by decide) rfl (fs := fs13 h t0) rfl rfl ⟨tw_7_182, tw_7_179, tw_7_181, ts_41, tw_1_7⟩ cd_X10_momentOf ⟨by decide, by decide⟩ hl.1 (by first | exact Nat.le_of_ble_eq_true rfl | simp [rf_cat, cat_i, cat_l, cat_r]) rfl dX10_draw_205 (fun H locs w1 => ?_)
      have hk15 := kd_keep w (mo_X10_momentOf N t0 h x3 e14) hk0 (by decide)
      have w := w1
      exact sb_X10_draw_208 C hz2 N k26 k70 t0 m26 m70 i26 i70 _ _ _ _ _ _ _ hJ hk15 w (lv_sub (l' := [(0, .ref t0), (1, .int x1), (2, .int x2), (3, .int x3), (4, .int x4), (5, .int x5)]) hl [0, 1, 2, 3, 4, 5] rfl)
def B_X10_draw_181 (N : Nat) (k26 : Hp → Int32 → Option (Hp × Unit)) (k70 : Hp → Int32 → Int32 → Int32 → Int32 → Option (Hp × Unit)) (t0 : Nat) (h : Hp) (x1 : Int32) (x2 : Int32) (x3 : Int32) (x4 : Int32) (x5 : Int32) (x6 : Int32) : Option (Hp × Unit) := dr h 30 (h.gr 1325 t0) (fun a16 => ck (¬ (x1 < 0 ∨ h.al a16 ≤ x1.toNatClampNeg)) ((J_X10_joins N t0 h (h.bi a16 x1.toNatClampNeg) x5).bind (fun z => B_X10_draw_193 N k26 k70 t0 z.1 x1 x2 x3 x4 x5 x6)))
theorem mb_X10_draw_181 (N : Nat) (k26 : Hp → Int32 → Option (Hp × Unit)) (k70 : Hp → Int32 → Int32 → Int32 → Int32 → Option (Hp × Unit)) (t0 : Nat) (h : Hp) (x1 : Int32) (x2 : Int32) (x3 : Int32) (x4 : Int32) (x5 : Int32) (x6 : Int32) (m26 : ∀ (h : Hp) (x1 : Int32), k26 h x1 = some (hz, ()) → Mo h hz) (m70 : ∀ (h : Hp) (x1 : Int32) (x2 : Int32) (x3 : Int32) (x4 : Int32), k70 h x1 x2 x3 x4 = some (hz, ()) → Mo h hz) (hJ : B_X10_draw_181 N k26 k70 t0 h x1 x2 x3 x4 x5 x6 = some (hz, ())) : Mo h hz := by
  unfold B_X10_draw_181 at hJ
  obtain ⟨a16, ea16, -, hJ⟩ := dr_some hJ
  obtain ⟨-, hJ⟩ := ck_some hJ
  obtain ⟨⟨h18, r19⟩, e20, hJ⟩ := ob_some hJ
  exact (mo_X10_joins N t0 h (h.bi a16 x1.toNatClampNeg) x5 e20).tr (mb_X10_draw_193 N k26 k70 t0 _ _ _ _ _ _ _ m26 m70 hJ)
set_option maxRecDepth 100000 in
set_option maxHeartbeats 4000000 in
theorem sb_X10_draw_181 (C : Cx p s m args meth c cX10_draw 7 none RX10 D cs A h0.se) (hz2 : hz.nx ≤ h0.nx + mc ∧ hz.su ≤ h0.su + ms) (N : Nat) (k26 : Hp → Int32 → Option (Hp × Unit)) (k70 : Hp → Int32 → Int32 → Int32 → Int32 → Option (Hp × Unit)) (t0 : Nat) (m26 : ∀ (h : Hp) (x1 : Int32), k26 h x1 = some (hz, ()) → Mo h hz) (m70 : ∀ (h : Hp) (x1 : Int32) (x2 : Int32) (x3 : Int32) (x4 : Int32), k70 h x1 x2 x3 x4 = some (hz, ()) → Mo h hz) (i26 : ∀ (h : Hp) (x1 : Int32) (H : Heap) (locs : List Loc) (cells slots : Nat) (ls : Array Slot), k26 h x1 = some (hz, ()) → h.kd t0 = 13 → Wo D cs A s h0 h H locs cells slots → lv_has ls 7 [(0, .ref t0), (1, .int x1)] → W p l e { frames := 1, cells := mc, slots := ms, locals := 30 } s m args below meth c H locs cells slots (MQ below (Zv D cs A hz) args s mc ms A) (F0 m 26 ls [])) (i70 : ∀ (h : Hp) (x1 : Int32) (x2 : Int32) (x3 : Int32) (x4 : Int32) (H : Heap) (locs : List Loc) (cells slots : Nat) (ls : Array Slot), k70 h x1 x2 x3 x4 = some (hz, ()) → h.kd t0 = 13 → Wo D cs A s h0 h H locs cells slots → lv_has ls 7 [(0, .ref t0), (1, .int x1), (2, .int x2), (3, .int x3), (4, .int x4)] → W p l e { frames := 1, cells := mc, slots := ms, locals := 30 } s m args below meth c H locs cells slots (MQ below (Zv D cs A hz) args s mc ms A) (F0 m 70 ls [])) (h : Hp) (x1 : Int32) (x2 : Int32) (x3 : Int32) (x4 : Int32) (x5 : Int32) (x6 : Int32) (hJ : B_X10_draw_181 N k26 k70 t0 h x1 x2 x3 x4 x5 x6 = some (hz, ())) (hk0 : h.kd t0 = 13) {H : Heap} {locs : List Loc} {cells slots : Nat} (w : Wo D cs A s h0 h H locs cells slots) {ls : Array Slot} (hl : lv_has ls 7 [(0, .ref t0), (1, .int x1), (2, .int x2), (3, .int x3), (4, .int x4), (5, .int x5), (6, .int x6)]) : W p l e { frames := 1, cells := mc, slots := ms, locals := 30 } s m args below meth c H locs cells slots (MQ below (Zv D cs A hz) args s mc ms A) (F0 m 181 ls []) := by
  obtain ⟨hx, hb, hml, hown, hts, -⟩ := id C
  unfold B_X10_draw_181 at hJ
  refine lv_aload_n hx hb dX10_draw_181 rfl (lv_at hl 0 rfl) ?_
  refine lv_aload_n hx hb dX10_draw_182 rfl (lv_at hl 0 rfl) ?_
  refine fg_1325 C w hk0 tw_6_188 dX10_draw_183 ?_
  refine lv_iload_n hx hb dX10_draw_186 rfl (lv_at hl 1 rfl) ?_
  obtain ⟨a16, ea16, hka16, hJ⟩ := dr_some hJ
  rw [ea16]
  obtain ⟨hi17, hJ⟩ := ck_some hJ
  refine jr_ialdM C w hka16 hi17 dX10_draw_187 ?_
  refine lv_iload hx hb dX10_draw_188 (lv_at hl 5 rfl) ?_
  obtain ⟨⟨h18, r19⟩, e20, hJ⟩ := ob_some hJ
  refine jc_Vv (As := [.int (h.bi a16 x1.toNatClampNeg), .int x5]) C w (cc_X10_joins N t0 h (h.bi a16 x1.toNatClampNeg) x5 hk0 e20) (mo_X10_joins N t0 h (h.bi a16 x1.toNatClampNeg) x5 e20) (mb_X10_draw_193 N k26 k70 t0 _ _ _ _ _ _ _ m26 m70 hJ) hz2 hk0 (by decide) rfl (fs := fs13 h t0) rfl rfl ⟨tw_8_124, tw_8_121, tw_8_123, ts_68, tw_1_7⟩ cd_X10_joins ⟨by decide, by decide⟩ hl.1 (by first | exact Nat.le_of_ble_eq_true rfl | simp [rf_cat, cat_i, cat_l, cat_r]) rfl dX10_draw_190 (fun H locs w1 => ?_)
  have hk21 := kd_keep w (mo_X10_joins N t0 h (h.bi a16 x1.toNatClampNeg) x5 e20) hk0 (by decide)
  have w := w1
  exact sb_X10_draw_193 C hz2 N k26 k70 t0 m26 m70 i26 i70 _ _ _ _ _ _ _ hJ hk21 w hl
def B_X10_draw_171 (N : Nat) (k26 : Hp → Int32 → Option (Hp × Unit)) (k70 : Hp → Int32 → Int32 → Int32 → Int32 → Option (Hp × Unit)) (t0 : Nat) (h : Hp) (x1 : Int32) (x2 : Int32) (x3 : Int32) (x4 : Int32) (x5 : Int32) (x6 : Int32) (y0 : Int32) : Option (Hp × Unit) := dr h 30 (h.gr 1303 t0) (fun a22 => ck (¬ (x5 < 0 ∨ h.al a22 ≤ x5.toNatClampNeg)) (if y0 ≤ (h.bi a22 x5.toNatClampNeg) then (B_X10_draw_193 N k26 k70 t0 h x1 x2 x3 x4 x5 x6) else (B_X10_draw_181 N k26 k70 t0 h x1 x2 x3 x4 x5 x6)))
theorem mb_X10_draw_171 (N : Nat) (k26 : Hp → Int32 → Option (Hp × Unit)) (k70 : Hp → Int32 → Int32 → Int32 → Int32 → Option (Hp × Unit)) (t0 : Nat) (h : Hp) (x1 : Int32) (x2 : Int32) (x3 : Int32) (x4 : Int32) (x5 : Int32) (x6 : Int32) (y0 : Int32) (m26 : ∀ (h : Hp) (x1 : Int32), k26 h x1 = some (hz, ()) → Mo h hz) (m70 : ∀ (h : Hp) (x1 : Int32) (x2 : Int32) (x3 : Int32) (x4 : Int32), k70 h x1 x2 x3 x4 = some (hz, ()) → Mo h hz) (hJ : B_X10_draw_171 N k26 k70 t0 h x1 x2 x3 x4 x5 x6 y0 = some (hz, ())) : Mo h hz := by
  unfold B_X10_draw_171 at hJ
  obtain ⟨a22, ea22, -, hJ⟩ := dr_some hJ
  obtain ⟨-, hJ⟩ := ck_some hJ
  by_cases c24 : y0 ≤ (h.bi a22 x5.toNatClampNeg)
  · have hJ := it_pos c24 hJ
    exact mb_X10_draw_193 N k26 k70 t0 _ _ _ _ _ _ _ m26 m70 hJ
  · have hJ := it_neg c24 hJ
    exact mb_X10_draw_181 N k26 k70 t0 _ _ _ _ _ _ _ m26 m70 hJ
set_option maxRecDepth 100000 in
set_option maxHeartbeats 4000000 in
theorem sb_X10_draw_171 (C : Cx p s m args meth c cX10_draw 7 none RX10 D cs A h0.se) (hz2 : hz.nx ≤ h0.nx + mc ∧ hz.su ≤ h0.su + ms) (N : Nat) (k26 : Hp → Int32 → Option (Hp × Unit)) (k70 : Hp → Int32 → Int32 → Int32 → Int32 → Option (Hp × Unit)) (t0 : Nat) (m26 : ∀ (h : Hp) (x1 : Int32), k26 h x1 = some (hz, ()) → Mo h hz) (m70 : ∀ (h : Hp) (x1 : Int32) (x2 : Int32) (x3 : Int32) (x4 : Int32), k70 h x1 x2 x3 x4 = some (hz, ()) → Mo h hz) (i26 : ∀ (h : Hp) (x1 : Int32) (H : Heap) (locs : List Loc) (cells slots : Nat) (ls : Array Slot), k26 h x1 = some (hz, ()) → h.kd t0 = 13 → Wo D cs A s h0 h H locs cells slots → lv_has ls 7 [(0, .ref t0), (1, .int x1)] → W p l e { frames := 1, cells := mc, slots := ms, locals := 30 } s m args below meth c H locs cells slots (MQ below (Zv D cs A hz) args s mc ms A) (F0 m 26 ls [])) (i70 : ∀ (h : Hp) (x1 : Int32) (x2 : Int32) (x3 : Int32) (x4 : Int32) (H : Heap) (locs : List Loc) (cells slots : Nat) (ls : Array Slot), k70 h x1 x2 x3 x4 = some (hz, ()) → h.kd t0 = 13 → Wo D cs A s h0 h H locs cells slots → lv_has ls 7 [(0, .ref t0), (1, .int x1), (2, .int x2), (3, .int x3), (4, .int x4)] → W p l e { frames := 1, cells := mc, slots := ms, locals := 30 } s m args below meth c H locs cells slots (MQ below (Zv D cs A hz) args s mc ms A) (F0 m 70 ls [])) (h : Hp) (x1 : Int32) (x2 : Int32) (x3 : Int32) (x4 : Int32) (x5 : Int32) (x6 : Int32) (y0 : Int32) (hJ : B_X10_draw_171 N k26 k70 t0 h x1 x2 x3 x4 x5 x6 y0 = some (hz, ())) (hk0 : h.kd t0 = 13) {H : Heap} {locs : List Loc} {cells slots : Nat} (w : Wo D cs A s h0 h H locs cells slots) {ls : Array Slot} (hl : lv_has ls 7 [(0, .ref t0), (1, .int x1), (2, .int x2), (3, .int x3), (4, .int x4), (5, .int x5), (6, .int x6)]) : W p l e { frames := 1, cells := mc, slots := ms, locals := 30 } s m args below meth c H locs cells slots (MQ below (Zv D cs A hz) args s mc ms A) (F0 m 171 ls [.int y0]) := by
  obtain ⟨hx, hb, hml, hown, hts, -⟩ := id C
  unfold B_X10_draw_171 at hJ
  refine lv_aload_n hx hb dX10_draw_171 rfl (lv_at hl 0 rfl) ?_
  refine fg_1303 C w hk0 tw_6_166 dX10_draw_172 ?_
  refine lv_iload hx hb dX10_draw_175 (lv_at hl 5 rfl) ?_
  obtain ⟨a22, ea22, hka22, hJ⟩ := dr_some hJ
  rw [ea22]
  obtain ⟨hi23, hJ⟩ := ck_some hJ
  refine jr_ialdM C w hka22 hi23 dX10_draw_177 ?_
  refine lv_icmp_le (tgt := 193) hx hb dX10_draw_178 (by decide) (fun c24 => ?_) (fun c24 => ?_)
  · have hJ := it_pos c24 hJ
    exact sb_X10_draw_193 C hz2 N k26 k70 t0 m26 m70 i26 i70 _ _ _ _ _ _ _ hJ hk0 w hl
  · have hJ := it_neg c24 hJ
    exact sb_X10_draw_181 C hz2 N k26 k70 t0 m26 m70 i26 i70 _ _ _ _ _ _ _ hJ hk0 w hl
def B_X10_draw_154 (N : Nat) (k26 : Hp → Int32 → Option (Hp × Unit)) (k70 : Hp → Int32 → Int32 → Int32 → Int32 → Option (Hp × Unit)) (t0 : Nat) (h : Hp) (x1 : Int32) (x2 : Int32) (x3 : Int32) (x4 : Int32) (x5 : Int32) (y0 : Int32) : Option (Hp × Unit) := if y0 = 0 then (B_X10_draw_193 N k26 k70 t0 h x1 x2 x3 x4 x5 y0) else (if x2 = (-1 : Int32) then (B_X10_draw_181 N k26 k70 t0 h x1 x2 x3 x4 x5 y0) else ((J_X10_momentOf N t0 h x2).bind (fun z => B_X10_draw_171 N k26 k70 t0 z.1 x1 x2 x3 x4 x5 y0 z.2)))
theorem mb_X10_draw_154 (N : Nat) (k26 : Hp → Int32 → Option (Hp × Unit)) (k70 : Hp → Int32 → Int32 → Int32 → Int32 → Option (Hp × Unit)) (t0 : Nat) (h : Hp) (x1 : Int32) (x2 : Int32) (x3 : Int32) (x4 : Int32) (x5 : Int32) (y0 : Int32) (m26 : ∀ (h : Hp) (x1 : Int32), k26 h x1 = some (hz, ()) → Mo h hz) (m70 : ∀ (h : Hp) (x1 : Int32) (x2 : Int32) (x3 : Int32) (x4 : Int32), k70 h x1 x2 x3 x4 = some (hz, ()) → Mo h hz) (hJ : B_X10_draw_154 N k26 k70 t0 h x1 x2 x3 x4 x5 y0 = some (hz, ())) : Mo h hz := by
  unfold B_X10_draw_154 at hJ
  by_cases c25 : y0 = 0
  · have hJ := it_pos c25 hJ
    exact mb_X10_draw_193 N k26 k70 t0 _ _ _ _ _ _ _ m26 m70 hJ
  · have hJ := it_neg c25 hJ
    by_cases c26 : x2 = (-1 : Int32)
    · have hJ := it_pos c26 hJ
      exact mb_X10_draw_181 N k26 k70 t0 _ _ _ _ _ _ _ m26 m70 hJ
    · have hJ := it_neg c26 hJ
      obtain ⟨⟨h27, r28⟩, e29, hJ⟩ := ob_some hJ
      exact (mo_X10_momentOf N t0 h x2 e29).tr (mb_X10_draw_171 N k26 k70 t0 _ _ _ _ _ _ _ _ m26 m70 hJ)
set_option maxRecDepth 100000 in
set_option maxHeartbeats 4000000 in
theorem sb_X10_draw_154 (C : Cx p s m args meth c cX10_draw 7 none RX10 D cs A h0.se) (hz2 : hz.nx ≤ h0.nx + mc ∧ hz.su ≤ h0.su + ms) (N : Nat) (k26 : Hp → Int32 → Option (Hp × Unit)) (k70 : Hp → Int32 → Int32 → Int32 → Int32 → Option (Hp × Unit)) (t0 : Nat) (m26 : ∀ (h : Hp) (x1 : Int32), k26 h x1 = some (hz, ()) → Mo h hz) (m70 : ∀ (h : Hp) (x1 : Int32) (x2 : Int32) (x3 : Int32) (x4 : Int32), k70 h x1 x2 x3 x4 = some (hz, ()) → Mo h hz) (i26 : ∀ (h : Hp) (x1 : Int32) (H : Heap) (locs : List Loc) (cells slots : Nat) (ls : Array Slot), k26 h x1 = some (hz, ()) → h.kd t0 = 13 → Wo D cs A s h0 h H locs cells slots → lv_has ls 7 [(0, .ref t0), (1, .int x1)] → W p l e { frames := 1, cells := mc, slots := ms, locals := 30 } s m args below meth c H locs cells slots (MQ below (Zv D cs A hz) args s mc ms A) (F0 m 26 ls [])) (i70 : ∀ (h : Hp) (x1 : Int32) (x2 : Int32) (x3 : Int32) (x4 : Int32) (H : Heap) (locs : List Loc) (cells slots : Nat) (ls : Array Slot), k70 h x1 x2 x3 x4 = some (hz, ()) → h.kd t0 = 13 → Wo D cs A s h0 h H locs cells slots → lv_has ls 7 [(0, .ref t0), (1, .int x1), (2, .int x2), (3, .int x3), (4, .int x4)] → W p l e { frames := 1, cells := mc, slots := ms, locals := 30 } s m args below meth c H locs cells slots (MQ below (Zv D cs A hz) args s mc ms A) (F0 m 70 ls [])) (h : Hp) (x1 : Int32) (x2 : Int32) (x3 : Int32) (x4 : Int32) (x5 : Int32) (y0 : Int32) (hJ : B_X10_draw_154 N k26 k70 t0 h x1 x2 x3 x4 x5 y0 = some (hz, ())) (hk0 : h.kd t0 = 13) {H : Heap} {locs : List Loc} {cells slots : Nat} (w : Wo D cs A s h0 h H locs cells slots) {ls : Array Slot} (hl : lv_has ls 7 [(0, .ref t0), (1, .int x1), (2, .int x2), (3, .int x3), (4, .int x4), (5, .int x5)]) : W p l e { frames := 1, cells := mc, slots := ms, locals := 30 } s m args below meth c H locs cells slots (MQ below (Zv D cs A hz) args s mc ms A) (F0 m 154 ls [.int y0]) := by
  obtain ⟨hx, hb, hml, hown, hts, -⟩ := id C
  unfold B_X10_draw_154 at hJ
  refine lv_istore (i := 6) (lv' := [(6, .int y0), (0, .ref t0), (1, .int x1), (2, .int x2), (3, .int x3), (4, .int x4), (5, .int x5)]) hx hb dX10_draw_154 hl (by decide) rfl (fun ls hl => ?_)
  refine lv_iload hx hb dX10_draw_156 (lv_at hl 0 rfl) ?_
  refine lv_if_eq (tgt := 193) hx hb dX10_draw_158 (by decide) (fun c25 => ?_) (fun c25 => ?_)
  · have hJ := it_pos c25 hJ
    exact sb_X10_draw_193 C hz2 N k26 k70 t0 m26 m70 i26 i70 _ _ _ _ _ _ _ hJ hk0 w (lv_sub (l' := [(0, .ref t0), (1, .int x1), (2, .int x2), (3, .int x3), (4, .int x4), (5, .int x5), (6, .int y0)]) hl [1, 2, 3, 4, 5, 6, 0] rfl)
  · have hJ := it_neg c25 hJ
    refine lv_iload_n hx hb dX10_draw_161 rfl (lv_at hl 3 rfl) ?_
    refine lv_iconst (v := (-1 : Int32)) hx hb dX10_draw_162 (by decide) ?_
    refine lv_icmp_eq (tgt := 181) hx hb dX10_draw_163 (by decide) (fun c26 => ?_) (fun c26 => ?_)
    · have hJ := it_pos c26 hJ
      exact sb_X10_draw_181 C hz2 N k26 k70 t0 m26 m70 i26 i70 _ _ _ _ _ _ _ hJ hk0 w (lv_sub (l' := [(0, .ref t0), (1, .int x1), (2, .int x2), (3, .int x3), (4, .int x4), (5, .int x5), (6, .int y0)]) hl [1, 2, 3, 4, 5, 6, 0] rfl)
    · have hJ := it_neg c26 hJ
      refine lv_aload_n hx hb dX10_draw_166 rfl (lv_at hl 1 rfl) ?_
      refine lv_iload_n hx hb dX10_draw_167 rfl (lv_at hl 3 rfl) ?_
      obtain ⟨⟨h27, r28⟩, e29, hJ⟩ := ob_some hJ
      refine jc_Vi (As := [.int x2]) C w (cc_X10_momentOf N t0 h x2 hk0 e29) (mo_X10_momentOf N t0 h x2 e29) (mb_X10_draw_171 N k26 k70 t0 _ _ _ _ _ _ _ _ m26 m70 hJ) hz2 hk0 (by decide) rfl (fs := fs13 h t0) rfl rfl ⟨tw_7_182, tw_7_179, tw_7_181, ts_41, tw_1_7⟩ cd_X10_momentOf ⟨by decide, by decide⟩ hl.1 (by first | exact Nat.le_of_ble_eq_true rfl | simp [rf_cat, cat_i, cat_l, cat_r]) rfl dX10_draw_168 (fun H locs w1 => ?_)
      have hk30 := kd_keep w (mo_X10_momentOf N t0 h x2 e29) hk0 (by decide)
      have w := w1
      exact sb_X10_draw_171 C hz2 N k26 k70 t0 m26 m70 i26 i70 _ _ _ _ _ _ _ _ hJ hk30 w (lv_sub (l' := [(0, .ref t0), (1, .int x1), (2, .int x2), (3, .int x3), (4, .int x4), (5, .int x5), (6, .int y0)]) hl [1, 2, 3, 4, 5, 6, 0] rfl)
def B_X10_draw_139 (N : Nat) (k26 : Hp → Int32 → Option (Hp × Unit)) (k70 : Hp → Int32 → Int32 → Int32 → Int32 → Option (Hp × Unit)) (t0 : Nat) (h : Hp) (x1 : Int32) (x2 : Int32) (x3 : Int32) (x4 : Int32) (x5 : Int32) (y0 : Int32) : Option (Hp × Unit) := dr h 30 (h.gr 1303 t0) (fun a31 => ck (¬ (x5 < 0 ∨ h.al a31 ≤ x5.toNatClampNeg)) (if (h.bi a31 x5.toNatClampNeg) < y0 then (B_X10_draw_154 N k26 k70 t0 h x1 x2 x3 x4 x5 (0 : Int32)) else (B_X10_draw_154 N k26 k70 t0 h x1 x2 x3 x4 x5 (1 : Int32))))
theorem mb_X10_draw_139 (N : Nat) (k26 : Hp → Int32 → Option (Hp × Unit)) (k70 : Hp → Int32 → Int32 → Int32 → Int32 → Option (Hp × Unit)) (t0 : Nat) (h : Hp) (x1 : Int32) (x2 : Int32) (x3 : Int32) (x4 : Int32) (x5 : Int32) (y0 : Int32) (m26 : ∀ (h : Hp) (x1 : Int32), k26 h x1 = some (hz, ()) → Mo h hz) (m70 : ∀ (h : Hp) (x1 : Int32) (x2 : Int32) (x3 : Int32) (x4 : Int32), k70 h x1 x2 x3 x4 = some (hz, ()) → Mo h hz) (hJ : B_X10_draw_139 N k26 k70 t0 h x1 x2 x3 x4 x5 y0 = some (hz, ())) : Mo h hz := by
  unfold B_X10_draw_139 at hJ
  obtain ⟨a31, ea31, -, hJ⟩ := dr_some hJ
  obtain ⟨-, hJ⟩ := ck_some hJ
  by_cases c33 : (h.bi a31 x5.toNatClampNeg) < y0
  · have hJ := it_pos c33 hJ
    exact mb_X10_draw_154 N k26 k70 t0 _ _ _ _ _ _ _ m26 m70 hJ
  · have hJ := it_neg c33 hJ
    exact mb_X10_draw_154 N k26 k70 t0 _ _ _ _ _ _ _ m26 m70 hJ
set_option maxRecDepth 100000 in
set_option maxHeartbeats 4000000 in
theorem sb_X10_draw_139 (C : Cx p s m args meth c cX10_draw 7 none RX10 D cs A h0.se) (hz2 : hz.nx ≤ h0.nx + mc ∧ hz.su ≤ h0.su + ms) (N : Nat) (k26 : Hp → Int32 → Option (Hp × Unit)) (k70 : Hp → Int32 → Int32 → Int32 → Int32 → Option (Hp × Unit)) (t0 : Nat) (m26 : ∀ (h : Hp) (x1 : Int32), k26 h x1 = some (hz, ()) → Mo h hz) (m70 : ∀ (h : Hp) (x1 : Int32) (x2 : Int32) (x3 : Int32) (x4 : Int32), k70 h x1 x2 x3 x4 = some (hz, ()) → Mo h hz) (i26 : ∀ (h : Hp) (x1 : Int32) (H : Heap) (locs : List Loc) (cells slots : Nat) (ls : Array Slot), k26 h x1 = some (hz, ()) → h.kd t0 = 13 → Wo D cs A s h0 h H locs cells slots → lv_has ls 7 [(0, .ref t0), (1, .int x1)] → W p l e { frames := 1, cells := mc, slots := ms, locals := 30 } s m args below meth c H locs cells slots (MQ below (Zv D cs A hz) args s mc ms A) (F0 m 26 ls [])) (i70 : ∀ (h : Hp) (x1 : Int32) (x2 : Int32) (x3 : Int32) (x4 : Int32) (H : Heap) (locs : List Loc) (cells slots : Nat) (ls : Array Slot), k70 h x1 x2 x3 x4 = some (hz, ()) → h.kd t0 = 13 → Wo D cs A s h0 h H locs cells slots → lv_has ls 7 [(0, .ref t0), (1, .int x1), (2, .int x2), (3, .int x3), (4, .int x4)] → W p l e { frames := 1, cells := mc, slots := ms, locals := 30 } s m args below meth c H locs cells slots (MQ below (Zv D cs A hz) args s mc ms A) (F0 m 70 ls [])) (h : Hp) (x1 : Int32) (x2 : Int32) (x3 : Int32) (x4 : Int32) (x5 : Int32) (y0 : Int32) (hJ : B_X10_draw_139 N k26 k70 t0 h x1 x2 x3 x4 x5 y0 = some (hz, ())) (hk0 : h.kd t0 = 13) {H : Heap} {locs : List Loc} {cells slots : Nat} (w : Wo D cs A s h0 h H locs cells slots) {ls : Array Slot} (hl : lv_has ls 7 [(0, .ref t0), (1, .int x1), (2, .int x2), (3, .int x3), (4, .int x4), (5, .int x5)]) : W p l e { frames := 1, cells := mc, slots := ms, locals := 30 } s m args below meth c H locs cells slots (MQ below (Zv D cs A hz) args s mc ms A) (F0 m 139 ls [.int y0]) := by
  obtain ⟨hx, hb, hml, hown, hts, -⟩ := id C
  unfold B_X10_draw_139 at hJ
  refine lv_aload_n hx hb dX10_draw_139 rfl (lv_at hl 0 rfl) ?_
  refine fg_1303 C w hk0 tw_6_166 dX10_draw_140 ?_
  refine lv_iload hx hb dX10_draw_143 (lv_at hl 5 rfl) ?_
  obtain ⟨a31, ea31, hka31, hJ⟩ := dr_some hJ
  rw [ea31]
  obtain ⟨hi32, hJ⟩ := ck_some hJ
  refine jr_ialdM C w hka31 hi32 dX10_draw_145 ?_
  refine lv_icmp_gt (tgt := 153) hx hb dX10_draw_146 (by decide) (fun c33 => ?_) (fun c33 => ?_)
  · have hJ := it_pos c33 hJ
    refine lv_iconst (v := (0 : Int32)) hx hb dX10_draw_153 (by decide) ?_
    exact sb_X10_draw_154 C hz2 N k26 k70 t0 m26 m70 i26 i70 _ _ _ _ _ _ _ hJ hk0 w hl
  · have hJ := it_neg c33 hJ
    refine lv_iconst (v := (1 : Int32)) hx hb dX10_draw_149 (by decide) ?_
    refine lv_goto (tgt := 154) hx hb dX10_draw_150 (by decide) ?_
    exact sb_X10_draw_154 C hz2 N k26 k70 t0 m26 m70 i26 i70 _ _ _ _ _ _ _ hJ hk0 w hl
def B_X10_draw_70 (N : Nat) (k26 : Hp → Int32 → Option (Hp × Unit)) (k70 : Hp → Int32 → Int32 → Int32 → Int32 → Option (Hp × Unit)) (t0 : Nat) (h : Hp) (x1 : Int32) (x2 : Int32) (x3 : Int32) (x4 : Int32) : Option (Hp × Unit) := if (h.gi 1323 t0) ≤ x4 then (k26 h (x1 + (1 : Int32))) else (dr h 30 (h.gr 1320 t0) (fun a35 => ck (¬ (x4 < 0 ∨ h.al a35 ≤ x4.toNatClampNeg)) (dr h 30 (h.gr 1301 t0) (fun a37 => ck (¬ (h.bi a35 x4.toNatClampNeg < 0 ∨ h.al a37 ≤ (h.bi a35 x4.toNatClampNeg).toNatClampNeg)) (if (h.bi a37 (h.bi a35 x4.toNatClampNeg).toNatClampNeg) = (2 : Int32) then (dr h 30 (h.gr 1324 t0) (fun a40 => ck (¬ (x1 < 0 ∨ h.al a40 ≤ x1.toNatClampNeg)) (dr h 30 (h.gr 1321 t0) (fun a42 => ck (¬ (x4 < 0 ∨ h.al a42 ≤ x4.toNatClampNeg)) (if (h.bi a40 x1.toNatClampNeg) < (h.bi a42 x4.toNatClampNeg) then (B_X10_draw_230 N k26 k70 t0 h x1 x2 x3 x4) else (dr h 30 (h.gr 1324 t0) (fun a45 => ck (¬ (x1 < 0 ∨ h.al a45 ≤ x1.toNatClampNeg)) (dr h 30 (h.gr 1322 t0) (fun a47 => ck (¬ (x4 < 0 ∨ h.al a47 ≤ x4.toNatClampNeg)) (if (h.bi a45 x1.toNatClampNeg) ≤ (h.bi a47 x4.toNatClampNeg) then ((J_X10_momentOf N t0 h x1).bind (fun z => B_X10_draw_139 N k26 k70 t0 z.1 x1 x2 x3 x4 (h.bi a35 x4.toNatClampNeg) z.2)) else (B_X10_draw_230 N k26 k70 t0 h x1 x2 x3 x4))))))))))) else (B_X10_draw_230 N k26 k70 t0 h x1 x2 x3 x4))))))
theorem mb_X10_draw_70 (N : Nat) (k26 : Hp → Int32 → Option (Hp × Unit)) (k70 : Hp → Int32 → Int32 → Int32 → Int32 → Option (Hp × Unit)) (t0 : Nat) (h : Hp) (x1 : Int32) (x2 : Int32) (x3 : Int32) (x4 : Int32) (m26 : ∀ (h : Hp) (x1 : Int32), k26 h x1 = some (hz, ()) → Mo h hz) (m70 : ∀ (h : Hp) (x1 : Int32) (x2 : Int32) (x3 : Int32) (x4 : Int32), k70 h x1 x2 x3 x4 = some (hz, ()) → Mo h hz) (hJ : B_X10_draw_70 N k26 k70 t0 h x1 x2 x3 x4 = some (hz, ())) : Mo h hz := by
  unfold B_X10_draw_70 at hJ
  by_cases c34 : (h.gi 1323 t0) ≤ x4
  · have hJ := it_pos c34 hJ
    exact m26 _ _ hJ
  · have hJ := it_neg c34 hJ
    obtain ⟨a35, ea35, -, hJ⟩ := dr_some hJ
    obtain ⟨-, hJ⟩ := ck_some hJ
    obtain ⟨a37, ea37, -, hJ⟩ := dr_some hJ
    obtain ⟨-, hJ⟩ := ck_some hJ
    by_cases c39 : (h.bi a37 (h.bi a35 x4.toNatClampNeg).toNatClampNeg) = (2 : Int32)
    · have hJ := it_pos c39 hJ
      obtain ⟨a40, ea40, -, hJ⟩ := dr_some hJ
      obtain ⟨-, hJ⟩ := ck_some hJ
      obtain ⟨a42, ea42, -, hJ⟩ := dr_some hJ
      obtain ⟨-, hJ⟩ := ck_some hJ
      by_cases c44 : (h.bi a40 x1.toNatClampNeg) < (h.bi a42 x4.toNatClampNeg)
      · have hJ := it_pos c44 hJ
        exact mb_X10_draw_230 N k26 k70 t0 _ _ _ _ _ m26 m70 hJ
      · have hJ := it_neg c44 hJ
        obtain ⟨a45, ea45, -, hJ⟩ := dr_some hJ
        obtain ⟨-, hJ⟩ := ck_some hJ
        obtain ⟨a47, ea47, -, hJ⟩ := dr_some hJ
        obtain ⟨-, hJ⟩ := ck_some hJ
        by_cases c49 : (h.bi a45 x1.toNatClampNeg) ≤ (h.bi a47 x4.toNatClampNeg)
        · have hJ := it_pos c49 hJ
          obtain ⟨⟨h50, r51⟩, e52, hJ⟩ := ob_some hJ
          exact (mo_X10_momentOf N t0 h x1 e52).tr (mb_X10_draw_139 N k26 k70 t0 _ _ _ _ _ _ _ m26 m70 hJ)
        · have hJ := it_neg c49 hJ
          exact mb_X10_draw_230 N k26 k70 t0 _ _ _ _ _ m26 m70 hJ
    · have hJ := it_neg c39 hJ
      exact mb_X10_draw_230 N k26 k70 t0 _ _ _ _ _ m26 m70 hJ
set_option maxRecDepth 100000 in
set_option maxHeartbeats 4000000 in
theorem sb_X10_draw_70 (C : Cx p s m args meth c cX10_draw 7 none RX10 D cs A h0.se) (hz2 : hz.nx ≤ h0.nx + mc ∧ hz.su ≤ h0.su + ms) (N : Nat) (k26 : Hp → Int32 → Option (Hp × Unit)) (k70 : Hp → Int32 → Int32 → Int32 → Int32 → Option (Hp × Unit)) (t0 : Nat) (m26 : ∀ (h : Hp) (x1 : Int32), k26 h x1 = some (hz, ()) → Mo h hz) (m70 : ∀ (h : Hp) (x1 : Int32) (x2 : Int32) (x3 : Int32) (x4 : Int32), k70 h x1 x2 x3 x4 = some (hz, ()) → Mo h hz) (i26 : ∀ (h : Hp) (x1 : Int32) (H : Heap) (locs : List Loc) (cells slots : Nat) (ls : Array Slot), k26 h x1 = some (hz, ()) → h.kd t0 = 13 → Wo D cs A s h0 h H locs cells slots → lv_has ls 7 [(0, .ref t0), (1, .int x1)] → W p l e { frames := 1, cells := mc, slots := ms, locals := 30 } s m args below meth c H locs cells slots (MQ below (Zv D cs A hz) args s mc ms A) (F0 m 26 ls [])) (i70 : ∀ (h : Hp) (x1 : Int32) (x2 : Int32) (x3 : Int32) (x4 : Int32) (H : Heap) (locs : List Loc) (cells slots : Nat) (ls : Array Slot), k70 h x1 x2 x3 x4 = some (hz, ()) → h.kd t0 = 13 → Wo D cs A s h0 h H locs cells slots → lv_has ls 7 [(0, .ref t0), (1, .int x1), (2, .int x2), (3, .int x3), (4, .int x4)] → W p l e { frames := 1, cells := mc, slots := ms, locals := 30 } s m args below meth c H locs cells slots (MQ below (Zv D cs A hz) args s mc ms A) (F0 m 70 ls [])) (h : Hp) (x1 : Int32) (x2 : Int32) (x3 : Int32) (x4 : Int32) (hJ : B_X10_draw_70 N k26 k70 t0 h x1 x2 x3 x4 = some (hz, ())) (hk0 : h.kd t0 = 13) {H : Heap} {locs : List Loc} {cells slots : Nat} (w : Wo D cs A s h0 h H locs cells slots) {ls : Array Slot} (hl : lv_has ls 7 [(0, .ref t0), (1, .int x1), (2, .int x2), (3, .int x3), (4, .int x4)]) : W p l e { frames := 1, cells := mc, slots := ms, locals := 30 } s m args below meth c H locs cells slots (MQ below (Zv D cs A hz) args s mc ms A) (F0 m 70 ls []) := by
  obtain ⟨hx, hb, hml, hown, hts, -⟩ := id C
  unfold B_X10_draw_70 at hJ
  refine lv_iload hx hb dX10_draw_70 (lv_at hl 4 rfl) ?_
  refine lv_aload_n hx hb dX10_draw_72 rfl (lv_at hl 0 rfl) ?_
  refine fg_1323 C w hk0 tw_6_186 dX10_draw_73 ?_
  refine lv_icmp_ge (tgt := 236) hx hb dX10_draw_76 (by decide) (fun c34 => ?_) (fun c34 => ?_)
  · have hJ := it_pos c34 hJ
    refine lv_iinc (v := x1 + (1 : Int32)) (lv' := [(1, .int (x1 + (1 : Int32))), (0, .ref t0), (2, .int x2), (3, .int x3), (4, .int x4)]) hx hb dX10_draw_236 hl (k := 1) rfl rfl (by decide) rfl (fun ls hl => ?_)
    refine lv_goto (tgt := 26) hx hb dX10_draw_239 (by decide) ?_
    exact i26 _ _ _ _ _ _ _ hJ hk0 w (lv_sub (l' := [(0, .ref t0), (1, .int (x1 + (1 : Int32)))]) hl [1, 0] rfl)
  · have hJ := it_neg c34 hJ
    refine lv_aload_n hx hb dX10_draw_79 rfl (lv_at hl 0 rfl) ?_
    refine fg_1320 C w hk0 tw_6_183 dX10_draw_80 ?_
    refine lv_iload hx hb dX10_draw_83 (lv_at hl 4 rfl) ?_
    obtain ⟨a35, ea35, hka35, hJ⟩ := dr_some hJ
    rw [ea35]
    obtain ⟨hi36, hJ⟩ := ck_some hJ
    refine jr_ialdM C w hka35 hi36 dX10_draw_85 ?_
    refine lv_istore (i := 5) (lv' := [(5, .int (h.bi a35 x4.toNatClampNeg)), (0, .ref t0), (1, .int x1), (2, .int x2), (3, .int x3), (4, .int x4)]) hx hb dX10_draw_86 hl (by decide) rfl (fun ls hl => ?_)
    refine lv_aload_n hx hb dX10_draw_88 rfl (lv_at hl 1 rfl) ?_
    refine fg_1301 C w hk0 tw_6_164 dX10_draw_89 ?_
    refine lv_iload hx hb dX10_draw_92 (lv_at hl 0 rfl) ?_
    obtain ⟨a37, ea37, hka37, hJ⟩ := dr_some hJ
    rw [ea37]
    obtain ⟨hi38, hJ⟩ := ck_some hJ
    refine jr_ialdM C w hka37 hi38 dX10_draw_94 ?_
    refine lv_iconst (v := (2 : Int32)) hx hb dX10_draw_95 (by decide) ?_
    refine lv_icmp_ne (tgt := 230) hx hb dX10_draw_96 (by decide) (fun c39 => ?_) (fun c39 => ?_)
    · have hJ := it_neg c39 hJ
      exact sb_X10_draw_230 C hz2 N k26 k70 t0 m26 m70 i26 i70 _ _ _ _ _ hJ hk0 w (lv_sub (l' := [(0, .ref t0), (1, .int x1), (2, .int x2), (3, .int x3), (4, .int x4)]) hl [1, 2, 3, 4, 5] rfl)
    · have hJ := it_pos c39 hJ
      refine lv_aload_n hx hb dX10_draw_99 rfl (lv_at hl 1 rfl) ?_
      refine fg_1324 C w hk0 tw_6_187 dX10_draw_100 ?_
      refine lv_iload_n hx hb dX10_draw_103 rfl (lv_at hl 2 rfl) ?_
      obtain ⟨a40, ea40, hka40, hJ⟩ := dr_some hJ
      rw [ea40]
      obtain ⟨hi41, hJ⟩ := ck_some hJ
      refine jr_ialdM C w hka40 hi41 dX10_draw_104 ?_
      refine lv_aload_n hx hb dX10_draw_105 rfl (lv_at hl 1 rfl) ?_
      refine fg_1321 C w hk0 tw_6_184 dX10_draw_106 ?_
      refine lv_iload hx hb dX10_draw_109 (lv_at hl 5 rfl) ?_
      obtain ⟨a42, ea42, hka42, hJ⟩ := dr_some hJ
      rw [ea42]
      obtain ⟨hi43, hJ⟩ := ck_some hJ
      refine jr_ialdM C w hka42 hi43 dX10_draw_111 ?_
      refine lv_icmp_lt (tgt := 230) hx hb dX10_draw_112 (by decide) (fun c44 => ?_) (fun c44 => ?_)
      · have hJ := it_pos c44 hJ
        exact sb_X10_draw_230 C hz2 N k26 k70 t0 m26 m70 i26 i70 _ _ _ _ _ hJ hk0 w (lv_sub (l' := [(0, .ref t0), (1, .int x1), (2, .int x2), (3, .int x3), (4, .int x4)]) hl [1, 2, 3, 4, 5] rfl)
      · have hJ := it_neg c44 hJ
        refine lv_aload_n hx hb dX10_draw_115 rfl (lv_at hl 1 rfl) ?_
        refine fg_1324 C w hk0 tw_6_187 dX10_draw_116 ?_
        refine lv_iload_n hx hb dX10_draw_119 rfl (lv_at hl 2 rfl) ?_
        obtain ⟨a45, ea45, hka45, hJ⟩ := dr_some hJ
        rw [ea45]
        obtain ⟨hi46, hJ⟩ := ck_some hJ
        refine jr_ialdM C w hka45 hi46 dX10_draw_120 ?_
        refine lv_aload_n hx hb dX10_draw_121 rfl (lv_at hl 1 rfl) ?_
        refine fg_1322 C w hk0 tw_6_185 dX10_draw_122 ?_
        refine lv_iload hx hb dX10_draw_125 (lv_at hl 5 rfl) ?_
        obtain ⟨a47, ea47, hka47, hJ⟩ := dr_some hJ
        rw [ea47]
        obtain ⟨hi48, hJ⟩ := ck_some hJ
        refine jr_ialdM C w hka47 hi48 dX10_draw_127 ?_
        refine lv_icmp_le (tgt := 134) hx hb dX10_draw_128 (by decide) (fun c49 => ?_) (fun c49 => ?_)
        · have hJ := it_pos c49 hJ
          refine lv_aload_n hx hb dX10_draw_134 rfl (lv_at hl 1 rfl) ?_
          refine lv_iload_n hx hb dX10_draw_135 rfl (lv_at hl 2 rfl) ?_
          obtain ⟨⟨h50, r51⟩, e52, hJ⟩ := ob_some hJ
          refine jc_Vi (As := [.int x1]) C w (cc_X10_momentOf N t0 h x1 hk0 e52) (mo_X10_momentOf N t0 h x1 e52) (mb_X10_draw_139 N k26 k70 t0 _ _ _ _ _ _ _ m26 m70 hJ) hz2 hk0 (by decide) rfl (fs := fs13 h t0) rfl rfl ⟨tw_7_182, tw_7_179, tw_7_181, ts_41, tw_1_7⟩ cd_X10_momentOf ⟨by decide, by decide⟩ hl.1 (by first | exact Nat.le_of_ble_eq_true rfl | simp [rf_cat, cat_i, cat_l, cat_r]) rfl dX10_draw_136 (fun H locs w1 => ?_)
          have hk53 := kd_keep w (mo_X10_momentOf N t0 h x1 e52) hk0 (by decide)
          have w := w1
          exact sb_X10_draw_139 C hz2 N k26 k70 t0 m26 m70 i26 i70 _ _ _ _ _ _ _ hJ hk53 w (lv_sub (l' := [(0, .ref t0), (1, .int x1), (2, .int x2), (3, .int x3), (4, .int x4), (5, .int (h.bi a35 x4.toNatClampNeg))]) hl [1, 2, 3, 4, 5, 0] rfl)
        · have hJ := it_neg c49 hJ
          refine lv_goto (tgt := 230) hx hb dX10_draw_131 (by decide) ?_
          exact sb_X10_draw_230 C hz2 N k26 k70 t0 m26 m70 i26 i70 _ _ _ _ _ hJ hk0 w (lv_sub (l' := [(0, .ref t0), (1, .int x1), (2, .int x2), (3, .int x3), (4, .int x4)]) hl [1, 2, 3, 4, 5] rfl)
def L_X10_draw_70 (N : Nat) (k26 : Hp → Int32 → Option (Hp × Unit)) (t0 : Nat) : Nat → Hp → Int32 → Int32 → Int32 → Int32 → Option (Hp × Unit)
  | 0 => fun _ _ _ _ _ => none
  | n + 1 => fun h x1 x2 x3 x4 => B_X10_draw_70 N k26 (L_X10_draw_70 N k26 t0 n) t0 h x1 x2 x3 x4
theorem ml_X10_draw_70 (N : Nat) (k26 : Hp → Int32 → Option (Hp × Unit)) (t0 : Nat) (m26 : ∀ (h : Hp) (x1 : Int32), k26 h x1 = some (hz, ()) → Mo h hz) : ∀ (n : Nat) (h : Hp) (x1 : Int32) (x2 : Int32) (x3 : Int32) (x4 : Int32), L_X10_draw_70 N k26 t0 n h x1 x2 x3 x4 = some (hz, ()) → Mo h hz := by
  intro n
  induction n with
  | zero => intro h x1 x2 x3 x4 hJ; cases hJ
  | succ n ih => intro h x1 x2 x3 x4 hJ; exact mb_X10_draw_70 N k26 (L_X10_draw_70 N k26 t0 n) t0 h x1 x2 x3 x4 m26 ih hJ
theorem sl_X10_draw_70 (C : Cx p s m args meth c cX10_draw 7 none RX10 D cs A h0.se) (hz2 : hz.nx ≤ h0.nx + mc ∧ hz.su ≤ h0.su + ms) (N : Nat) (k26 : Hp → Int32 → Option (Hp × Unit)) (t0 : Nat) (m26 : ∀ (h : Hp) (x1 : Int32), k26 h x1 = some (hz, ()) → Mo h hz) (i26 : ∀ (h : Hp) (x1 : Int32) (H : Heap) (locs : List Loc) (cells slots : Nat) (ls : Array Slot), k26 h x1 = some (hz, ()) → h.kd t0 = 13 → Wo D cs A s h0 h H locs cells slots → lv_has ls 7 [(0, .ref t0), (1, .int x1)] → W p l e { frames := 1, cells := mc, slots := ms, locals := 30 } s m args below meth c H locs cells slots (MQ below (Zv D cs A hz) args s mc ms A) (F0 m 26 ls [])) : ∀ n : Nat, ∀ (h : Hp) (x1 : Int32) (x2 : Int32) (x3 : Int32) (x4 : Int32) (H : Heap) (locs : List Loc) (cells slots : Nat) (ls : Array Slot), L_X10_draw_70 N k26 t0 n h x1 x2 x3 x4 = some (hz, ()) → h.kd t0 = 13 → Wo D cs A s h0 h H locs cells slots → lv_has ls 7 [(0, .ref t0), (1, .int x1), (2, .int x2), (3, .int x3), (4, .int x4)] → W p l e { frames := 1, cells := mc, slots := ms, locals := 30 } s m args below meth c H locs cells slots (MQ below (Zv D cs A hz) args s mc ms A) (F0 m 70 ls []) := by
  intro n
  induction n with
  | zero => intro h x1 x2 x3 x4 H locs cells slots ls hJ; cases hJ
  | succ n ih =>
    intro h x1 x2 x3 x4 H locs cells slots ls hJ hk0 w hl
    exact sb_X10_draw_70 C hz2 N k26 (L_X10_draw_70 N k26 t0 n) t0 m26 (ml_X10_draw_70 N k26 t0 m26 n) i26 ih h x1 x2 x3 x4 hJ hk0 w hl
def B_X10_draw_67 (N : Nat) (k26 : Hp → Int32 → Option (Hp × Unit)) (t0 : Nat) (h : Hp) (x1 : Int32) (x2 : Int32) (x3 : Int32) : Option (Hp × Unit) := L_X10_draw_70 N k26 t0 N h x1 x2 x3 (0 : Int32)
theorem mb_X10_draw_67 (N : Nat) (k26 : Hp → Int32 → Option (Hp × Unit)) (t0 : Nat) (h : Hp) (x1 : Int32) (x2 : Int32) (x3 : Int32) (m26 : ∀ (h : Hp) (x1 : Int32), k26 h x1 = some (hz, ()) → Mo h hz) (hJ : B_X10_draw_67 N k26 t0 h x1 x2 x3 = some (hz, ())) : Mo h hz := by
  unfold B_X10_draw_67 at hJ
  exact ml_X10_draw_70 N k26 t0 m26 N _ _ _ _ _ hJ
set_option maxRecDepth 100000 in
set_option maxHeartbeats 4000000 in
theorem sb_X10_draw_67 (C : Cx p s m args meth c cX10_draw 7 none RX10 D cs A h0.se) (hz2 : hz.nx ≤ h0.nx + mc ∧ hz.su ≤ h0.su + ms) (N : Nat) (k26 : Hp → Int32 → Option (Hp × Unit)) (t0 : Nat) (m26 : ∀ (h : Hp) (x1 : Int32), k26 h x1 = some (hz, ()) → Mo h hz) (i26 : ∀ (h : Hp) (x1 : Int32) (H : Heap) (locs : List Loc) (cells slots : Nat) (ls : Array Slot), k26 h x1 = some (hz, ()) → h.kd t0 = 13 → Wo D cs A s h0 h H locs cells slots → lv_has ls 7 [(0, .ref t0), (1, .int x1)] → W p l e { frames := 1, cells := mc, slots := ms, locals := 30 } s m args below meth c H locs cells slots (MQ below (Zv D cs A hz) args s mc ms A) (F0 m 26 ls [])) (h : Hp) (x1 : Int32) (x2 : Int32) (x3 : Int32) (hJ : B_X10_draw_67 N k26 t0 h x1 x2 x3 = some (hz, ())) (hk0 : h.kd t0 = 13) {H : Heap} {locs : List Loc} {cells slots : Nat} (w : Wo D cs A s h0 h H locs cells slots) {ls : Array Slot} (hl : lv_has ls 7 [(0, .ref t0), (1, .int x1), (2, .int x2), (3, .int x3)]) : W p l e { frames := 1, cells := mc, slots := ms, locals := 30 } s m args below meth c H locs cells slots (MQ below (Zv D cs A hz) args s mc ms A) (F0 m 67 ls []) := by
  obtain ⟨hx, hb, hml, hown, hts, -⟩ := id C
  unfold B_X10_draw_67 at hJ
  refine lv_iconst (v := (0 : Int32)) hx hb dX10_draw_67 (by decide) ?_
  refine lv_istore (i := 4) (lv' := [(4, .int (0 : Int32)), (0, .ref t0), (1, .int x1), (2, .int x2), (3, .int x3)]) hx hb dX10_draw_68 hl (by decide) rfl (fun ls hl => ?_)
  exact sl_X10_draw_70 C hz2 N k26 t0 m26 i26 N _ _ _ _ _ _ _ _ _ _ hJ hk0 w (lv_sub (l' := [(0, .ref t0), (1, .int x1), (2, .int x2), (3, .int x3), (4, .int (0 : Int32))]) hl [1, 2, 3, 4, 0] rfl)
def B_X10_draw_45 (N : Nat) (k26 : Hp → Int32 → Option (Hp × Unit)) (t0 : Nat) (h : Hp) (x1 : Int32) (x2 : Int32) (y0 : Int32) : Option (Hp × Unit) := if x2 = (-1 : Int32) then (B_X10_draw_67 N k26 t0 h x1 x2 y0) else (dr h 30 (h.gr 1325 t0) (fun a55 => ck (¬ (x1 < 0 ∨ h.al a55 ≤ x1.toNatClampNeg)) (dr h 30 (h.gr 1325 t0) (fun a57 => ck (¬ (x2 < 0 ∨ h.al a57 ≤ x2.toNatClampNeg)) ((J_X10_joins N t0 h (h.bi a55 x1.toNatClampNeg) (h.bi a57 x2.toNatClampNeg)).bind (fun z => B_X10_draw_67 N k26 t0 z.1 x1 x2 y0))))))
theorem mb_X10_draw_45 (N : Nat) (k26 : Hp → Int32 → Option (Hp × Unit)) (t0 : Nat) (h : Hp) (x1 : Int32) (x2 : Int32) (y0 : Int32) (m26 : ∀ (h : Hp) (x1 : Int32), k26 h x1 = some (hz, ()) → Mo h hz) (hJ : B_X10_draw_45 N k26 t0 h x1 x2 y0 = some (hz, ())) : Mo h hz := by
  unfold B_X10_draw_45 at hJ
  by_cases c54 : x2 = (-1 : Int32)
  · have hJ := it_pos c54 hJ
    exact mb_X10_draw_67 N k26 t0 _ _ _ _ m26 hJ
  · have hJ := it_neg c54 hJ
    obtain ⟨a55, ea55, -, hJ⟩ := dr_some hJ
    obtain ⟨-, hJ⟩ := ck_some hJ
    obtain ⟨a57, ea57, -, hJ⟩ := dr_some hJ
    obtain ⟨-, hJ⟩ := ck_some hJ
    obtain ⟨⟨h59, r60⟩, e61, hJ⟩ := ob_some hJ
    exact (mo_X10_joins N t0 h (h.bi a55 x1.toNatClampNeg) (h.bi a57 x2.toNatClampNeg) e61).tr (mb_X10_draw_67 N k26 t0 _ _ _ _ m26 hJ)
set_option maxRecDepth 100000 in
set_option maxHeartbeats 4000000 in
theorem sb_X10_draw_45 (C : Cx p s m args meth c cX10_draw 7 none RX10 D cs A h0.se) (hz2 : hz.nx ≤ h0.nx + mc ∧ hz.su ≤ h0.su + ms) (N : Nat) (k26 : Hp → Int32 → Option (Hp × Unit)) (t0 : Nat) (m26 : ∀ (h : Hp) (x1 : Int32), k26 h x1 = some (hz, ()) → Mo h hz) (i26 : ∀ (h : Hp) (x1 : Int32) (H : Heap) (locs : List Loc) (cells slots : Nat) (ls : Array Slot), k26 h x1 = some (hz, ()) → h.kd t0 = 13 → Wo D cs A s h0 h H locs cells slots → lv_has ls 7 [(0, .ref t0), (1, .int x1)] → W p l e { frames := 1, cells := mc, slots := ms, locals := 30 } s m args below meth c H locs cells slots (MQ below (Zv D cs A hz) args s mc ms A) (F0 m 26 ls [])) (h : Hp) (x1 : Int32) (x2 : Int32) (y0 : Int32) (hJ : B_X10_draw_45 N k26 t0 h x1 x2 y0 = some (hz, ())) (hk0 : h.kd t0 = 13) {H : Heap} {locs : List Loc} {cells slots : Nat} (w : Wo D cs A s h0 h H locs cells slots) {ls : Array Slot} (hl : lv_has ls 7 [(0, .ref t0), (1, .int x1), (2, .int x2)]) : W p l e { frames := 1, cells := mc, slots := ms, locals := 30 } s m args below meth c H locs cells slots (MQ below (Zv D cs A hz) args s mc ms A) (F0 m 45 ls [.int y0]) := by
  obtain ⟨hx, hb, hml, hown, hts, -⟩ := id C
  unfold B_X10_draw_45 at hJ
  refine lv_istore_n (i := 3) (lv' := [(3, .int y0), (0, .ref t0), (1, .int x1), (2, .int x2)]) hx hb dX10_draw_45 rfl hl (by decide) rfl (fun ls hl => ?_)
  refine lv_iload_n hx hb dX10_draw_46 rfl (lv_at hl 3 rfl) ?_
  refine lv_iconst (v := (-1 : Int32)) hx hb dX10_draw_47 (by decide) ?_
  refine lv_icmp_eq (tgt := 67) hx hb dX10_draw_48 (by decide) (fun c54 => ?_) (fun c54 => ?_)
  · have hJ := it_pos c54 hJ
    exact sb_X10_draw_67 C hz2 N k26 t0 m26 i26 _ _ _ _ hJ hk0 w (lv_sub (l' := [(0, .ref t0), (1, .int x1), (2, .int x2), (3, .int y0)]) hl [1, 2, 3, 0] rfl)
  · have hJ := it_neg c54 hJ
    refine lv_aload_n hx hb dX10_draw_51 rfl (lv_at hl 1 rfl) ?_
    refine lv_aload_n hx hb dX10_draw_52 rfl (lv_at hl 1 rfl) ?_
    refine fg_1325 C w hk0 tw_6_188 dX10_draw_53 ?_
    refine lv_iload_n hx hb dX10_draw_56 rfl (lv_at hl 2 rfl) ?_
    obtain ⟨a55, ea55, hka55, hJ⟩ := dr_some hJ
    rw [ea55]
    obtain ⟨hi56, hJ⟩ := ck_some hJ
    refine jr_ialdM C w hka55 hi56 dX10_draw_57 ?_
    refine lv_aload_n hx hb dX10_draw_58 rfl (lv_at hl 1 rfl) ?_
    refine fg_1325 C w hk0 tw_6_188 dX10_draw_59 ?_
    refine lv_iload_n hx hb dX10_draw_62 rfl (lv_at hl 3 rfl) ?_
    obtain ⟨a57, ea57, hka57, hJ⟩ := dr_some hJ
    rw [ea57]
    obtain ⟨hi58, hJ⟩ := ck_some hJ
    refine jr_ialdM C w hka57 hi58 dX10_draw_63 ?_
    obtain ⟨⟨h59, r60⟩, e61, hJ⟩ := ob_some hJ
    refine jc_Vv (As := [.int (h.bi a55 x1.toNatClampNeg), .int (h.bi a57 x2.toNatClampNeg)]) C w (cc_X10_joins N t0 h (h.bi a55 x1.toNatClampNeg) (h.bi a57 x2.toNatClampNeg) hk0 e61) (mo_X10_joins N t0 h (h.bi a55 x1.toNatClampNeg) (h.bi a57 x2.toNatClampNeg) e61) (mb_X10_draw_67 N k26 t0 _ _ _ _ m26 hJ) hz2 hk0 (by decide) rfl (fs := fs13 h t0) rfl rfl ⟨tw_8_124, tw_8_121, tw_8_123, ts_68, tw_1_7⟩ cd_X10_joins ⟨by decide, by decide⟩ hl.1 (by first | exact Nat.le_of_ble_eq_true rfl | simp [rf_cat, cat_i, cat_l, cat_r]) rfl dX10_draw_64 (fun H locs w1 => ?_)
    have hk62 := kd_keep w (mo_X10_joins N t0 h (h.bi a55 x1.toNatClampNeg) (h.bi a57 x2.toNatClampNeg) e61) hk0 (by decide)
    have w := w1
    exact sb_X10_draw_67 C hz2 N k26 t0 m26 i26 _ _ _ _ hJ hk62 w (lv_sub (l' := [(0, .ref t0), (1, .int x1), (2, .int x2), (3, .int y0)]) hl [1, 2, 3, 0] rfl)
def B_X10_draw_39 (N : Nat) (k26 : Hp → Int32 → Option (Hp × Unit)) (t0 : Nat) (h : Hp) (x1 : Int32) (y0 : Int32) : Option (Hp × Unit) := (J_X10_lastOf N t0 h x1).bind (fun z => B_X10_draw_45 N k26 t0 z.1 x1 y0 z.2)
theorem mb_X10_draw_39 (N : Nat) (k26 : Hp → Int32 → Option (Hp × Unit)) (t0 : Nat) (h : Hp) (x1 : Int32) (y0 : Int32) (m26 : ∀ (h : Hp) (x1 : Int32), k26 h x1 = some (hz, ()) → Mo h hz) (hJ : B_X10_draw_39 N k26 t0 h x1 y0 = some (hz, ())) : Mo h hz := by
  unfold B_X10_draw_39 at hJ
  obtain ⟨⟨h63, r64⟩, e65, hJ⟩ := ob_some hJ
  exact (mo_X10_lastOf N t0 h x1 e65).tr (mb_X10_draw_45 N k26 t0 _ _ _ _ m26 hJ)
set_option maxRecDepth 100000 in
set_option maxHeartbeats 4000000 in
theorem sb_X10_draw_39 (C : Cx p s m args meth c cX10_draw 7 none RX10 D cs A h0.se) (hz2 : hz.nx ≤ h0.nx + mc ∧ hz.su ≤ h0.su + ms) (N : Nat) (k26 : Hp → Int32 → Option (Hp × Unit)) (t0 : Nat) (m26 : ∀ (h : Hp) (x1 : Int32), k26 h x1 = some (hz, ()) → Mo h hz) (i26 : ∀ (h : Hp) (x1 : Int32) (H : Heap) (locs : List Loc) (cells slots : Nat) (ls : Array Slot), k26 h x1 = some (hz, ()) → h.kd t0 = 13 → Wo D cs A s h0 h H locs cells slots → lv_has ls 7 [(0, .ref t0), (1, .int x1)] → W p l e { frames := 1, cells := mc, slots := ms, locals := 30 } s m args below meth c H locs cells slots (MQ below (Zv D cs A hz) args s mc ms A) (F0 m 26 ls [])) (h : Hp) (x1 : Int32) (y0 : Int32) (hJ : B_X10_draw_39 N k26 t0 h x1 y0 = some (hz, ())) (hk0 : h.kd t0 = 13) {H : Heap} {locs : List Loc} {cells slots : Nat} (w : Wo D cs A s h0 h H locs cells slots) {ls : Array Slot} (hl : lv_has ls 7 [(0, .ref t0), (1, .int x1)]) : W p l e { frames := 1, cells := mc, slots := ms, locals := 30 } s m args below meth c H locs cells slots (MQ below (Zv D cs A hz) args s mc ms A) (F0 m 39 ls [.int y0]) := by
  obtain ⟨hx, hb, hml, hown, hts, -⟩ := id C
  unfold B_X10_draw_39 at hJ
  refine lv_istore_n (i := 2) (lv' := [(2, .int y0), (0, .ref t0), (1, .int x1)]) hx hb dX10_draw_39 rfl hl (by decide) rfl (fun ls hl => ?_)
  refine lv_aload_n hx hb dX10_draw_40 rfl (lv_at hl 1 rfl) ?_
  refine lv_iload_n hx hb dX10_draw_41 rfl (lv_at hl 2 rfl) ?_
  obtain ⟨⟨h63, r64⟩, e65, hJ⟩ := ob_some hJ
  refine jc_Vi (As := [.int x1]) C w (cc_X10_lastOf N t0 h x1 hk0 e65) (mo_X10_lastOf N t0 h x1 e65) (mb_X10_draw_45 N k26 t0 _ _ _ _ m26 hJ) hz2 hk0 (by decide) rfl (fs := fs13 h t0) rfl rfl ⟨tw_8_120, tw_8_117, tw_8_119, ts_67, tw_1_7⟩ cd_X10_lastOf ⟨by decide, by decide⟩ hl.1 (by first | exact Nat.le_of_ble_eq_true rfl | simp [rf_cat, cat_i, cat_l, cat_r]) rfl dX10_draw_42 (fun H locs w1 => ?_)
  have hk66 := kd_keep w (mo_X10_lastOf N t0 h x1 e65) hk0 (by decide)
  have w := w1
  exact sb_X10_draw_45 C hz2 N k26 t0 m26 i26 _ _ _ _ hJ hk66 w (lv_sub (l' := [(0, .ref t0), (1, .int x1), (2, .int y0)]) hl [1, 2, 0] rfl)
def B_X10_draw_26 (N : Nat) (k26 : Hp → Int32 → Option (Hp × Unit)) (t0 : Nat) (h : Hp) (x1 : Int32) : Option (Hp × Unit) := if (h.gi 1328 t0) ≤ x1 then (some (h, ())) else ((J_X10_nextOf N t0 h x1).bind (fun z => B_X10_draw_39 N k26 t0 z.1 x1 z.2))
theorem mb_X10_draw_26 (N : Nat) (k26 : Hp → Int32 → Option (Hp × Unit)) (t0 : Nat) (h : Hp) (x1 : Int32) (m26 : ∀ (h : Hp) (x1 : Int32), k26 h x1 = some (hz, ()) → Mo h hz) (hJ : B_X10_draw_26 N k26 t0 h x1 = some (hz, ())) : Mo h hz := by
  unfold B_X10_draw_26 at hJ
  by_cases c67 : (h.gi 1328 t0) ≤ x1
  · have hJ := it_pos c67 hJ
    obtain ⟨rfl, -⟩ := rs2 hJ
    exact ⟨fun _ _ => rfl, Nat.le_refl _, Nat.le_refl _, rfl, fun _ _ => rfl⟩
  · have hJ := it_neg c67 hJ
    obtain ⟨⟨h68, r69⟩, e70, hJ⟩ := ob_some hJ
    exact (mo_X10_nextOf N t0 h x1 e70).tr (mb_X10_draw_39 N k26 t0 _ _ _ m26 hJ)
set_option maxRecDepth 100000 in
set_option maxHeartbeats 4000000 in
theorem sb_X10_draw_26 (C : Cx p s m args meth c cX10_draw 7 none RX10 D cs A h0.se) (hz2 : hz.nx ≤ h0.nx + mc ∧ hz.su ≤ h0.su + ms) (N : Nat) (k26 : Hp → Int32 → Option (Hp × Unit)) (t0 : Nat) (m26 : ∀ (h : Hp) (x1 : Int32), k26 h x1 = some (hz, ()) → Mo h hz) (i26 : ∀ (h : Hp) (x1 : Int32) (H : Heap) (locs : List Loc) (cells slots : Nat) (ls : Array Slot), k26 h x1 = some (hz, ()) → h.kd t0 = 13 → Wo D cs A s h0 h H locs cells slots → lv_has ls 7 [(0, .ref t0), (1, .int x1)] → W p l e { frames := 1, cells := mc, slots := ms, locals := 30 } s m args below meth c H locs cells slots (MQ below (Zv D cs A hz) args s mc ms A) (F0 m 26 ls [])) (h : Hp) (x1 : Int32) (hJ : B_X10_draw_26 N k26 t0 h x1 = some (hz, ())) (hk0 : h.kd t0 = 13) {H : Heap} {locs : List Loc} {cells slots : Nat} (w : Wo D cs A s h0 h H locs cells slots) {ls : Array Slot} (hl : lv_has ls 7 [(0, .ref t0), (1, .int x1)]) : W p l e { frames := 1, cells := mc, slots := ms, locals := 30 } s m args below meth c H locs cells slots (MQ below (Zv D cs A hz) args s mc ms A) (F0 m 26 ls []) := by
  obtain ⟨hx, hb, hml, hown, hts, -⟩ := id C
  unfold B_X10_draw_26 at hJ
  refine lv_iload_n hx hb dX10_draw_26 rfl (lv_at hl 1 rfl) ?_
  refine lv_aload_n hx hb dX10_draw_27 rfl (lv_at hl 0 rfl) ?_
  refine fg_1328 C w hk0 tw_6_191 dX10_draw_28 ?_
  refine lv_icmp_ge (tgt := 242) hx hb dX10_draw_31 (by decide) (fun c67 => ?_) (fun c67 => ?_)
  · have hJ := it_pos c67 hJ
    obtain ⟨rfl, -⟩ := rs2 hJ
    exact jr_vret C w hz2 dX10_draw_242
  · have hJ := it_neg c67 hJ
    refine lv_aload_n hx hb dX10_draw_34 rfl (lv_at hl 0 rfl) ?_
    refine lv_iload_n hx hb dX10_draw_35 rfl (lv_at hl 1 rfl) ?_
    obtain ⟨⟨h68, r69⟩, e70, hJ⟩ := ob_some hJ
    refine jc_Vi (As := [.int x1]) C w (cc_X10_nextOf N t0 h x1 hk0 e70) (mo_X10_nextOf N t0 h x1 e70) (mb_X10_draw_39 N k26 t0 _ _ _ m26 hJ) hz2 hk0 (by decide) rfl (fs := fs13 h t0) rfl rfl ⟨tw_8_116, tw_8_113, tw_8_115, ts_66, tw_1_7⟩ cd_X10_nextOf ⟨by decide, by decide⟩ hl.1 (by first | exact Nat.le_of_ble_eq_true rfl | simp [rf_cat, cat_i, cat_l, cat_r]) rfl dX10_draw_36 (fun H locs w1 => ?_)
    have hk71 := kd_keep w (mo_X10_nextOf N t0 h x1 e70) hk0 (by decide)
    have w := w1
    exact sb_X10_draw_39 C hz2 N k26 t0 m26 i26 _ _ _ hJ hk71 w hl
def L_X10_draw_26 (N : Nat) (t0 : Nat) : Nat → Hp → Int32 → Option (Hp × Unit)
  | 0 => fun _ _ => none
  | n + 1 => fun h x1 => B_X10_draw_26 N (L_X10_draw_26 N t0 n) t0 h x1
theorem ml_X10_draw_26 (N : Nat) (t0 : Nat) : ∀ (n : Nat) (h : Hp) (x1 : Int32), L_X10_draw_26 N t0 n h x1 = some (hz, ()) → Mo h hz := by
  intro n
  induction n with
  | zero => intro h x1 hJ; cases hJ
  | succ n ih => intro h x1 hJ; exact mb_X10_draw_26 N (L_X10_draw_26 N t0 n) t0 h x1 ih hJ
theorem sl_X10_draw_26 (C : Cx p s m args meth c cX10_draw 7 none RX10 D cs A h0.se) (hz2 : hz.nx ≤ h0.nx + mc ∧ hz.su ≤ h0.su + ms) (N : Nat) (t0 : Nat) : ∀ n : Nat, ∀ (h : Hp) (x1 : Int32) (H : Heap) (locs : List Loc) (cells slots : Nat) (ls : Array Slot), L_X10_draw_26 N t0 n h x1 = some (hz, ()) → h.kd t0 = 13 → Wo D cs A s h0 h H locs cells slots → lv_has ls 7 [(0, .ref t0), (1, .int x1)] → W p l e { frames := 1, cells := mc, slots := ms, locals := 30 } s m args below meth c H locs cells slots (MQ below (Zv D cs A hz) args s mc ms A) (F0 m 26 ls []) := by
  intro n
  induction n with
  | zero => intro h x1 H locs cells slots ls hJ; cases hJ
  | succ n ih =>
    intro h x1 H locs cells slots ls hJ hk0 w hl
    exact sb_X10_draw_26 C hz2 N (L_X10_draw_26 N t0 n) t0 (ml_X10_draw_26 N t0 n) ih h x1 hJ hk0 w hl
def B_X10_draw_2 (N : Nat) (k2 : Hp → Int32 → Option (Hp × Unit)) (t0 : Nat) (h : Hp) (x1 : Int32) : Option (Hp × Unit) := dr h 31 (h.gr 1356 t0) (fun a72 => if (nI (h.al a72)) ≤ x1 then (L_X10_draw_26 N t0 N h (0 : Int32)) else (dr h 31 (h.gr 1356 t0) (fun a74 => ck (¬ (x1 < 0 ∨ h.al a74 ≤ x1.toNatClampNeg)) (k2 (h.sbw a74 x1.toNatClampNeg (0 : Int64)) (x1 + (1 : Int32))))))
theorem mb_X10_draw_2 (N : Nat) (k2 : Hp → Int32 → Option (Hp × Unit)) (t0 : Nat) (h : Hp) (x1 : Int32) (m2 : ∀ (h : Hp) (x1 : Int32), k2 h x1 = some (hz, ()) → Mo h hz) (hJ : B_X10_draw_2 N k2 t0 h x1 = some (hz, ())) : Mo h hz := by
  unfold B_X10_draw_2 at hJ
  obtain ⟨a72, ea72, -, hJ⟩ := dr_some hJ
  by_cases c73 : (nI (h.al a72)) ≤ x1
  · have hJ := it_pos c73 hJ
    exact ml_X10_draw_26 N t0 N _ _ hJ
  · have hJ := it_neg c73 hJ
    obtain ⟨a74, ea74, -, hJ⟩ := dr_some hJ
    obtain ⟨-, hJ⟩ := ck_some hJ
    exact (Mo.tr (show Mo h (h.sbw a74 x1.toNatClampNeg (0 : Int64)) from ⟨fun _ _ => rfl, Nat.le_refl _, Nat.le_refl _, rfl, fun _ _ => rfl⟩) (m2 _ _ hJ))
set_option maxRecDepth 100000 in
set_option maxHeartbeats 4000000 in
theorem sb_X10_draw_2 (C : Cx p s m args meth c cX10_draw 7 none RX10 D cs A h0.se) (hz2 : hz.nx ≤ h0.nx + mc ∧ hz.su ≤ h0.su + ms) (N : Nat) (k2 : Hp → Int32 → Option (Hp × Unit)) (t0 : Nat) (m2 : ∀ (h : Hp) (x1 : Int32), k2 h x1 = some (hz, ()) → Mo h hz) (i2 : ∀ (h : Hp) (x1 : Int32) (H : Heap) (locs : List Loc) (cells slots : Nat) (ls : Array Slot), k2 h x1 = some (hz, ()) → h.kd t0 = 13 → Wo D cs A s h0 h H locs cells slots → lv_has ls 7 [(0, .ref t0), (1, .int x1)] → W p l e { frames := 1, cells := mc, slots := ms, locals := 30 } s m args below meth c H locs cells slots (MQ below (Zv D cs A hz) args s mc ms A) (F0 m 2 ls [])) (h : Hp) (x1 : Int32) (hJ : B_X10_draw_2 N k2 t0 h x1 = some (hz, ())) (hk0 : h.kd t0 = 13) {H : Heap} {locs : List Loc} {cells slots : Nat} (w : Wo D cs A s h0 h H locs cells slots) {ls : Array Slot} (hl : lv_has ls 7 [(0, .ref t0), (1, .int x1)]) : W p l e { frames := 1, cells := mc, slots := ms, locals := 30 } s m args below meth c H locs cells slots (MQ below (Zv D cs A hz) args s mc ms A) (F0 m 2 ls []) := by
  obtain ⟨hx, hb, hml, hown, hts, -⟩ := id C
  unfold B_X10_draw_2 at hJ
  refine lv_iload_n hx hb dX10_draw_2 rfl (lv_at hl 1 rfl) ?_
  refine lv_aload_n hx hb dX10_draw_3 rfl (lv_at hl 0 rfl) ?_
  refine fg_1356 C w hk0 tw_6_219 dX10_draw_4 ?_
  obtain ⟨a72, ea72, hka72, hJ⟩ := dr_some hJ
  rw [ea72]
  refine jr_alenM C w hka72 (by decide) dX10_draw_7 ?_
  refine lv_icmp_ge (tgt := 24) hx hb dX10_draw_8 (by decide) (fun c73 => ?_) (fun c73 => ?_)
  · have hJ := it_pos c73 hJ
    refine lv_iconst (v := (0 : Int32)) hx hb dX10_draw_24 (by decide) ?_
    refine lv_istore_n (i := 1) (lv' := [(1, .int (0 : Int32)), (0, .ref t0)]) hx hb dX10_draw_25 rfl hl (by decide) rfl (fun ls hl => ?_)
    exact sl_X10_draw_26 C hz2 N t0 N _ _ _ _ _ _ _ hJ hk0 w (lv_sub (l' := [(0, .ref t0), (1, .int (0 : Int32))]) hl [1, 0] rfl)
  · have hJ := it_neg c73 hJ
    refine lv_aload_n hx hb dX10_draw_11 rfl (lv_at hl 0 rfl) ?_
    refine fg_1356 C w hk0 tw_6_219 dX10_draw_12 ?_
    refine lv_iload_n hx hb dX10_draw_15 rfl (lv_at hl 1 rfl) ?_
    refine lv_lconst (v := (0 : Int64)) hx hb dX10_draw_16 (by decide) ?_
    obtain ⟨a74, ea74, hka74, hJ⟩ := dr_some hJ
    rw [ea74]
    obtain ⟨hi75, hJ⟩ := ck_some hJ
    refine jr_lastM C w hka74 hi75 dX10_draw_17 (fun H locs w => ?_)
    refine lv_iinc (v := x1 + (1 : Int32)) (lv' := [(1, .int (x1 + (1 : Int32))), (0, .ref t0)]) hx hb dX10_draw_18 hl (k := 1) rfl rfl (by decide) rfl (fun ls hl => ?_)
    refine lv_goto (tgt := 2) hx hb dX10_draw_21 (by decide) ?_
    exact i2 _ _ _ _ _ _ _ hJ hk0 w (lv_sub (l' := [(0, .ref t0), (1, .int (x1 + (1 : Int32)))]) hl [1, 0] rfl)
def L_X10_draw_2 (N : Nat) (t0 : Nat) : Nat → Hp → Int32 → Option (Hp × Unit)
  | 0 => fun _ _ => none
  | n + 1 => fun h x1 => B_X10_draw_2 N (L_X10_draw_2 N t0 n) t0 h x1
theorem ml_X10_draw_2 (N : Nat) (t0 : Nat) : ∀ (n : Nat) (h : Hp) (x1 : Int32), L_X10_draw_2 N t0 n h x1 = some (hz, ()) → Mo h hz := by
  intro n
  induction n with
  | zero => intro h x1 hJ; cases hJ
  | succ n ih => intro h x1 hJ; exact mb_X10_draw_2 N (L_X10_draw_2 N t0 n) t0 h x1 ih hJ
theorem sl_X10_draw_2 (C : Cx p s m args meth c cX10_draw 7 none RX10 D cs A h0.se) (hz2 : hz.nx ≤ h0.nx + mc ∧ hz.su ≤ h0.su + ms) (N : Nat) (t0 : Nat) : ∀ n : Nat, ∀ (h : Hp) (x1 : Int32) (H : Heap) (locs : List Loc) (cells slots : Nat) (ls : Array Slot), L_X10_draw_2 N t0 n h x1 = some (hz, ()) → h.kd t0 = 13 → Wo D cs A s h0 h H locs cells slots → lv_has ls 7 [(0, .ref t0), (1, .int x1)] → W p l e { frames := 1, cells := mc, slots := ms, locals := 30 } s m args below meth c H locs cells slots (MQ below (Zv D cs A hz) args s mc ms A) (F0 m 2 ls []) := by
  intro n
  induction n with
  | zero => intro h x1 H locs cells slots ls hJ; cases hJ
  | succ n ih =>
    intro h x1 H locs cells slots ls hJ hk0 w hl
    exact sb_X10_draw_2 C hz2 N (L_X10_draw_2 N t0 n) t0 (ml_X10_draw_2 N t0 n) ih h x1 hJ hk0 w hl
def B_X10_draw_0 (N : Nat) (t0 : Nat) (h : Hp) : Option (Hp × Unit) := L_X10_draw_2 N t0 N h (0 : Int32)
theorem mb_X10_draw_0 (N : Nat) (t0 : Nat) (h : Hp) (hJ : B_X10_draw_0 N t0 h = some (hz, ())) : Mo h hz := by
  unfold B_X10_draw_0 at hJ
  exact ml_X10_draw_2 N t0 N _ _ hJ
set_option maxRecDepth 100000 in
set_option maxHeartbeats 4000000 in
theorem sb_X10_draw_0 (C : Cx p s m args meth c cX10_draw 7 none RX10 D cs A h0.se) (hz2 : hz.nx ≤ h0.nx + mc ∧ hz.su ≤ h0.su + ms) (N : Nat) (t0 : Nat) (h : Hp) (hJ : B_X10_draw_0 N t0 h = some (hz, ())) (hk0 : h.kd t0 = 13) {H : Heap} {locs : List Loc} {cells slots : Nat} (w : Wo D cs A s h0 h H locs cells slots) {ls : Array Slot} (hl : lv_has ls 7 [(0, .ref t0)]) : W p l e { frames := 1, cells := mc, slots := ms, locals := 30 } s m args below meth c H locs cells slots (MQ below (Zv D cs A hz) args s mc ms A) (F0 m 0 ls []) := by
  obtain ⟨hx, hb, hml, hown, hts, -⟩ := id C
  unfold B_X10_draw_0 at hJ
  refine lv_iconst (v := (0 : Int32)) hx hb dX10_draw_0 (by decide) ?_
  refine lv_istore_n (i := 1) (lv' := [(1, .int (0 : Int32)), (0, .ref t0)]) hx hb dX10_draw_1 rfl hl (by decide) rfl (fun ls hl => ?_)
  exact sl_X10_draw_2 C hz2 N t0 N _ _ _ _ _ _ _ hJ hk0 w (lv_sub (l' := [(0, .ref t0), (1, .int (0 : Int32))]) hl [1, 0] rfl)
def J_X10_draw (N : Nat) (t0 : Nat) (h : Hp) : Option (Hp × Unit) := B_X10_draw_0 N t0 h
theorem mo_X10_draw (N : Nat) (t0 : Nat) (h : Hp) (hJ : J_X10_draw N t0 h = some (hz, ())) : Mo h hz := mb_X10_draw_0 N t0 h hJ
theorem cd_X10_draw : Cd yX10_draw 0 := ⟨by decide +kernel, by decide +kernel, by decide +kernel⟩
theorem cc_X10_draw (N : Nat) (t0 : Nat) (h : Hp) (hk0 : h.kd t0 = 13) (hJ : J_X10_draw N t0 h = some (hz, ())) : Cv l yX10_draw cX10_draw 7 none 1 30 D cs h hz [.ref t0] := by
  intro mc ms g1 g2
  refine je_any (by decide) (by simp [lg_sl, rf_cat, cat_i, cat_l, cat_r]) ?_
  intro p e s m args below meth c C hin2 w ls hl
  have hl : lv_has ls 7 [(0, .ref t0)] := hl
  exact sb_X10_draw_0 C ⟨g1, g2⟩ N t0 h hJ hk0 w hl
end G_X10_draw
section G_X10_has
variable {p : Program} {l : Launch} {e : Env} {s : State} {m : MethodId} {args : Array Value} {below : List Frame} {meth : Method} {c : Code} {D : va_G} {cs : C4} {A : Nat → Prop} {h0 hz : Hp} {mc ms : Nat} {rz : Int32}
def B_X10_has_28 (N : Nat) (h : Hp) (y0 : Int32) : Option (Hp × Int32) := ck (y0 = 0 ∨ y0 = 1) (some (h, y0))
theorem mb_X10_has_28 (N : Nat) (h : Hp) (y0 : Int32) (hJ : B_X10_has_28 N h y0 = some (hz, rz)) : Mo h hz := by
  unfold B_X10_has_28 at hJ
  obtain ⟨-, hJ⟩ := ck_some hJ
  obtain ⟨rfl, -⟩ := rs2 hJ
  exact ⟨fun _ _ => rfl, Nat.le_refl _, Nat.le_refl _, rfl, fun _ _ => rfl⟩
set_option maxRecDepth 100000 in
set_option maxHeartbeats 4000000 in
theorem sb_X10_has_28 (C : Cx p s m args meth c cX10_has 3 (some .boolean) RX10 D cs A h0.se) (hz2 : hz.nx ≤ h0.nx + mc ∧ hz.su ≤ h0.su + ms) (N : Nat) (h : Hp) (y0 : Int32) (hJ : B_X10_has_28 N h y0 = some (hz, rz)) {H : Heap} {locs : List Loc} {cells slots : Nat} (w : Wo D cs A s h0 h H locs cells slots) {ls : Array Slot} (hl : lv_has ls 3 []) : W p l e { frames := 0, cells := mc, slots := ms, locals := 0 } s m args below meth c H locs cells slots (MQ below (Zi D cs A hz rz) args s mc ms A) (F0 m 28 ls [.int y0]) := by
  obtain ⟨hx, hb, hml, hown, hts, -⟩ := id C
  unfold B_X10_has_28 at hJ
  obtain ⟨hzo1, hJ⟩ := ck_some hJ
  obtain ⟨rfl, rfl⟩ := rs2 hJ
  exact jr_zret C w hzo1 hz2 dX10_has_28
def B_X10_has_0 (N : Nat) (h : Hp) (x0 : Option Nat) (x1 : Int32) (x2 : Int32) : Option (Hp × Int32) := dr h 31 x0 (fun a2 => ck (¬ (((9 : Int32) * x1) + (x2 >>> ((6 : Int32) &&& 31)) < 0 ∨ h.al a2 ≤ (((9 : Int32) * x1) + (x2 >>> ((6 : Int32) &&& 31))).toNatClampNeg)) (if (lg_cmp (((h.bw a2 (((9 : Int32) * x1) + (x2 >>> ((6 : Int32) &&& 31))).toNatClampNeg) >>> ((x2 &&& (63 : Int32)).toInt64 &&& 63)) &&& (1 : Int64)) (1 : Int64)) = 0 then (B_X10_has_28 N h (1 : Int32)) else (B_X10_has_28 N h (0 : Int32))))
theorem mb_X10_has_0 (N : Nat) (h : Hp) (x0 : Option Nat) (x1 : Int32) (x2 : Int32) (hJ : B_X10_has_0 N h x0 x1 x2 = some (hz, rz)) : Mo h hz := by
  unfold B_X10_has_0 at hJ
  obtain ⟨a2, ea2, -, hJ⟩ := dr_some hJ
  obtain ⟨-, hJ⟩ := ck_some hJ
  by_cases c4 : (lg_cmp (((h.bw a2 (((9 : Int32) * x1) + (x2 >>> ((6 : Int32) &&& 31))).toNatClampNeg) >>> ((x2 &&& (63 : Int32)).toInt64 &&& 63)) &&& (1 : Int64)) (1 : Int64)) = 0
  · have hJ := it_pos c4 hJ
    exact mb_X10_has_28 N _ _ hJ
  · have hJ := it_neg c4 hJ
    exact mb_X10_has_28 N _ _ hJ
set_option maxRecDepth 100000 in
set_option maxHeartbeats 4000000 in
theorem sb_X10_has_0 (C : Cx p s m args meth c cX10_has 3 (some .boolean) RX10 D cs A h0.se) (hz2 : hz.nx ≤ h0.nx + mc ∧ hz.su ≤ h0.su + ms) (N : Nat) (h : Hp) (x0 : Option Nat) (x1 : Int32) (x2 : Int32) (hJ : B_X10_has_0 N h x0 x1 x2 = some (hz, rz)) {H : Heap} {locs : List Loc} {cells slots : Nat} (w : Wo D cs A s h0 h H locs cells slots) {ls : Array Slot} (hl : lv_has ls 3 [(0, va_rf x0), (1, .int x1), (2, .int x2)]) : W p l e { frames := 0, cells := mc, slots := ms, locals := 0 } s m args below meth c H locs cells slots (MQ below (Zi D cs A hz rz) args s mc ms A) (F0 m 0 ls []) := by
  obtain ⟨hx, hb, hml, hown, hts, -⟩ := id C
  unfold B_X10_has_0 at hJ
  refine jv_aload_n hx hb dX10_has_0 rfl (lv_at hl 0 rfl) ?_
  refine lv_bipush (v := (9 : Int32)) hx hb dX10_has_1 (by decide) ?_
  refine lv_iload_n hx hb dX10_has_3 rfl (lv_at hl 1 rfl) ?_
  refine lv_imul hx hb dX10_has_4 ?_
  refine lv_iload_n hx hb dX10_has_5 rfl (lv_at hl 2 rfl) ?_
  refine lv_bipush (v := (6 : Int32)) hx hb dX10_has_6 (by decide) ?_
  refine lv_ishr hx hb dX10_has_8 ?_
  refine lv_iadd hx hb dX10_has_9 ?_
  obtain ⟨a2, ea2, hka2, hJ⟩ := dr_some hJ
  rw [ea2] at hl
  rw [ea2]
  obtain ⟨hi3, hJ⟩ := ck_some hJ
  refine jr_laldM C w hka2 hi3 dX10_has_10 ?_
  refine lv_iload_n hx hb dX10_has_11 rfl (lv_at hl 2 rfl) ?_
  refine lv_bipush (v := (63 : Int32)) hx hb dX10_has_12 (by decide) ?_
  refine lv_iand hx hb dX10_has_14 ?_
  refine lv_lshr hx hb dX10_has_15 rfl ?_
  refine lv_lconst (v := (1 : Int64)) hx hb dX10_has_16 (by decide) ?_
  refine lv_land hx hb dX10_has_17 ?_
  refine lv_lconst (v := (1 : Int64)) hx hb dX10_has_18 (by decide) ?_
  refine W.lcmp hx hb dX10_has_19 ?_
  refine lv_if_ne (tgt := 27) hx hb dX10_has_20 (by decide) (fun c4 => ?_) (fun c4 => ?_)
  · have hJ := it_neg c4 hJ
    refine lv_iconst (v := (0 : Int32)) hx hb dX10_has_27 (by decide) ?_
    exact sb_X10_has_28 C hz2 N _ _ hJ w (lv_sub (l' := []) hl [] rfl)
  · have hJ := it_pos c4 hJ
    refine lv_iconst (v := (1 : Int32)) hx hb dX10_has_23 (by decide) ?_
    refine lv_goto (tgt := 28) hx hb dX10_has_24 (by decide) ?_
    exact sb_X10_has_28 C hz2 N _ _ hJ w (lv_sub (l' := []) hl [] rfl)
def J_X10_has (N : Nat) (h : Hp) (x0 : Option Nat) (x1 : Int32) (x2 : Int32) : Option (Hp × Int32) := B_X10_has_0 N h x0 x1 x2
theorem mo_X10_has (N : Nat) (h : Hp) (x0 : Option Nat) (x1 : Int32) (x2 : Int32) (hJ : J_X10_has N h x0 x1 x2 = some (hz, rz)) : Mo h hz := mb_X10_has_0 N h x0 x1 x2 hJ
theorem cd_X10_has : Cd yX10_has 3 := ⟨by decide +kernel, by decide +kernel, by decide +kernel⟩
theorem cc_X10_has (N : Nat) (h : Hp) (x0 : Option Nat) (x1 : Int32) (x2 : Int32) (hJ : J_X10_has N h x0 x1 x2 = some (hz, rz)) : Ci l yX10_has cX10_has 3 (some .boolean) 0 0 D cs h hz [va_rf x0, .int x1, .int x2] rz := by
  intro mc ms g1 g2
  refine je_any (by decide) (by simp [lg_sl, rf_cat, cat_i, cat_l, cat_r]) ?_
  intro p e s m args below meth c C hin2 w ls hl
  have hl : lv_has ls 3 [(0, va_rf x0), (1, .int x1), (2, .int x2)] := by simpa [lv_args, rf_cat, cat_i, cat_l, cat_r] using hl
  exact sb_X10_has_0 C ⟨g1, g2⟩ N h x0 x1 x2 hJ w hl
end G_X10_has
