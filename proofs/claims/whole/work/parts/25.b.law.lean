/-- the long of a write -/
abbrev lv8 (c d : Int32) : Int64 := (c.toInt64 <<< ((32 : Int32).toInt64 &&& 63)) ||| (d.toInt64 &&& (4294967295 : Int64))
def S_begin (N X M : Nat) (h : Hp) (p0 : Int32) (k : Hp → Nat → Nat → Prop) : Prop := ∃ (h1 h2 : Hp) (r : Int32), J_X9_begin N X h p0 = some (h1, r) ∧ J_X10_begin N M h1 p0 = some (h2, r) ∧ k h2 (h2.nx - h.nx) (h2.su - h.su)
def S_read (N X M O : Nat) (h : Hp) (p0 : Int32) (p1 : Int32) (k : Hp → Nat → Nat → Prop) : Prop := (∃ (h1 h2 : Hp) (r : Int32), J_X9_read N X h p0 p1 = some (h1, r) ∧ J_X10_read N M (h1.saw O 0 r.toInt64) p0 p1 = some (h2, r) ∧ h2.gi 1300 M = 0 ∧ k h2 (h2.nx - h.nx) (h2.su - h.su)) ∨ (∃ (hz : Hp), J_xX9_read N X h p0 p1 = some (hz, "java/lang/IllegalStateException") ∧ ∀ n1, hz.nx ≤ n1 → ∃ (h2 : Hp) (r : Int32), J_X10_read N M (hz.thr n1) p0 p1 = some (h2, r) ∧ h2.gi 1300 M = 1 ∧ k h2 (hz.nx + 1 - h.nx + (h2.nx - n1)) (h2.su - h.su))
def S_near (N X M O : Nat) (h : Hp) (p0 : Int32) (p1 : Int32) (p2 : Int32) (k : Hp → Nat → Nat → Prop) : Prop := (∃ (h1 h2 : Hp) (r : Int32), J_X9_near N X h p0 p1 p2 = some (h1, r) ∧ J_X10_near N M (h1.saw O 0 r.toInt64) p0 p1 p2 = some (h2, r) ∧ h2.gi 1300 M = 0 ∧ k h2 (h2.nx - h.nx) (h2.su - h.su)) ∨ (∃ (hz : Hp), J_xX9_near N X h p0 p1 p2 = some (hz, "java/lang/IllegalStateException") ∧ ∀ n1, hz.nx ≤ n1 → ∃ (h2 : Hp) (r : Int32), J_X10_near N M (hz.thr n1) p0 p1 p2 = some (h2, r) ∧ h2.gi 1300 M = 1 ∧ k h2 (hz.nx + 1 - h.nx + (h2.nx - n1)) (h2.su - h.su))
def S_value (N X M : Nat) (h : Hp) (k : Hp → Nat → Nat → Prop) : Prop := ∃ (h1 h2 : Hp) (r : Int64), J_X9_value N X h = some (h1, r) ∧ J_X10_value N M h1 = some (h2, r) ∧ k h2 (h2.nx - h.nx) (h2.su - h.su)
def S_key (N X M : Nat) (h : Hp) (k : Hp → Nat → Nat → Prop) : Prop := ∃ (h1 h2 : Hp) (r : Int32), J_X9_key N X h = some (h1, r) ∧ J_X10_key N M h1 = some (h2, r) ∧ k h2 (h2.nx - h.nx) (h2.su - h.su)
def S_scan (N X M O : Nat) (h : Hp) (p0 : Int32) (p1 : Int32) (p2 : Int32) (p3 : Int32) (k : Hp → Nat → Nat → Prop) : Prop := (∃ (h1 h2 : Hp) (r : Int32), J_X9_scan N X h p0 p1 p2 p3 = some (h1, r) ∧ J_X10_scan N M (h1.saw O 0 r.toInt64) p0 p1 p2 p3 = some (h2, r) ∧ h2.gi 1300 M = 0 ∧ k h2 (h2.nx - h.nx) (h2.su - h.su)) ∨ (∃ (hz : Hp), J_xX9_scan N X h p0 p1 p2 p3 = some (hz, "java/lang/IllegalStateException") ∧ ∀ n1, hz.nx ≤ n1 → ∃ (h2 : Hp) (r : Int32), J_X10_scan N M (hz.thr n1) p0 p1 p2 p3 = some (h2, r) ∧ h2.gi 1300 M = 1 ∧ k h2 (hz.nx + 1 - h.nx + (h2.nx - n1)) (h2.su - h.su)) ∨ (∃ (hz : Hp), J_xX9_scan N X h p0 p1 p2 p3 = some (hz, "java/lang/IllegalArgumentException") ∧ ∀ n1, hz.nx ≤ n1 → ∃ (h2 : Hp) (r : Int32), J_X10_scan N M (hz.thr n1) p0 p1 p2 p3 = some (h2, r) ∧ h2.gi 1300 M = 2 ∧ k h2 (hz.nx + 1 - h.nx + (h2.nx - n1)) (h2.su - h.su))
def S_rowKey (N X M O : Nat) (h : Hp) (p0 : Int32) (k : Hp → Nat → Nat → Prop) : Prop := (∃ (h1 h2 : Hp) (r : Int32), J_X9_rowKey N X h p0 = some (h1, r) ∧ J_X10_rowKey N M (h1.saw O 0 r.toInt64) p0 = some (h2, r) ∧ h2.gi 1300 M = 0 ∧ k h2 (h2.nx - h.nx) (h2.su - h.su)) ∨ (∃ (hz : Hp), J_xX9_rowKey N X h p0 = some (hz, "java/util/NoSuchElementException") ∧ ∀ n1, hz.nx ≤ n1 → ∃ (h2 : Hp) (r : Int32), J_X10_rowKey N M (hz.thr n1) p0 = some (h2, r) ∧ h2.gi 1300 M = 1 ∧ k h2 (hz.nx + 1 - h.nx + (h2.nx - n1)) (h2.su - h.su))
def S_rowValue (N X M O : Nat) (h : Hp) (p0 : Int32) (k : Hp → Nat → Nat → Prop) : Prop := (∃ (h1 h2 : Hp) (r : Int64), J_X9_rowValue N X h p0 = some (h1, r) ∧ J_X10_rowValue N M (h1.saw O 0 r) p0 = some (h2, r) ∧ h2.gi 1300 M = 0 ∧ k h2 (h2.nx - h.nx) (h2.su - h.su)) ∨ (∃ (hz : Hp), J_xX9_rowValue N X h p0 = some (hz, "java/util/NoSuchElementException") ∧ ∀ n1, hz.nx ≤ n1 → ∃ (h2 : Hp) (r : Int64), J_X10_rowValue N M (hz.thr n1) p0 = some (h2, r) ∧ h2.gi 1300 M = 1 ∧ k h2 (hz.nx + 1 - h.nx + (h2.nx - n1)) (h2.su - h.su))
def S_write (N X M O : Nat) (h : Hp) (p0 : Int32) (p1 : Int32) (p2 : Int64) (k : Hp → Nat → Nat → Prop) : Prop := (∃ (h1 h2 : Hp) (r : Int32), J_X9_write N X h p0 p1 p2 = some (h1, r) ∧ J_X10_write N M (h1.saw O 0 r.toInt64) p0 p1 p2 = some (h2, r) ∧ h2.gi 1300 M = 0 ∧ k h2 (h2.nx - h.nx) (h2.su - h.su)) ∨ (∃ (hz : Hp), J_xX9_write N X h p0 p1 p2 = some (hz, "java/lang/IllegalStateException") ∧ ∀ n1, hz.nx ≤ n1 → ∃ (h2 : Hp) (r : Int32), J_X10_write N M (hz.thr n1) p0 p1 p2 = some (h2, r) ∧ h2.gi 1300 M = 1 ∧ k h2 (hz.nx + 1 - h.nx + (h2.nx - n1)) (h2.su - h.su)) ∨ (∃ (hz : Hp), J_xX9_write N X h p0 p1 p2 = some (hz, "java/lang/UnsupportedOperationException") ∧ ∀ n1, hz.nx ≤ n1 → ∃ (h2 : Hp) (r : Int32), J_X10_write N M (hz.thr n1) p0 p1 p2 = some (h2, r) ∧ h2.gi 1300 M = 2 ∧ k h2 (hz.nx + 1 - h.nx + (h2.nx - n1)) (h2.su - h.su))
def S_remove (N X M O : Nat) (h : Hp) (p0 : Int32) (p1 : Int32) (k : Hp → Nat → Nat → Prop) : Prop := (∃ (h1 h2 : Hp) (r : Int32), J_X9_remove N X h p0 p1 = some (h1, r) ∧ J_X10_remove N M (h1.saw O 0 r.toInt64) p0 p1 = some (h2, r) ∧ h2.gi 1300 M = 0 ∧ k h2 (h2.nx - h.nx) (h2.su - h.su)) ∨ (∃ (hz : Hp), J_xX9_remove N X h p0 p1 = some (hz, "java/lang/IllegalStateException") ∧ ∀ n1, hz.nx ≤ n1 → ∃ (h2 : Hp) (r : Int32), J_X10_remove N M (hz.thr n1) p0 p1 = some (h2, r) ∧ h2.gi 1300 M = 1 ∧ k h2 (hz.nx + 1 - h.nx + (h2.nx - n1)) (h2.su - h.su)) ∨ (∃ (hz : Hp), J_xX9_remove N X h p0 p1 = some (hz, "java/lang/UnsupportedOperationException") ∧ ∀ n1, hz.nx ≤ n1 → ∃ (h2 : Hp) (r : Int32), J_X10_remove N M (hz.thr n1) p0 p1 = some (h2, r) ∧ h2.gi 1300 M = 2 ∧ k h2 (hz.nx + 1 - h.nx + (h2.nx - n1)) (h2.su - h.su))
def S_save (N X M O : Nat) (h : Hp) (p0 : Int32) (k : Hp → Nat → Nat → Prop) : Prop := (∃ (h1 h2 : Hp) (r : Int32), J_X9_save N X h p0 = some (h1, r) ∧ J_X10_save N M (h1.saw O 0 r.toInt64) p0 = some (h2, r) ∧ h2.gi 1300 M = 0 ∧ k h2 (h2.nx - h.nx) (h2.su - h.su)) ∨ (∃ (hz : Hp), J_xX9_save N X h p0 = some (hz, "java/lang/IllegalStateException") ∧ ∀ n1, hz.nx ≤ n1 → ∃ (h2 : Hp) (r : Int32), J_X10_save N M (hz.thr n1) p0 = some (h2, r) ∧ h2.gi 1300 M = 1 ∧ k h2 (hz.nx + 1 - h.nx + (h2.nx - n1)) (h2.su - h.su))
def S_undo (N X M O : Nat) (h : Hp) (p0 : Int32) (p1 : Int32) (k : Hp → Nat → Nat → Prop) : Prop := (∃ (h1 h2 : Hp) (r : Int32), J_X9_undo N X h p0 p1 = some (h1, r) ∧ J_X10_undo N M (h1.saw O 0 r.toInt64) p0 p1 = some (h2, r) ∧ h2.gi 1300 M = 0 ∧ k h2 (h2.nx - h.nx) (h2.su - h.su)) ∨ (∃ (hz : Hp), J_xX9_undo N X h p0 p1 = some (hz, "java/lang/IllegalStateException") ∧ ∀ n1, hz.nx ≤ n1 → ∃ (h2 : Hp) (r : Int32), J_X10_undo N M (hz.thr n1) p0 p1 = some (h2, r) ∧ h2.gi 1300 M = 1 ∧ k h2 (hz.nx + 1 - h.nx + (h2.nx - n1)) (h2.su - h.su)) ∨ (∃ (hz : Hp), J_xX9_undo N X h p0 p1 = some (hz, "java/lang/IndexOutOfBoundsException") ∧ ∀ n1, hz.nx ≤ n1 → ∃ (h2 : Hp) (r : Int32), J_X10_undo N M (hz.thr n1) p0 p1 = some (h2, r) ∧ h2.gi 1300 M = 2 ∧ k h2 (hz.nx + 1 - h.nx + (h2.nx - n1)) (h2.su - h.su))
def S_commit (N X M O : Nat) (h : Hp) (p0 : Int32) (k : Hp → Nat → Nat → Prop) : Prop := (∃ (h1 h2 : Hp) (r : Int32), J_X9_commit N X h p0 = some (h1, r) ∧ J_X10_commit N M (h1.saw O 0 r.toInt64) p0 = some (h2, r) ∧ h2.gi 1300 M = 0 ∧ k h2 (h2.nx - h.nx) (h2.su - h.su)) ∨ (∃ (hz : Hp), J_xX9_commit N X h p0 = some (hz, "java/lang/IllegalStateException") ∧ ∀ n1, hz.nx ≤ n1 → ∃ (h2 : Hp) (r : Int32), J_X10_commit N M (hz.thr n1) p0 = some (h2, r) ∧ h2.gi 1300 M = 1 ∧ k h2 (hz.nx + 1 - h.nx + (h2.nx - n1)) (h2.su - h.su))
def S_abort (N X M O : Nat) (h : Hp) (p0 : Int32) (k : Hp → Nat → Nat → Prop) : Prop := (∃ (h1 h2 : Hp), J_X9_abort N X h p0 = some (h1, ()) ∧ J_X10_abort N M (h1) p0 = some (h2, ()) ∧ h2.gi 1300 M = 0 ∧ k h2 (h2.nx - h.nx) (h2.su - h.su)) ∨ (∃ (hz : Hp), J_xX9_abort N X h p0 = some (hz, "java/lang/IllegalStateException") ∧ ∀ n1, hz.nx ≤ n1 → ∃ (h2 : Hp), J_X10_abort N M (hz.thr n1) p0 = some (h2, ()) ∧ h2.gi 1300 M = 1 ∧ k h2 (hz.nx + 1 - h.nx + (h2.nx - n1)) (h2.su - h.su))
def S_told (N X M : Nat) (h : Hp) (p0 : Int32) (p1 : Int32) (k : Hp → Nat → Nat → Prop) : Prop := ∃ (h1 h2 : Hp) (r : Int32), J_X9_told N X h p0 p1 = some (h1, r) ∧ J_X10_told N M h1 p0 p1 = some (h2, r) ∧ k h2 (h2.nx - h.nx) (h2.su - h.su)
def S_why (N X M : Nat) (h : Hp) (p0 : Int32) (k : Hp → Nat → Nat → Prop) : Prop := ∃ (h1 h2 : Hp) (r : Int32), J_X9_why N X h p0 = some (h1, r) ∧ J_X10_why N M h1 p0 = some (h2, r) ∧ k h2 (h2.nx - h.nx) (h2.su - h.su)
def S_version (N X M : Nat) (h : Hp) (p0 : Int32) (p1 : Int32) (p2 : Int32) (k : Hp → Nat → Nat → Prop) : Prop := ∃ (h1 h2 : Hp) (r : Int32), J_X9_version N X h p0 p1 p2 = some (h1, r) ∧ J_X10_version N M h1 p0 p1 p2 = some (h2, r) ∧ k h2 (h2.nx - h.nx) (h2.su - h.su)
def S_versionValue (N X M : Nat) (h : Hp) (p0 : Int32) (p1 : Int32) (k : Hp → Nat → Nat → Prop) : Prop := ∃ (h1 h2 : Hp) (r : Int64), J_X9_versionValue N X h p0 p1 = some (h1, r) ∧ J_X10_versionValue N M h1 p0 p1 = some (h2, r) ∧ k h2 (h2.nx - h.nx) (h2.su - h.su)
def S_count (N X M : Nat) (h : Hp) (p0 : Int32) (k : Hp → Nat → Nat → Prop) : Prop := ∃ (h1 h2 : Hp) (r : Int32), J_X9_count N X h p0 = some (h1, r) ∧ J_X10_count N M h1 p0 = some (h2, r) ∧ k h2 (h2.nx - h.nx) (h2.su - h.su)
def S_astray (N X M : Nat) (h : Hp) (k : Hp → Nat → Nat → Prop) : Prop := ∃ (h1 h2 : Hp) (r : Int32), J_X9_astray N X h = some (h1, r) ∧ J_X10_astray N M h1 = some (h2, r) ∧ k h2 (h2.nx - h.nx) (h2.su - h.su)
section LC
variable {p : Program} {l : Launch} {e : Env} {s : State} {m : MethodId} {below : List Frame} {meth : Method} {c : Code} {H : Heap} {locs : List Loc} {cells slots : Nat} {Q : State → Prop}
variable {D : va_G} {cs : C4} {A : Nat → Prop} {h : Hp} {se : Nat × Nat} {ls : Array Slot} {b L i N X M O : Nat} {xs : Nat → Int32} {K : Hp → Nat → Nat → Prop}
abbrev RL1 : Room := { frames := 2048, cells := 601024, slots := 7293034, locals := 84000 }
/-- what stands at each round of the law -/
def Lc (p : Program) (l : Launch) (s : State) (m : MethodId) (meth : Method) (c : Code) (D : va_G) (cs : C4) (A : Nat → Prop) (se : Nat × Nat) (b L : Nat) (xs : Nat → Int32) : Prop := Cx p s m #[Value.ref b] meth c cL_law 8 (some .boolean) RL D cs A se ∧ Nc3 s ∧ l.stackTraces = false ∧ va_X b L xs s s.heap ∧ b < s.heap.size ∧ ¬ A b ∧ L ≤ 2560
def Lk (h : Hp) (se : Nat × Nat) (X M O : Nat) : Prop := h.kd X = 12 ∧ h.kd M = 13 ∧ h.kd O = 21 ∧ h.al O = 1 ∧ h.se = se
abbrev Kb (K : Hp → Nat → Nat → Prop) : Prop := ∀ h1 c1 s1, K h1 c1 s1 → c1 ≤ 601024 ∧ s1 ≤ 7293034
abbrev Kk (p : Program) (l : Launch) (e : Env) (s : State) (m : MethodId) (below : List Frame) (meth : Method) (c : Code) (Q : State → Prop) (D : va_G) (cs : C4) (A : Nat → Prop) (b i X M O : Nat) (K : Hp → Nat → Nat → Prop) : Prop := ∀ (h1 : Hp) (c1 s1 : Nat) (H1 : Heap) (locs1 : List Loc) (ls1 : Array Slot), K h1 c1 s1 → Wz D cs A s h1 H1 locs1 → lv_has ls1 8 [(0, .ref b), (1, .ref X), (2, .ref M), (3, .ref O), (4, .int (nI i))] → W p l e RL1 s m #[Value.ref b] below meth c H1 locs1 c1 s1 Q (F0 m 1150 ls1 [])
set_option maxRecDepth 100000 in
set_option maxHeartbeats 4000000 in
theorem lc_begin (E0 : Lc p l s m meth c D cs A se b L xs) (hi : i + 5 ≤ L) (hk0 : Lk h se X M O) (hK : Kb K) (kk : Kk p l e s m below meth c Q D cs A b i X M O K) (hS : S_begin N X M h (bz (xs (i + 1))) (fun h1 c1 s1 => K h1 (cells + c1) (slots + s1))) (w : Wz D cs A s h H locs) (hl : lv_has ls 8 [(0, .ref b), (1, .ref X), (2, .ref M), (3, .ref O), (4, .int (nI i))]) : W p l e RL1 s m #[Value.ref b] below meth c H locs cells slots Q (F0 m 132 ls []) := by
  obtain ⟨C, hc3, hl0, hX, hbl, hbA, hL⟩ := E0
  obtain ⟨hkX, hkM, hkO, haO, hse⟩ := hk0
  obtain ⟨hx, hb, hml, hown, hts, -⟩ := id C
  obtain ⟨h1, h2, r, e1, e2, hk⟩ := hS
  have m1 := mo_X9_begin N X h (bz (xs (i + 1))) e1
  have m2 := mo_X10_begin N M h1 (bz (xs (i + 1))) e2
  have hb1 := hK _ _ _ hk
  have a1 := m1.2.1
  have a2 := m1.2.2.1
  have a3 := m2.2.1
  have a4 := m2.2.2.1
  refine lv_aload_n hx hb dL_law_132 rfl (lv_at hl 1 rfl) ?_
  refine lw_argB hx hb hX hbl hbA w.2.2.1 hi hL (kn := 1) (by decide) (by decide) (lv_at hl 0 rfl) (lv_at hl 4 rfl) dL_law_133 dL_law_134 dL_law_136 dL_law_137 dL_law_138 dL_law_139 dL_law_142 dL_law_143 dL_law_146 ?_
  refine jz_Vi (As := [.int (bz (xs (i + 1)))]) C hse w (cc_X9_begin N X h (bz (xs (i + 1))) hkX e1) m1 ⟨by omega, by omega⟩ hkX (by decide) rfl (fs := fs12 h X) rfl rfl ⟨tw_1_178, tw_1_175, tw_1_176, tw_1_177, tw_1_1⟩ cd_X9_begin ⟨by decide, by decide⟩ hl.1 (by first | exact Nat.le_of_ble_eq_true rfl | simp [rf_cat, cat_i, cat_l, cat_r]) rfl dL_law_147 (fun H1 locs1 w1 => ?_)
  have hkM1 : h1.kd M = 13 := kd_keep w m1 hkM (by decide)
  refine lv_aload_n hx hb dL_law_150 rfl (lv_at hl 2 rfl) ?_
  refine lw_argB hx hb hX hbl hbA w1.2.2.1 hi hL (kn := 1) (by decide) (by decide) (lv_at hl 0 rfl) (lv_at hl 4 rfl) dL_law_151 dL_law_152 dL_law_154 dL_law_155 dL_law_156 dL_law_157 dL_law_160 dL_law_161 dL_law_164 ?_
  refine jz_Vi (As := [.int (bz (xs (i + 1)))]) C (m1.2.2.2.1.trans hse) w1 (cc_X10_begin N M h1 (bz (xs (i + 1))) hkM1 e2) m2 ⟨by omega, by omega⟩ hkM1 (by decide) rfl (fs := fs13 h1 M) rfl rfl ⟨tw_7_133, tw_7_130, tw_7_131, tw_7_132, tw_1_7⟩ cd_X10_begin ⟨by decide, by decide⟩ hl.1 (by first | exact Nat.le_of_ble_eq_true rfl | simp [rf_cat, cat_i, cat_l, cat_r]) rfl dL_law_165 (fun H2 locs2 w2 => ?_)
  refine lv_icmp_eq (tgt := 1150) hx hb dL_law_168 (by decide) (fun _ => ?_) (fun c9 => absurd rfl c9)
  rw [show cells + (h1.nx - h.nx) + (h2.nx - h1.nx) = cells + (h2.nx - h.nx) by omega, show slots + (h1.su - h.su) + (h2.su - h1.su) = slots + (h2.su - h.su) by omega]
  exact kk _ _ _ _ _ _ hk w2 hl
set_option maxRecDepth 100000 in
set_option maxHeartbeats 4000000 in
theorem lc_read (E0 : Lc p l s m meth c D cs A se b L xs) (hi : i + 5 ≤ L) (hk0 : Lk h se X M O) (hK : Kb K) (kk : Kk p l e s m below meth c Q D cs A b i X M O K) (hS : S_read N X M O h (xs (i + 1)) (xs (i + 2)) (fun h1 c1 s1 => K h1 (cells + c1) (slots + s1))) (w : Wz D cs A s h H locs) (hl : lv_has ls 8 [(0, .ref b), (1, .ref X), (2, .ref M), (3, .ref O), (4, .int (nI i))]) : W p l e RL1 s m #[Value.ref b] below meth c H locs cells slots Q (F0 m 173 ls []) := by
  obtain ⟨C, hc3, hl0, hX, hbl, hbA, hL⟩ := E0
  obtain ⟨hkX, hkM, hkO, haO, hse⟩ := hk0
  obtain ⟨hx, hb, hml, hown, hts, -⟩ := id C
  rcases hS with ⟨h1, h2, r, e1, e2, t0, hk⟩ | ⟨hz, e1, he2⟩
  · have m1 : Mo h (h1.saw O 0 r.toInt64) := (mo_X9_read N X h (xs (i + 1)) (xs (i + 2)) e1).tr (Mo.saw h1 O 0 _)
    have m2 := mo_X10_read N M (h1.saw O 0 r.toInt64) (xs (i + 1)) (xs (i + 2)) e2
    have hb1 := hK _ _ _ hk
    have a1 := m1.2.1
    have a2 := m1.2.2.1
    have a3 := m2.2.1
    have a4 := m2.2.2.1
    refine lv_aload_n hx hb dL_law_173 rfl (lv_at hl 1 rfl) ?_
    refine lw_arg hx hb hX hbl hbA w.2.2.1 hi hL (kn := 1) (by decide) (by decide) (lv_at hl 0 rfl) (lv_at hl 4 rfl) dL_law_174 dL_law_175 dL_law_177 dL_law_178 dL_law_179 ?_
    refine lw_arg hx hb hX hbl hbA w.2.2.1 hi hL (kn := 2) (by decide) (by decide) (lv_at hl 0 rfl) (lv_at hl 4 rfl) dL_law_180 dL_law_181 dL_law_183 dL_law_184 dL_law_185 ?_
    refine lv_aload_n hx hb dL_law_186 rfl (lv_at hl 3 rfl) ?_
    refine jz_Hn (As := [.ref X, .int (xs (i + 1)), .int (xs (i + 2)), .ref O]) C hse w hc3 (hn_read N X O h (xs (i + 1)) (xs (i + 2)) hkX hkO haO e1) m1 ⟨by omega, by omega⟩ ⟨tw_5_105, tw_5_103, tw_5_104, tw_1_0⟩ cdL_read ⟨by decide, by decide⟩ hl.1 (by first | exact Nat.le_of_ble_eq_true rfl | simp [rf_cat, cat_i, cat_l, cat_r]) rfl dL_law_187 (fun H1 locs1 w1 => ?_)
    have hkM1 : (h1.saw O 0 r.toInt64).kd M = 13 := (m1.1 M (kd_lt w hkM (by decide))).trans hkM
    have hse1 : (h1.saw O 0 r.toInt64).se = se := m1.2.2.2.1.trans hse
    refine lv_istore (i := 5) (lv' := [(5, .int (0 : Int32)), (0, .ref b), (1, .ref X), (2, .ref M), (3, .ref O), (4, .int (nI i))]) hx hb dL_law_190 hl (by decide) rfl (fun ls hl => ?_)
    refine lv_aload_n hx hb dL_law_192 rfl (lv_at hl 3 rfl) ?_
    refine lw_arg hx hb hX hbl hbA w1.2.2.1 hi hL (kn := 1) (by decide) (by decide) (lv_at hl 1 rfl) (lv_at hl 5 rfl) dL_law_193 dL_law_194 dL_law_196 dL_law_197 dL_law_198 ?_
    refine lw_arg hx hb hX hbl hbA w1.2.2.1 hi hL (kn := 2) (by decide) (by decide) (lv_at hl 1 rfl) (lv_at hl 5 rfl) dL_law_199 dL_law_200 dL_law_202 dL_law_203 dL_law_204 ?_
    refine jz_Vi (As := [.int (xs (i + 1)), .int (xs (i + 2))]) C hse1 w1 (cc_X10_read N M (h1.saw O 0 r.toInt64) (xs (i + 1)) (xs (i + 2)) hkM1 e2) m2 ⟨by omega, by omega⟩ hkM1 (by decide) rfl (fs := fs13 (h1.saw O 0 r.toInt64) M) rfl rfl ⟨tw_7_214, tw_7_211, tw_7_212, tw_7_213, tw_1_7⟩ cd_X10_read ⟨by decide, by decide⟩ hl.1 (by first | exact Nat.le_of_ble_eq_true rfl | simp [rf_cat, cat_i, cat_l, cat_r]) rfl dL_law_205 (fun H2 locs2 w2 => ?_)
    have hkM2 : h2.kd M = 13 := kd_keep w1 m2 hkM1 (by decide)
    have hse2 : h2.se = se := m2.2.2.2.1.trans hse1
    refine lv_istore (i := 6) (lv' := [(6, .int r), (5, .int (0 : Int32)), (0, .ref b), (1, .ref X), (2, .ref M), (3, .ref O), (4, .int (nI i))]) hx hb dL_law_208 hl (by decide) rfl (fun ls hl => ?_)
    refine lv_aload_n hx hb dL_law_210 rfl (lv_at hl 4 rfl) ?_
    refine jz_Vi (As := []) (r := h2.gi 1300 M) C hse2 w2 (cc_X10_thrown N M h2 hkM2 rfl) (Mo.rf h2) ⟨by omega, by omega⟩ hkM2 (by decide) rfl (fs := fs13 h2 M) rfl rfl ⟨tw_7_129, tw_7_126, tw_7_127, tw_7_128, tw_1_7⟩ cd_X10_thrown ⟨by decide, by decide⟩ hl.1 (by first | exact Nat.le_of_ble_eq_true rfl | simp [rf_cat, cat_i, cat_l, cat_r]) rfl dL_law_211 (fun H3 locs3 w3 => ?_)
    refine lv_iload hx hb dL_law_214 (lv_at hl 1 rfl) ?_
    refine lv_icmp_eq (tgt := 221) hx hb dL_law_216 (by decide) (fun _ => ?_) (fun c9 => absurd t0 c9)
    refine lv_iload hx hb dL_law_221 (lv_at hl 1 rfl) ?_
    refine lv_if_ne (tgt := 238) hx hb dL_law_223 (by decide) (fun c9 => absurd rfl c9) (fun _ => ?_)
    have hkO1 : (h1.saw O 0 r.toInt64).kd O = 21 := kd_keep w m1 hkO (by decide)
    have hO1 : O < (h1.saw O 0 r.toInt64).nx := kd_lt w1 hkO1 (by decide)
    have hkO2 : h2.kd O = 21 := kd_keep w1 m2 hkO1 (by decide)
    have haO2 : h2.al O = 1 := (m2.2.2.2.2 O hO1).trans ((m1.2.2.2.2 O (kd_lt w hkO (by decide))).trans haO)
    have hv : h2.aw O 0 = r.toInt64 := by
      rw [(fo_X10_read N M (h1.saw O 0 r.toInt64) (xs (i + 1)) (xs (i + 2)) e2).2.2.2.2.2.1 O hO1]
      show va_up h1.aw O (va_up (h1.aw O) 0 _) O 0 = _
      rw [va_up_self, va_up_self]
    refine lv_aload_n hx hb dL_law_226 rfl (lv_at hl 5 rfl) ?_
    refine lv_iconst (v := (0 : Int32)) hx hb dL_law_227 (by decide) ?_
    refine jz_lald C w3 hkO2 (by rw [haO2]; decide) dL_law_228 ?_
    refine lv_iload hx hb dL_law_229 (lv_at hl 0 rfl) ?_
    refine lv_i2l hx hb dL_law_231 rfl ?_
    refine W.lcmp hx hb dL_law_232 ?_
    refine lv_if_eq (tgt := 238) hx hb dL_law_233 (by decide) (fun _ => ?_) (fun c9 => absurd (show lg_cmp (h2.aw O (0 : Int32).toNatClampNeg) _ = 0 by rw [show (0 : Int32).toNatClampNeg = 0 from rfl, hv]; exact lg_self _) c9)
    refine lv_goto (tgt := 1150) hx hb dL_law_238 (by decide) ?_
    rw [show cells + ((h1.saw O 0 r.toInt64).nx - h.nx) + (h2.nx - (h1.saw O 0 r.toInt64).nx) + (h2.nx - h2.nx) = cells + (h2.nx - h.nx) by omega, show slots + ((h1.saw O 0 r.toInt64).su - h.su) + (h2.su - (h1.saw O 0 r.toInt64).su) + (h2.su - h2.su) = slots + (h2.su - h.su) by omega]
    exact kk _ _ _ _ _ _ hk w3 (lv_sub (l' := [(0, .ref b), (1, .ref X), (2, .ref M), (3, .ref O), (4, .int (nI i))]) hl [2, 3, 4, 5, 6] rfl)
  · have m1 := mo_xX9_read N X h (xs (i + 1)) (xs (i + 2)) e1
    have a1 := m1.2.1
    have a2 := m1.2.2.1
    obtain ⟨h9, r9, g1, -, g2⟩ := he2 hz.nx (Nat.le_refl _)
    have hb1 := hK _ _ _ g2
    have a3 : hz.nx ≤ h9.nx := (mo_X10_read N M (hz.thr hz.nx) (xs (i + 1)) (xs (i + 2)) g1).2.1
    have a4 : hz.su + 6 ≤ h9.su := (mo_X10_read N M (hz.thr hz.nx) (xs (i + 1)) (xs (i + 2)) g1).2.2.1
    refine lv_aload_n hx hb dL_law_173 rfl (lv_at hl 1 rfl) ?_
    refine lw_arg hx hb hX hbl hbA w.2.2.1 hi hL (kn := 1) (by decide) (by decide) (lv_at hl 0 rfl) (lv_at hl 4 rfl) dL_law_174 dL_law_175 dL_law_177 dL_law_178 dL_law_179 ?_
    refine lw_arg hx hb hX hbl hbA w.2.2.1 hi hL (kn := 2) (by decide) (by decide) (lv_at hl 0 rfl) (lv_at hl 4 rfl) dL_law_180 dL_law_181 dL_law_183 dL_law_184 dL_law_185 ?_
    refine lv_aload_n hx hb dL_law_186 rfl (lv_at hl 3 rfl) ?_
    refine jz_Ht (As := [.ref X, .int (xs (i + 1)), .int (xs (i + 2)), .ref O]) C hse w hc3 (ht_read_1 hl0 N X O h (xs (i + 1)) (xs (i + 2)) hkX e1) m1 ⟨by omega, by omega⟩ ⟨tw_5_105, tw_5_103, tw_5_104, tw_1_0⟩ cdL_read ⟨by decide, by decide⟩ hl.1 (by first | exact Nat.le_of_ble_eq_true rfl | simp [rf_cat, cat_i, cat_l, cat_r]) rfl dL_law_187 (fun H1 locs1 n1 hn1 w1 => ?_)
    obtain ⟨h2, r, e2, t0, hk⟩ := he2 n1 hn1
    have m2 := mo_X10_read N M (hz.thr n1) (xs (i + 1)) (xs (i + 2)) e2
    have hb2 := hK _ _ _ hk
    have a5 : n1 ≤ h2.nx := m2.2.1
    have a6 : hz.su + 6 ≤ h2.su := m2.2.2.1
    have q1 : (hz.thr n1).nx = n1 := rfl
    have q2 : (hz.thr n1).su = hz.su + 6 := rfl
    have hkM1 : (hz.thr n1).kd M = 13 := (m1.1 M (kd_lt w hkM (by decide))).trans hkM
    have hse1 : (hz.thr n1).se = se := m1.2.2.2.1.trans hse
    refine lv_istore (i := 5) (lv' := [(5, .int (1 : Int32)), (0, .ref b), (1, .ref X), (2, .ref M), (3, .ref O), (4, .int (nI i))]) hx hb dL_law_190 hl (by decide) rfl (fun ls hl => ?_)
    refine lv_aload_n hx hb dL_law_192 rfl (lv_at hl 3 rfl) ?_
    refine lw_arg hx hb hX hbl hbA w1.2.2.1 hi hL (kn := 1) (by decide) (by decide) (lv_at hl 1 rfl) (lv_at hl 5 rfl) dL_law_193 dL_law_194 dL_law_196 dL_law_197 dL_law_198 ?_
    refine lw_arg hx hb hX hbl hbA w1.2.2.1 hi hL (kn := 2) (by decide) (by decide) (lv_at hl 1 rfl) (lv_at hl 5 rfl) dL_law_199 dL_law_200 dL_law_202 dL_law_203 dL_law_204 ?_
    refine jz_Vi (As := [.int (xs (i + 1)), .int (xs (i + 2))]) C hse1 w1 (cc_X10_read N M (hz.thr n1) (xs (i + 1)) (xs (i + 2)) hkM1 e2) m2 ⟨by omega, by omega⟩ hkM1 (by decide) rfl (fs := fs13 (hz.thr n1) M) rfl rfl ⟨tw_7_214, tw_7_211, tw_7_212, tw_7_213, tw_1_7⟩ cd_X10_read ⟨by decide, by decide⟩ hl.1 (by first | exact Nat.le_of_ble_eq_true rfl | simp [rf_cat, cat_i, cat_l, cat_r]) rfl dL_law_205 (fun H2 locs2 w2 => ?_)
    have hkM2 : h2.kd M = 13 := kd_keep w1 m2 hkM1 (by decide)
    have hse2 : h2.se = se := m2.2.2.2.1.trans hse1
    refine lv_istore (i := 6) (lv' := [(6, .int r), (5, .int (1 : Int32)), (0, .ref b), (1, .ref X), (2, .ref M), (3, .ref O), (4, .int (nI i))]) hx hb dL_law_208 hl (by decide) rfl (fun ls hl => ?_)
    refine lv_aload_n hx hb dL_law_210 rfl (lv_at hl 4 rfl) ?_
    refine jz_Vi (As := []) (r := h2.gi 1300 M) C hse2 w2 (cc_X10_thrown N M h2 hkM2 rfl) (Mo.rf h2) ⟨by omega, by omega⟩ hkM2 (by decide) rfl (fs := fs13 h2 M) rfl rfl ⟨tw_7_129, tw_7_126, tw_7_127, tw_7_128, tw_1_7⟩ cd_X10_thrown ⟨by decide, by decide⟩ hl.1 (by first | exact Nat.le_of_ble_eq_true rfl | simp [rf_cat, cat_i, cat_l, cat_r]) rfl dL_law_211 (fun H3 locs3 w3 => ?_)
    refine lv_iload hx hb dL_law_214 (lv_at hl 1 rfl) ?_
    refine lv_icmp_eq (tgt := 221) hx hb dL_law_216 (by decide) (fun _ => ?_) (fun c9 => absurd t0 c9)
    refine lv_iload hx hb dL_law_221 (lv_at hl 1 rfl) ?_
    refine lv_if_ne (tgt := 238) hx hb dL_law_223 (by decide) (fun _ => ?_) (fun c9 => absurd c9 (by decide))
    refine lv_goto (tgt := 1150) hx hb dL_law_238 (by decide) ?_
    rw [show cells + (hz.nx + 1 - h.nx) + (h2.nx - (hz.thr n1).nx) + (h2.nx - h2.nx) = cells + (hz.nx + 1 - h.nx + (h2.nx - n1)) by omega, show slots + (hz.su + 6 - h.su) + (h2.su - (hz.thr n1).su) + (h2.su - h2.su) = slots + (h2.su - h.su) by omega]
    exact kk _ _ _ _ _ _ hk w3 (lv_sub (l' := [(0, .ref b), (1, .ref X), (2, .ref M), (3, .ref O), (4, .int (nI i))]) hl [2, 3, 4, 5, 6] rfl)
set_option maxRecDepth 100000 in
set_option maxHeartbeats 4000000 in
theorem lc_near (E0 : Lc p l s m meth c D cs A se b L xs) (hi : i + 5 ≤ L) (hk0 : Lk h se X M O) (hK : Kb K) (kk : Kk p l e s m below meth c Q D cs A b i X M O K) (hS : S_near N X M O h (xs (i + 1)) (xs (i + 2)) (bz (xs (i + 3))) (fun h1 c1 s1 => K h1 (cells + c1) (slots + s1))) (w : Wz D cs A s h H locs) (hl : lv_has ls 8 [(0, .ref b), (1, .ref X), (2, .ref M), (3, .ref O), (4, .int (nI i))]) : W p l e RL1 s m #[Value.ref b] below meth c H locs cells slots Q (F0 m 241 ls []) := by
  obtain ⟨C, hc3, hl0, hX, hbl, hbA, hL⟩ := E0
  obtain ⟨hkX, hkM, hkO, haO, hse⟩ := hk0
  obtain ⟨hx, hb, hml, hown, hts, -⟩ := id C
  rcases hS with ⟨h1, h2, r, e1, e2, t0, hk⟩ | ⟨hz, e1, he2⟩
  · have m1 : Mo h (h1.saw O 0 r.toInt64) := (mo_X9_near N X h (xs (i + 1)) (xs (i + 2)) (bz (xs (i + 3))) e1).tr (Mo.saw h1 O 0 _)
    have m2 := mo_X10_near N M (h1.saw O 0 r.toInt64) (xs (i + 1)) (xs (i + 2)) (bz (xs (i + 3))) e2
    have hb1 := hK _ _ _ hk
    have a1 := m1.2.1
    have a2 := m1.2.2.1
    have a3 := m2.2.1
    have a4 := m2.2.2.1
    refine lv_aload_n hx hb dL_law_241 rfl (lv_at hl 1 rfl) ?_
    refine lw_arg hx hb hX hbl hbA w.2.2.1 hi hL (kn := 1) (by decide) (by decide) (lv_at hl 0 rfl) (lv_at hl 4 rfl) dL_law_242 dL_law_243 dL_law_245 dL_law_246 dL_law_247 ?_
    refine lw_arg hx hb hX hbl hbA w.2.2.1 hi hL (kn := 2) (by decide) (by decide) (lv_at hl 0 rfl) (lv_at hl 4 rfl) dL_law_248 dL_law_249 dL_law_251 dL_law_252 dL_law_253 ?_
    refine lw_argB hx hb hX hbl hbA w.2.2.1 hi hL (kn := 3) (by decide) (by decide) (lv_at hl 0 rfl) (lv_at hl 4 rfl) dL_law_254 dL_law_255 dL_law_257 dL_law_258 dL_law_259 dL_law_260 dL_law_263 dL_law_264 dL_law_267 ?_
    refine lv_aload_n hx hb dL_law_268 rfl (lv_at hl 3 rfl) ?_
    refine jz_Hn (As := [.ref X, .int (xs (i + 1)), .int (xs (i + 2)), .int (bz (xs (i + 3))), .ref O]) C hse w hc3 (hn_near N X O h (xs (i + 1)) (xs (i + 2)) (bz (xs (i + 3))) hkX hkO haO e1) m1 ⟨by omega, by omega⟩ ⟨tw_6_9, tw_6_7, tw_6_8, tw_1_0⟩ cdL_near ⟨by decide, by decide⟩ hl.1 (by first | exact Nat.le_of_ble_eq_true rfl | simp [rf_cat, cat_i, cat_l, cat_r]) rfl dL_law_269 (fun H1 locs1 w1 => ?_)
    have hkM1 : (h1.saw O 0 r.toInt64).kd M = 13 := (m1.1 M (kd_lt w hkM (by decide))).trans hkM
    have hse1 : (h1.saw O 0 r.toInt64).se = se := m1.2.2.2.1.trans hse
    refine lv_istore (i := 5) (lv' := [(5, .int (0 : Int32)), (0, .ref b), (1, .ref X), (2, .ref M), (3, .ref O), (4, .int (nI i))]) hx hb dL_law_272 hl (by decide) rfl (fun ls hl => ?_)
    refine lv_aload_n hx hb dL_law_274 rfl (lv_at hl 3 rfl) ?_
    refine lw_arg hx hb hX hbl hbA w1.2.2.1 hi hL (kn := 1) (by decide) (by decide) (lv_at hl 1 rfl) (lv_at hl 5 rfl) dL_law_275 dL_law_276 dL_law_278 dL_law_279 dL_law_280 ?_
    refine lw_arg hx hb hX hbl hbA w1.2.2.1 hi hL (kn := 2) (by decide) (by decide) (lv_at hl 1 rfl) (lv_at hl 5 rfl) dL_law_281 dL_law_282 dL_law_284 dL_law_285 dL_law_286 ?_
    refine lw_argB hx hb hX hbl hbA w1.2.2.1 hi hL (kn := 3) (by decide) (by decide) (lv_at hl 1 rfl) (lv_at hl 5 rfl) dL_law_287 dL_law_288 dL_law_290 dL_law_291 dL_law_292 dL_law_293 dL_law_296 dL_law_297 dL_law_300 ?_
    refine jz_Vi (As := [.int (xs (i + 1)), .int (xs (i + 2)), .int (bz (xs (i + 3)))]) C hse1 w1 (cc_X10_near N M (h1.saw O 0 r.toInt64) (xs (i + 1)) (xs (i + 2)) (bz (xs (i + 3))) hkM1 e2) m2 ⟨by omega, by omega⟩ hkM1 (by decide) rfl (fs := fs13 (h1.saw O 0 r.toInt64) M) rfl rfl ⟨tw_7_238, tw_7_235, tw_7_236, tw_7_237, tw_1_7⟩ cd_X10_near ⟨by decide, by decide⟩ hl.1 (by first | exact Nat.le_of_ble_eq_true rfl | simp [rf_cat, cat_i, cat_l, cat_r]) rfl dL_law_301 (fun H2 locs2 w2 => ?_)
    have hkM2 : h2.kd M = 13 := kd_keep w1 m2 hkM1 (by decide)
    have hse2 : h2.se = se := m2.2.2.2.1.trans hse1
    refine lv_istore (i := 6) (lv' := [(6, .int r), (5, .int (0 : Int32)), (0, .ref b), (1, .ref X), (2, .ref M), (3, .ref O), (4, .int (nI i))]) hx hb dL_law_304 hl (by decide) rfl (fun ls hl => ?_)
    refine lv_aload_n hx hb dL_law_306 rfl (lv_at hl 4 rfl) ?_
    refine jz_Vi (As := []) (r := h2.gi 1300 M) C hse2 w2 (cc_X10_thrown N M h2 hkM2 rfl) (Mo.rf h2) ⟨by omega, by omega⟩ hkM2 (by decide) rfl (fs := fs13 h2 M) rfl rfl ⟨tw_7_129, tw_7_126, tw_7_127, tw_7_128, tw_1_7⟩ cd_X10_thrown ⟨by decide, by decide⟩ hl.1 (by first | exact Nat.le_of_ble_eq_true rfl | simp [rf_cat, cat_i, cat_l, cat_r]) rfl dL_law_307 (fun H3 locs3 w3 => ?_)
    refine lv_iload hx hb dL_law_310 (lv_at hl 1 rfl) ?_
    refine lv_icmp_eq (tgt := 317) hx hb dL_law_312 (by decide) (fun _ => ?_) (fun c9 => absurd t0 c9)
    refine lv_iload hx hb dL_law_317 (lv_at hl 1 rfl) ?_
    refine lv_if_ne (tgt := 334) hx hb dL_law_319 (by decide) (fun c9 => absurd rfl c9) (fun _ => ?_)
    have hkO1 : (h1.saw O 0 r.toInt64).kd O = 21 := kd_keep w m1 hkO (by decide)
    have hO1 : O < (h1.saw O 0 r.toInt64).nx := kd_lt w1 hkO1 (by decide)
    have hkO2 : h2.kd O = 21 := kd_keep w1 m2 hkO1 (by decide)
    have haO2 : h2.al O = 1 := (m2.2.2.2.2 O hO1).trans ((m1.2.2.2.2 O (kd_lt w hkO (by decide))).trans haO)
    have hv : h2.aw O 0 = r.toInt64 := by
      rw [(fo_X10_near N M (h1.saw O 0 r.toInt64) (xs (i + 1)) (xs (i + 2)) (bz (xs (i + 3))) e2).2.2.2.2.2.1 O hO1]
      show va_up h1.aw O (va_up (h1.aw O) 0 _) O 0 = _
      rw [va_up_self, va_up_self]
    refine lv_aload_n hx hb dL_law_322 rfl (lv_at hl 5 rfl) ?_
    refine lv_iconst (v := (0 : Int32)) hx hb dL_law_323 (by decide) ?_
    refine jz_lald C w3 hkO2 (by rw [haO2]; decide) dL_law_324 ?_
    refine lv_iload hx hb dL_law_325 (lv_at hl 0 rfl) ?_
    refine lv_i2l hx hb dL_law_327 rfl ?_
    refine W.lcmp hx hb dL_law_328 ?_
    refine lv_if_eq (tgt := 334) hx hb dL_law_329 (by decide) (fun _ => ?_) (fun c9 => absurd (show lg_cmp (h2.aw O (0 : Int32).toNatClampNeg) _ = 0 by rw [show (0 : Int32).toNatClampNeg = 0 from rfl, hv]; exact lg_self _) c9)
    refine lv_goto (tgt := 1150) hx hb dL_law_334 (by decide) ?_
    rw [show cells + ((h1.saw O 0 r.toInt64).nx - h.nx) + (h2.nx - (h1.saw O 0 r.toInt64).nx) + (h2.nx - h2.nx) = cells + (h2.nx - h.nx) by omega, show slots + ((h1.saw O 0 r.toInt64).su - h.su) + (h2.su - (h1.saw O 0 r.toInt64).su) + (h2.su - h2.su) = slots + (h2.su - h.su) by omega]
    exact kk _ _ _ _ _ _ hk w3 (lv_sub (l' := [(0, .ref b), (1, .ref X), (2, .ref M), (3, .ref O), (4, .int (nI i))]) hl [2, 3, 4, 5, 6] rfl)
  · have m1 := mo_xX9_near N X h (xs (i + 1)) (xs (i + 2)) (bz (xs (i + 3))) e1
    have a1 := m1.2.1
    have a2 := m1.2.2.1
    obtain ⟨h9, r9, g1, -, g2⟩ := he2 hz.nx (Nat.le_refl _)
    have hb1 := hK _ _ _ g2
    have a3 : hz.nx ≤ h9.nx := (mo_X10_near N M (hz.thr hz.nx) (xs (i + 1)) (xs (i + 2)) (bz (xs (i + 3))) g1).2.1
    have a4 : hz.su + 6 ≤ h9.su := (mo_X10_near N M (hz.thr hz.nx) (xs (i + 1)) (xs (i + 2)) (bz (xs (i + 3))) g1).2.2.1
    refine lv_aload_n hx hb dL_law_241 rfl (lv_at hl 1 rfl) ?_
    refine lw_arg hx hb hX hbl hbA w.2.2.1 hi hL (kn := 1) (by decide) (by decide) (lv_at hl 0 rfl) (lv_at hl 4 rfl) dL_law_242 dL_law_243 dL_law_245 dL_law_246 dL_law_247 ?_
    refine lw_arg hx hb hX hbl hbA w.2.2.1 hi hL (kn := 2) (by decide) (by decide) (lv_at hl 0 rfl) (lv_at hl 4 rfl) dL_law_248 dL_law_249 dL_law_251 dL_law_252 dL_law_253 ?_
    refine lw_argB hx hb hX hbl hbA w.2.2.1 hi hL (kn := 3) (by decide) (by decide) (lv_at hl 0 rfl) (lv_at hl 4 rfl) dL_law_254 dL_law_255 dL_law_257 dL_law_258 dL_law_259 dL_law_260 dL_law_263 dL_law_264 dL_law_267 ?_
    refine lv_aload_n hx hb dL_law_268 rfl (lv_at hl 3 rfl) ?_
    refine jz_Ht (As := [.ref X, .int (xs (i + 1)), .int (xs (i + 2)), .int (bz (xs (i + 3))), .ref O]) C hse w hc3 (ht_near_1 hl0 N X O h (xs (i + 1)) (xs (i + 2)) (bz (xs (i + 3))) hkX e1) m1 ⟨by omega, by omega⟩ ⟨tw_6_9, tw_6_7, tw_6_8, tw_1_0⟩ cdL_near ⟨by decide, by decide⟩ hl.1 (by first | exact Nat.le_of_ble_eq_true rfl | simp [rf_cat, cat_i, cat_l, cat_r]) rfl dL_law_269 (fun H1 locs1 n1 hn1 w1 => ?_)
    obtain ⟨h2, r, e2, t0, hk⟩ := he2 n1 hn1
    have m2 := mo_X10_near N M (hz.thr n1) (xs (i + 1)) (xs (i + 2)) (bz (xs (i + 3))) e2
    have hb2 := hK _ _ _ hk
    have a5 : n1 ≤ h2.nx := m2.2.1
    have a6 : hz.su + 6 ≤ h2.su := m2.2.2.1
    have q1 : (hz.thr n1).nx = n1 := rfl
    have q2 : (hz.thr n1).su = hz.su + 6 := rfl
    have hkM1 : (hz.thr n1).kd M = 13 := (m1.1 M (kd_lt w hkM (by decide))).trans hkM
    have hse1 : (hz.thr n1).se = se := m1.2.2.2.1.trans hse
    refine lv_istore (i := 5) (lv' := [(5, .int (1 : Int32)), (0, .ref b), (1, .ref X), (2, .ref M), (3, .ref O), (4, .int (nI i))]) hx hb dL_law_272 hl (by decide) rfl (fun ls hl => ?_)
    refine lv_aload_n hx hb dL_law_274 rfl (lv_at hl 3 rfl) ?_
    refine lw_arg hx hb hX hbl hbA w1.2.2.1 hi hL (kn := 1) (by decide) (by decide) (lv_at hl 1 rfl) (lv_at hl 5 rfl) dL_law_275 dL_law_276 dL_law_278 dL_law_279 dL_law_280 ?_
    refine lw_arg hx hb hX hbl hbA w1.2.2.1 hi hL (kn := 2) (by decide) (by decide) (lv_at hl 1 rfl) (lv_at hl 5 rfl) dL_law_281 dL_law_282 dL_law_284 dL_law_285 dL_law_286 ?_
    refine lw_argB hx hb hX hbl hbA w1.2.2.1 hi hL (kn := 3) (by decide) (by decide) (lv_at hl 1 rfl) (lv_at hl 5 rfl) dL_law_287 dL_law_288 dL_law_290 dL_law_291 dL_law_292 dL_law_293 dL_law_296 dL_law_297 dL_law_300 ?_
    refine jz_Vi (As := [.int (xs (i + 1)), .int (xs (i + 2)), .int (bz (xs (i + 3)))]) C hse1 w1 (cc_X10_near N M (hz.thr n1) (xs (i + 1)) (xs (i + 2)) (bz (xs (i + 3))) hkM1 e2) m2 ⟨by omega, by omega⟩ hkM1 (by decide) rfl (fs := fs13 (hz.thr n1) M) rfl rfl ⟨tw_7_238, tw_7_235, tw_7_236, tw_7_237, tw_1_7⟩ cd_X10_near ⟨by decide, by decide⟩ hl.1 (by first | exact Nat.le_of_ble_eq_true rfl | simp [rf_cat, cat_i, cat_l, cat_r]) rfl dL_law_301 (fun H2 locs2 w2 => ?_)
    have hkM2 : h2.kd M = 13 := kd_keep w1 m2 hkM1 (by decide)
    have hse2 : h2.se = se := m2.2.2.2.1.trans hse1
    refine lv_istore (i := 6) (lv' := [(6, .int r), (5, .int (1 : Int32)), (0, .ref b), (1, .ref X), (2, .ref M), (3, .ref O), (4, .int (nI i))]) hx hb dL_law_304 hl (by decide) rfl (fun ls hl => ?_)
    refine lv_aload_n hx hb dL_law_306 rfl (lv_at hl 4 rfl) ?_
    refine jz_Vi (As := []) (r := h2.gi 1300 M) C hse2 w2 (cc_X10_thrown N M h2 hkM2 rfl) (Mo.rf h2) ⟨by omega, by omega⟩ hkM2 (by decide) rfl (fs := fs13 h2 M) rfl rfl ⟨tw_7_129, tw_7_126, tw_7_127, tw_7_128, tw_1_7⟩ cd_X10_thrown ⟨by decide, by decide⟩ hl.1 (by first | exact Nat.le_of_ble_eq_true rfl | simp [rf_cat, cat_i, cat_l, cat_r]) rfl dL_law_307 (fun H3 locs3 w3 => ?_)
    refine lv_iload hx hb dL_law_310 (lv_at hl 1 rfl) ?_
    refine lv_icmp_eq (tgt := 317) hx hb dL_law_312 (by decide) (fun _ => ?_) (fun c9 => absurd t0 c9)
    refine lv_iload hx hb dL_law_317 (lv_at hl 1 rfl) ?_
    refine lv_if_ne (tgt := 334) hx hb dL_law_319 (by decide) (fun _ => ?_) (fun c9 => absurd c9 (by decide))
    refine lv_goto (tgt := 1150) hx hb dL_law_334 (by decide) ?_
    rw [show cells + (hz.nx + 1 - h.nx) + (h2.nx - (hz.thr n1).nx) + (h2.nx - h2.nx) = cells + (hz.nx + 1 - h.nx + (h2.nx - n1)) by omega, show slots + (hz.su + 6 - h.su) + (h2.su - (hz.thr n1).su) + (h2.su - h2.su) = slots + (h2.su - h.su) by omega]
    exact kk _ _ _ _ _ _ hk w3 (lv_sub (l' := [(0, .ref b), (1, .ref X), (2, .ref M), (3, .ref O), (4, .int (nI i))]) hl [2, 3, 4, 5, 6] rfl)
set_option maxRecDepth 100000 in
set_option maxHeartbeats 4000000 in
theorem lc_value (E0 : Lc p l s m meth c D cs A se b L xs) (hi : i + 5 ≤ L) (hk0 : Lk h se X M O) (hK : Kb K) (kk : Kk p l e s m below meth c Q D cs A b i X M O K) (hS : S_value N X M h (fun h1 c1 s1 => K h1 (cells + c1) (slots + s1))) (w : Wz D cs A s h H locs) (hl : lv_has ls 8 [(0, .ref b), (1, .ref X), (2, .ref M), (3, .ref O), (4, .int (nI i))]) : W p l e RL1 s m #[Value.ref b] below meth c H locs cells slots Q (F0 m 337 ls []) := by
  obtain ⟨C, hc3, hl0, hX, hbl, hbA, hL⟩ := E0
  obtain ⟨hkX, hkM, hkO, haO, hse⟩ := hk0
  obtain ⟨hx, hb, hml, hown, hts, -⟩ := id C
  obtain ⟨h1, h2, r, e1, e2, hk⟩ := hS
  have m1 := mo_X9_value N X h e1
  have m2 := mo_X10_value N M h1 e2
  have hb1 := hK _ _ _ hk
  have a1 := m1.2.1
  have a2 := m1.2.2.1
  have a3 := m2.2.1
  have a4 := m2.2.2.1
  refine lv_aload_n hx hb dL_law_337 rfl (lv_at hl 1 rfl) ?_
  refine jz_Vl (As := []) C hse w (cc_X9_value N X h hkX e1) m1 ⟨by omega, by omega⟩ hkX (by decide) rfl (fs := fs12 h X) rfl rfl ⟨tw_2_153, tw_2_150, tw_2_151, tw_2_152, tw_1_1⟩ cd_X9_value ⟨by decide, by decide⟩ hl.1 (by first | exact Nat.le_of_ble_eq_true rfl | simp [rf_cat, cat_i, cat_l, cat_r]) rfl dL_law_338 (fun H1 locs1 w1 => ?_)
  have hkM1 : h1.kd M = 13 := kd_keep w m1 hkM (by decide)
  refine lv_aload_n hx hb dL_law_341 rfl (lv_at hl 2 rfl) ?_
  refine jz_Vl (As := []) C (m1.2.2.2.1.trans hse) w1 (cc_X10_value N M h1 hkM1 e2) m2 ⟨by omega, by omega⟩ hkM1 (by decide) rfl (fs := fs13 h1 M) rfl rfl ⟨tw_8_7, tw_8_4, tw_8_5, tw_8_6, tw_1_7⟩ cd_X10_value ⟨by decide, by decide⟩ hl.1 (by first | exact Nat.le_of_ble_eq_true rfl | simp [rf_cat, cat_i, cat_l, cat_r]) rfl dL_law_342 (fun H2 locs2 w2 => ?_)
  refine W.lcmp hx hb dL_law_345 ?_
  refine lv_if_eq (tgt := 1150) hx hb dL_law_346 (by decide) (fun _ => ?_) (fun c9 => absurd (lg_self r) c9)
  rw [show cells + (h1.nx - h.nx) + (h2.nx - h1.nx) = cells + (h2.nx - h.nx) by omega, show slots + (h1.su - h.su) + (h2.su - h1.su) = slots + (h2.su - h.su) by omega]
  exact kk _ _ _ _ _ _ hk w2 hl
set_option maxRecDepth 100000 in
set_option maxHeartbeats 4000000 in
theorem lc_key (E0 : Lc p l s m meth c D cs A se b L xs) (hi : i + 5 ≤ L) (hk0 : Lk h se X M O) (hK : Kb K) (kk : Kk p l e s m below meth c Q D cs A b i X M O K) (hS : S_key N X M h (fun h1 c1 s1 => K h1 (cells + c1) (slots + s1))) (w : Wz D cs A s h H locs) (hl : lv_has ls 8 [(0, .ref b), (1, .ref X), (2, .ref M), (3, .ref O), (4, .int (nI i))]) : W p l e RL1 s m #[Value.ref b] below meth c H locs cells slots Q (F0 m 351 ls []) := by
  obtain ⟨C, hc3, hl0, hX, hbl, hbA, hL⟩ := E0
  obtain ⟨hkX, hkM, hkO, haO, hse⟩ := hk0
  obtain ⟨hx, hb, hml, hown, hts, -⟩ := id C
  obtain ⟨h1, h2, r, e1, e2, hk⟩ := hS
  have m1 := mo_X9_key N X h e1
  have m2 := mo_X10_key N M h1 e2
  have hb1 := hK _ _ _ hk
  have a1 := m1.2.1
  have a2 := m1.2.2.1
  have a3 := m2.2.1
  have a4 := m2.2.2.1
  refine lv_aload_n hx hb dL_law_351 rfl (lv_at hl 1 rfl) ?_
  refine jz_Vi (As := []) C hse w (cc_X9_key N X h hkX e1) m1 ⟨by omega, by omega⟩ hkX (by decide) rfl (fs := fs12 h X) rfl rfl ⟨tw_2_157, tw_2_154, tw_2_155, tw_2_156, tw_1_1⟩ cd_X9_key ⟨by decide, by decide⟩ hl.1 (by first | exact Nat.le_of_ble_eq_true rfl | simp [rf_cat, cat_i, cat_l, cat_r]) rfl dL_law_352 (fun H1 locs1 w1 => ?_)
  have hkM1 : h1.kd M = 13 := kd_keep w m1 hkM (by decide)
  refine lv_aload_n hx hb dL_law_355 rfl (lv_at hl 2 rfl) ?_
  refine jz_Vi (As := []) C (m1.2.2.2.1.trans hse) w1 (cc_X10_key N M h1 hkM1 e2) m2 ⟨by omega, by omega⟩ hkM1 (by decide) rfl (fs := fs13 h1 M) rfl rfl ⟨tw_8_11, tw_8_8, tw_8_9, tw_8_10, tw_1_7⟩ cd_X10_key ⟨by decide, by decide⟩ hl.1 (by first | exact Nat.le_of_ble_eq_true rfl | simp [rf_cat, cat_i, cat_l, cat_r]) rfl dL_law_356 (fun H2 locs2 w2 => ?_)
  refine lv_icmp_eq (tgt := 1150) hx hb dL_law_359 (by decide) (fun _ => ?_) (fun c9 => absurd rfl c9)
  rw [show cells + (h1.nx - h.nx) + (h2.nx - h1.nx) = cells + (h2.nx - h.nx) by omega, show slots + (h1.su - h.su) + (h2.su - h1.su) = slots + (h2.su - h.su) by omega]
  exact kk _ _ _ _ _ _ hk w2 hl
set_option maxRecDepth 100000 in
set_option maxHeartbeats 4000000 in
theorem lc_scan (E0 : Lc p l s m meth c D cs A se b L xs) (hi : i + 5 ≤ L) (hk0 : Lk h se X M O) (hK : Kb K) (kk : Kk p l e s m below meth c Q D cs A b i X M O K) (hS : S_scan N X M O h (xs (i + 1)) (xs (i + 2)) (xs (i + 3)) (xs (i + 4)) (fun h1 c1 s1 => K h1 (cells + c1) (slots + s1))) (w : Wz D cs A s h H locs) (hl : lv_has ls 8 [(0, .ref b), (1, .ref X), (2, .ref M), (3, .ref O), (4, .int (nI i))]) : W p l e RL1 s m #[Value.ref b] below meth c H locs cells slots Q (F0 m 364 ls []) := by
  obtain ⟨C, hc3, hl0, hX, hbl, hbA, hL⟩ := E0
  obtain ⟨hkX, hkM, hkO, haO, hse⟩ := hk0
  obtain ⟨hx, hb, hml, hown, hts, -⟩ := id C
  rcases hS with ⟨h1, h2, r, e1, e2, t0, hk⟩ | ⟨hz, e1, he2⟩ | ⟨hz, e1, he2⟩
  · have m1 : Mo h (h1.saw O 0 r.toInt64) := (mo_X9_scan N X h (xs (i + 1)) (xs (i + 2)) (xs (i + 3)) (xs (i + 4)) e1).tr (Mo.saw h1 O 0 _)
    have m2 := mo_X10_scan N M (h1.saw O 0 r.toInt64) (xs (i + 1)) (xs (i + 2)) (xs (i + 3)) (xs (i + 4)) e2
    have hb1 := hK _ _ _ hk
    have a1 := m1.2.1
    have a2 := m1.2.2.1
    have a3 := m2.2.1
    have a4 := m2.2.2.1
    refine lv_aload_n hx hb dL_law_364 rfl (lv_at hl 1 rfl) ?_
    refine lw_arg hx hb hX hbl hbA w.2.2.1 hi hL (kn := 1) (by decide) (by decide) (lv_at hl 0 rfl) (lv_at hl 4 rfl) dL_law_365 dL_law_366 dL_law_368 dL_law_369 dL_law_370 ?_
    refine lw_arg hx hb hX hbl hbA w.2.2.1 hi hL (kn := 2) (by decide) (by decide) (lv_at hl 0 rfl) (lv_at hl 4 rfl) dL_law_371 dL_law_372 dL_law_374 dL_law_375 dL_law_376 ?_
    refine lw_arg hx hb hX hbl hbA w.2.2.1 hi hL (kn := 3) (by decide) (by decide) (lv_at hl 0 rfl) (lv_at hl 4 rfl) dL_law_377 dL_law_378 dL_law_380 dL_law_381 dL_law_382 ?_
    refine lw_arg hx hb hX hbl hbA w.2.2.1 hi hL (kn := 4) (by decide) (by decide) (lv_at hl 0 rfl) (lv_at hl 4 rfl) dL_law_383 dL_law_384 dL_law_386 dL_law_387 dL_law_388 ?_
    refine lv_aload_n hx hb dL_law_389 rfl (lv_at hl 3 rfl) ?_
    refine jz_Hn (As := [.ref X, .int (xs (i + 1)), .int (xs (i + 2)), .int (xs (i + 3)), .int (xs (i + 4)), .ref O]) C hse w hc3 (hn_scan N X O h (xs (i + 1)) (xs (i + 2)) (xs (i + 3)) (xs (i + 4)) hkX hkO haO e1) m1 ⟨by omega, by omega⟩ ⟨tw_6_16, tw_6_14, tw_6_15, tw_1_0⟩ cdL_scan ⟨by decide, by decide⟩ hl.1 (by first | exact Nat.le_of_ble_eq_true rfl | simp [rf_cat, cat_i, cat_l, cat_r]) rfl dL_law_390 (fun H1 locs1 w1 => ?_)
    have hkM1 : (h1.saw O 0 r.toInt64).kd M = 13 := (m1.1 M (kd_lt w hkM (by decide))).trans hkM
    have hse1 : (h1.saw O 0 r.toInt64).se = se := m1.2.2.2.1.trans hse
    refine lv_istore (i := 5) (lv' := [(5, .int (0 : Int32)), (0, .ref b), (1, .ref X), (2, .ref M), (3, .ref O), (4, .int (nI i))]) hx hb dL_law_393 hl (by decide) rfl (fun ls hl => ?_)
    refine lv_aload_n hx hb dL_law_395 rfl (lv_at hl 3 rfl) ?_
    refine lw_arg hx hb hX hbl hbA w1.2.2.1 hi hL (kn := 1) (by decide) (by decide) (lv_at hl 1 rfl) (lv_at hl 5 rfl) dL_law_396 dL_law_397 dL_law_399 dL_law_400 dL_law_401 ?_
    refine lw_arg hx hb hX hbl hbA w1.2.2.1 hi hL (kn := 2) (by decide) (by decide) (lv_at hl 1 rfl) (lv_at hl 5 rfl) dL_law_402 dL_law_403 dL_law_405 dL_law_406 dL_law_407 ?_
    refine lw_arg hx hb hX hbl hbA w1.2.2.1 hi hL (kn := 3) (by decide) (by decide) (lv_at hl 1 rfl) (lv_at hl 5 rfl) dL_law_408 dL_law_409 dL_law_411 dL_law_412 dL_law_413 ?_
    refine lw_arg hx hb hX hbl hbA w1.2.2.1 hi hL (kn := 4) (by decide) (by decide) (lv_at hl 1 rfl) (lv_at hl 5 rfl) dL_law_414 dL_law_415 dL_law_417 dL_law_418 dL_law_419 ?_
    refine jz_Vi (As := [.int (xs (i + 1)), .int (xs (i + 2)), .int (xs (i + 3)), .int (xs (i + 4))]) C hse1 w1 (cc_X10_scan N M (h1.saw O 0 r.toInt64) (xs (i + 1)) (xs (i + 2)) (xs (i + 3)) (xs (i + 4)) hkM1 e2) m2 ⟨by omega, by omega⟩ hkM1 (by decide) rfl (fs := fs13 (h1.saw O 0 r.toInt64) M) rfl rfl ⟨tw_8_15, tw_8_12, tw_8_13, tw_8_14, tw_1_7⟩ cd_X10_scan ⟨by decide, by decide⟩ hl.1 (by first | exact Nat.le_of_ble_eq_true rfl | simp [rf_cat, cat_i, cat_l, cat_r]) rfl dL_law_420 (fun H2 locs2 w2 => ?_)
    have hkM2 : h2.kd M = 13 := kd_keep w1 m2 hkM1 (by decide)
    have hse2 : h2.se = se := m2.2.2.2.1.trans hse1
    refine lv_istore (i := 6) (lv' := [(6, .int r), (5, .int (0 : Int32)), (0, .ref b), (1, .ref X), (2, .ref M), (3, .ref O), (4, .int (nI i))]) hx hb dL_law_423 hl (by decide) rfl (fun ls hl => ?_)
    refine lv_aload_n hx hb dL_law_425 rfl (lv_at hl 4 rfl) ?_
    refine jz_Vi (As := []) (r := h2.gi 1300 M) C hse2 w2 (cc_X10_thrown N M h2 hkM2 rfl) (Mo.rf h2) ⟨by omega, by omega⟩ hkM2 (by decide) rfl (fs := fs13 h2 M) rfl rfl ⟨tw_7_129, tw_7_126, tw_7_127, tw_7_128, tw_1_7⟩ cd_X10_thrown ⟨by decide, by decide⟩ hl.1 (by first | exact Nat.le_of_ble_eq_true rfl | simp [rf_cat, cat_i, cat_l, cat_r]) rfl dL_law_426 (fun H3 locs3 w3 => ?_)
    refine lv_iload hx hb dL_law_429 (lv_at hl 1 rfl) ?_
    refine lv_icmp_eq (tgt := 436) hx hb dL_law_431 (by decide) (fun _ => ?_) (fun c9 => absurd t0 c9)
    refine lv_iload hx hb dL_law_436 (lv_at hl 1 rfl) ?_
    refine lv_if_ne (tgt := 453) hx hb dL_law_438 (by decide) (fun c9 => absurd rfl c9) (fun _ => ?_)
    have hkO1 : (h1.saw O 0 r.toInt64).kd O = 21 := kd_keep w m1 hkO (by decide)
    have hO1 : O < (h1.saw O 0 r.toInt64).nx := kd_lt w1 hkO1 (by decide)
    have hkO2 : h2.kd O = 21 := kd_keep w1 m2 hkO1 (by decide)
    have haO2 : h2.al O = 1 := (m2.2.2.2.2 O hO1).trans ((m1.2.2.2.2 O (kd_lt w hkO (by decide))).trans haO)
    have hv : h2.aw O 0 = r.toInt64 := by
      rw [(fo_X10_scan N M (h1.saw O 0 r.toInt64) (xs (i + 1)) (xs (i + 2)) (xs (i + 3)) (xs (i + 4)) e2).2.2.2.2.2.1 O hO1]
      show va_up h1.aw O (va_up (h1.aw O) 0 _) O 0 = _
      rw [va_up_self, va_up_self]
    refine lv_aload_n hx hb dL_law_441 rfl (lv_at hl 5 rfl) ?_
    refine lv_iconst (v := (0 : Int32)) hx hb dL_law_442 (by decide) ?_
    refine jz_lald C w3 hkO2 (by rw [haO2]; decide) dL_law_443 ?_
    refine lv_iload hx hb dL_law_444 (lv_at hl 0 rfl) ?_
    refine lv_i2l hx hb dL_law_446 rfl ?_
    refine W.lcmp hx hb dL_law_447 ?_
    refine lv_if_eq (tgt := 453) hx hb dL_law_448 (by decide) (fun _ => ?_) (fun c9 => absurd (show lg_cmp (h2.aw O (0 : Int32).toNatClampNeg) _ = 0 by rw [show (0 : Int32).toNatClampNeg = 0 from rfl, hv]; exact lg_self _) c9)
    refine lv_goto (tgt := 1150) hx hb dL_law_453 (by decide) ?_
    rw [show cells + ((h1.saw O 0 r.toInt64).nx - h.nx) + (h2.nx - (h1.saw O 0 r.toInt64).nx) + (h2.nx - h2.nx) = cells + (h2.nx - h.nx) by omega, show slots + ((h1.saw O 0 r.toInt64).su - h.su) + (h2.su - (h1.saw O 0 r.toInt64).su) + (h2.su - h2.su) = slots + (h2.su - h.su) by omega]
    exact kk _ _ _ _ _ _ hk w3 (lv_sub (l' := [(0, .ref b), (1, .ref X), (2, .ref M), (3, .ref O), (4, .int (nI i))]) hl [2, 3, 4, 5, 6] rfl)
  · have m1 := mo_xX9_scan N X h (xs (i + 1)) (xs (i + 2)) (xs (i + 3)) (xs (i + 4)) e1
    have a1 := m1.2.1
    have a2 := m1.2.2.1
    obtain ⟨h9, r9, g1, -, g2⟩ := he2 hz.nx (Nat.le_refl _)
    have hb1 := hK _ _ _ g2
    have a3 : hz.nx ≤ h9.nx := (mo_X10_scan N M (hz.thr hz.nx) (xs (i + 1)) (xs (i + 2)) (xs (i + 3)) (xs (i + 4)) g1).2.1
    have a4 : hz.su + 6 ≤ h9.su := (mo_X10_scan N M (hz.thr hz.nx) (xs (i + 1)) (xs (i + 2)) (xs (i + 3)) (xs (i + 4)) g1).2.2.1
    refine lv_aload_n hx hb dL_law_364 rfl (lv_at hl 1 rfl) ?_
    refine lw_arg hx hb hX hbl hbA w.2.2.1 hi hL (kn := 1) (by decide) (by decide) (lv_at hl 0 rfl) (lv_at hl 4 rfl) dL_law_365 dL_law_366 dL_law_368 dL_law_369 dL_law_370 ?_
    refine lw_arg hx hb hX hbl hbA w.2.2.1 hi hL (kn := 2) (by decide) (by decide) (lv_at hl 0 rfl) (lv_at hl 4 rfl) dL_law_371 dL_law_372 dL_law_374 dL_law_375 dL_law_376 ?_
    refine lw_arg hx hb hX hbl hbA w.2.2.1 hi hL (kn := 3) (by decide) (by decide) (lv_at hl 0 rfl) (lv_at hl 4 rfl) dL_law_377 dL_law_378 dL_law_380 dL_law_381 dL_law_382 ?_
    refine lw_arg hx hb hX hbl hbA w.2.2.1 hi hL (kn := 4) (by decide) (by decide) (lv_at hl 0 rfl) (lv_at hl 4 rfl) dL_law_383 dL_law_384 dL_law_386 dL_law_387 dL_law_388 ?_
    refine lv_aload_n hx hb dL_law_389 rfl (lv_at hl 3 rfl) ?_
    refine jz_Ht (As := [.ref X, .int (xs (i + 1)), .int (xs (i + 2)), .int (xs (i + 3)), .int (xs (i + 4)), .ref O]) C hse w hc3 (ht_scan_1 hl0 N X O h (xs (i + 1)) (xs (i + 2)) (xs (i + 3)) (xs (i + 4)) hkX e1) m1 ⟨by omega, by omega⟩ ⟨tw_6_16, tw_6_14, tw_6_15, tw_1_0⟩ cdL_scan ⟨by decide, by decide⟩ hl.1 (by first | exact Nat.le_of_ble_eq_true rfl | simp [rf_cat, cat_i, cat_l, cat_r]) rfl dL_law_390 (fun H1 locs1 n1 hn1 w1 => ?_)
    obtain ⟨h2, r, e2, t0, hk⟩ := he2 n1 hn1
    have m2 := mo_X10_scan N M (hz.thr n1) (xs (i + 1)) (xs (i + 2)) (xs (i + 3)) (xs (i + 4)) e2
    have hb2 := hK _ _ _ hk
    have a5 : n1 ≤ h2.nx := m2.2.1
    have a6 : hz.su + 6 ≤ h2.su := m2.2.2.1
    have q1 : (hz.thr n1).nx = n1 := rfl
    have q2 : (hz.thr n1).su = hz.su + 6 := rfl
    have hkM1 : (hz.thr n1).kd M = 13 := (m1.1 M (kd_lt w hkM (by decide))).trans hkM
    have hse1 : (hz.thr n1).se = se := m1.2.2.2.1.trans hse
    refine lv_istore (i := 5) (lv' := [(5, .int (1 : Int32)), (0, .ref b), (1, .ref X), (2, .ref M), (3, .ref O), (4, .int (nI i))]) hx hb dL_law_393 hl (by decide) rfl (fun ls hl => ?_)
    refine lv_aload_n hx hb dL_law_395 rfl (lv_at hl 3 rfl) ?_
    refine lw_arg hx hb hX hbl hbA w1.2.2.1 hi hL (kn := 1) (by decide) (by decide) (lv_at hl 1 rfl) (lv_at hl 5 rfl) dL_law_396 dL_law_397 dL_law_399 dL_law_400 dL_law_401 ?_
    refine lw_arg hx hb hX hbl hbA w1.2.2.1 hi hL (kn := 2) (by decide) (by decide) (lv_at hl 1 rfl) (lv_at hl 5 rfl) dL_law_402 dL_law_403 dL_law_405 dL_law_406 dL_law_407 ?_
    refine lw_arg hx hb hX hbl hbA w1.2.2.1 hi hL (kn := 3) (by decide) (by decide) (lv_at hl 1 rfl) (lv_at hl 5 rfl) dL_law_408 dL_law_409 dL_law_411 dL_law_412 dL_law_413 ?_
    refine lw_arg hx hb hX hbl hbA w1.2.2.1 hi hL (kn := 4) (by decide) (by decide) (lv_at hl 1 rfl) (lv_at hl 5 rfl) dL_law_414 dL_law_415 dL_law_417 dL_law_418 dL_law_419 ?_
    refine jz_Vi (As := [.int (xs (i + 1)), .int (xs (i + 2)), .int (xs (i + 3)), .int (xs (i + 4))]) C hse1 w1 (cc_X10_scan N M (hz.thr n1) (xs (i + 1)) (xs (i + 2)) (xs (i + 3)) (xs (i + 4)) hkM1 e2) m2 ⟨by omega, by omega⟩ hkM1 (by decide) rfl (fs := fs13 (hz.thr n1) M) rfl rfl ⟨tw_8_15, tw_8_12, tw_8_13, tw_8_14, tw_1_7⟩ cd_X10_scan ⟨by decide, by decide⟩ hl.1 (by first | exact Nat.le_of_ble_eq_true rfl | simp [rf_cat, cat_i, cat_l, cat_r]) rfl dL_law_420 (fun H2 locs2 w2 => ?_)
    have hkM2 : h2.kd M = 13 := kd_keep w1 m2 hkM1 (by decide)
    have hse2 : h2.se = se := m2.2.2.2.1.trans hse1
    refine lv_istore (i := 6) (lv' := [(6, .int r), (5, .int (1 : Int32)), (0, .ref b), (1, .ref X), (2, .ref M), (3, .ref O), (4, .int (nI i))]) hx hb dL_law_423 hl (by decide) rfl (fun ls hl => ?_)
    refine lv_aload_n hx hb dL_law_425 rfl (lv_at hl 4 rfl) ?_
    refine jz_Vi (As := []) (r := h2.gi 1300 M) C hse2 w2 (cc_X10_thrown N M h2 hkM2 rfl) (Mo.rf h2) ⟨by omega, by omega⟩ hkM2 (by decide) rfl (fs := fs13 h2 M) rfl rfl ⟨tw_7_129, tw_7_126, tw_7_127, tw_7_128, tw_1_7⟩ cd_X10_thrown ⟨by decide, by decide⟩ hl.1 (by first | exact Nat.le_of_ble_eq_true rfl | simp [rf_cat, cat_i, cat_l, cat_r]) rfl dL_law_426 (fun H3 locs3 w3 => ?_)
    refine lv_iload hx hb dL_law_429 (lv_at hl 1 rfl) ?_
    refine lv_icmp_eq (tgt := 436) hx hb dL_law_431 (by decide) (fun _ => ?_) (fun c9 => absurd t0 c9)
    refine lv_iload hx hb dL_law_436 (lv_at hl 1 rfl) ?_
    refine lv_if_ne (tgt := 453) hx hb dL_law_438 (by decide) (fun _ => ?_) (fun c9 => absurd c9 (by decide))
    refine lv_goto (tgt := 1150) hx hb dL_law_453 (by decide) ?_
    rw [show cells + (hz.nx + 1 - h.nx) + (h2.nx - (hz.thr n1).nx) + (h2.nx - h2.nx) = cells + (hz.nx + 1 - h.nx + (h2.nx - n1)) by omega, show slots + (hz.su + 6 - h.su) + (h2.su - (hz.thr n1).su) + (h2.su - h2.su) = slots + (h2.su - h.su) by omega]
    exact kk _ _ _ _ _ _ hk w3 (lv_sub (l' := [(0, .ref b), (1, .ref X), (2, .ref M), (3, .ref O), (4, .int (nI i))]) hl [2, 3, 4, 5, 6] rfl)
  · have m1 := mo_xX9_scan N X h (xs (i + 1)) (xs (i + 2)) (xs (i + 3)) (xs (i + 4)) e1
    have a1 := m1.2.1
    have a2 := m1.2.2.1
    obtain ⟨h9, r9, g1, -, g2⟩ := he2 hz.nx (Nat.le_refl _)
    have hb1 := hK _ _ _ g2
    have a3 : hz.nx ≤ h9.nx := (mo_X10_scan N M (hz.thr hz.nx) (xs (i + 1)) (xs (i + 2)) (xs (i + 3)) (xs (i + 4)) g1).2.1
    have a4 : hz.su + 6 ≤ h9.su := (mo_X10_scan N M (hz.thr hz.nx) (xs (i + 1)) (xs (i + 2)) (xs (i + 3)) (xs (i + 4)) g1).2.2.1
    refine lv_aload_n hx hb dL_law_364 rfl (lv_at hl 1 rfl) ?_
    refine lw_arg hx hb hX hbl hbA w.2.2.1 hi hL (kn := 1) (by decide) (by decide) (lv_at hl 0 rfl) (lv_at hl 4 rfl) dL_law_365 dL_law_366 dL_law_368 dL_law_369 dL_law_370 ?_
    refine lw_arg hx hb hX hbl hbA w.2.2.1 hi hL (kn := 2) (by decide) (by decide) (lv_at hl 0 rfl) (lv_at hl 4 rfl) dL_law_371 dL_law_372 dL_law_374 dL_law_375 dL_law_376 ?_
    refine lw_arg hx hb hX hbl hbA w.2.2.1 hi hL (kn := 3) (by decide) (by decide) (lv_at hl 0 rfl) (lv_at hl 4 rfl) dL_law_377 dL_law_378 dL_law_380 dL_law_381 dL_law_382 ?_
    refine lw_arg hx hb hX hbl hbA w.2.2.1 hi hL (kn := 4) (by decide) (by decide) (lv_at hl 0 rfl) (lv_at hl 4 rfl) dL_law_383 dL_law_384 dL_law_386 dL_law_387 dL_law_388 ?_
    refine lv_aload_n hx hb dL_law_389 rfl (lv_at hl 3 rfl) ?_
    refine jz_Ht (As := [.ref X, .int (xs (i + 1)), .int (xs (i + 2)), .int (xs (i + 3)), .int (xs (i + 4)), .ref O]) C hse w hc3 (ht_scan_2 hl0 N X O h (xs (i + 1)) (xs (i + 2)) (xs (i + 3)) (xs (i + 4)) hkX e1) m1 ⟨by omega, by omega⟩ ⟨tw_6_16, tw_6_14, tw_6_15, tw_1_0⟩ cdL_scan ⟨by decide, by decide⟩ hl.1 (by first | exact Nat.le_of_ble_eq_true rfl | simp [rf_cat, cat_i, cat_l, cat_r]) rfl dL_law_390 (fun H1 locs1 n1 hn1 w1 => ?_)
    obtain ⟨h2, r, e2, t0, hk⟩ := he2 n1 hn1
    have m2 := mo_X10_scan N M (hz.thr n1) (xs (i + 1)) (xs (i + 2)) (xs (i + 3)) (xs (i + 4)) e2
    have hb2 := hK _ _ _ hk
    have a5 : n1 ≤ h2.nx := m2.2.1
    have a6 : hz.su + 6 ≤ h2.su := m2.2.2.1
    have q1 : (hz.thr n1).nx = n1 := rfl
    have q2 : (hz.thr n1).su = hz.su + 6 := rfl
    have hkM1 : (hz.thr n1).kd M = 13 := (m1.1 M (kd_lt w hkM (by decide))).trans hkM
    have hse1 : (hz.thr n1).se = se := m1.2.2.2.1.trans hse
    refine lv_istore (i := 5) (lv' := [(5, .int (2 : Int32)), (0, .ref b), (1, .ref X), (2, .ref M), (3, .ref O), (4, .int (nI i))]) hx hb dL_law_393 hl (by decide) rfl (fun ls hl => ?_)
    refine lv_aload_n hx hb dL_law_395 rfl (lv_at hl 3 rfl) ?_
    refine lw_arg hx hb hX hbl hbA w1.2.2.1 hi hL (kn := 1) (by decide) (by decide) (lv_at hl 1 rfl) (lv_at hl 5 rfl) dL_law_396 dL_law_397 dL_law_399 dL_law_400 dL_law_401 ?_
    refine lw_arg hx hb hX hbl hbA w1.2.2.1 hi hL (kn := 2) (by decide) (by decide) (lv_at hl 1 rfl) (lv_at hl 5 rfl) dL_law_402 dL_law_403 dL_law_405 dL_law_406 dL_law_407 ?_
    refine lw_arg hx hb hX hbl hbA w1.2.2.1 hi hL (kn := 3) (by decide) (by decide) (lv_at hl 1 rfl) (lv_at hl 5 rfl) dL_law_408 dL_law_409 dL_law_411 dL_law_412 dL_law_413 ?_
    refine lw_arg hx hb hX hbl hbA w1.2.2.1 hi hL (kn := 4) (by decide) (by decide) (lv_at hl 1 rfl) (lv_at hl 5 rfl) dL_law_414 dL_law_415 dL_law_417 dL_law_418 dL_law_419 ?_
    refine jz_Vi (As := [.int (xs (i + 1)), .int (xs (i + 2)), .int (xs (i + 3)), .int (xs (i + 4))]) C hse1 w1 (cc_X10_scan N M (hz.thr n1) (xs (i + 1)) (xs (i + 2)) (xs (i + 3)) (xs (i + 4)) hkM1 e2) m2 ⟨by omega, by omega⟩ hkM1 (by decide) rfl (fs := fs13 (hz.thr n1) M) rfl rfl ⟨tw_8_15, tw_8_12, tw_8_13, tw_8_14, tw_1_7⟩ cd_X10_scan ⟨by decide, by decide⟩ hl.1 (by first | exact Nat.le_of_ble_eq_true rfl | simp [rf_cat, cat_i, cat_l, cat_r]) rfl dL_law_420 (fun H2 locs2 w2 => ?_)
    have hkM2 : h2.kd M = 13 := kd_keep w1 m2 hkM1 (by decide)
    have hse2 : h2.se = se := m2.2.2.2.1.trans hse1
    refine lv_istore (i := 6) (lv' := [(6, .int r), (5, .int (2 : Int32)), (0, .ref b), (1, .ref X), (2, .ref M), (3, .ref O), (4, .int (nI i))]) hx hb dL_law_423 hl (by decide) rfl (fun ls hl => ?_)
    refine lv_aload_n hx hb dL_law_425 rfl (lv_at hl 4 rfl) ?_
    refine jz_Vi (As := []) (r := h2.gi 1300 M) C hse2 w2 (cc_X10_thrown N M h2 hkM2 rfl) (Mo.rf h2) ⟨by omega, by omega⟩ hkM2 (by decide) rfl (fs := fs13 h2 M) rfl rfl ⟨tw_7_129, tw_7_126, tw_7_127, tw_7_128, tw_1_7⟩ cd_X10_thrown ⟨by decide, by decide⟩ hl.1 (by first | exact Nat.le_of_ble_eq_true rfl | simp [rf_cat, cat_i, cat_l, cat_r]) rfl dL_law_426 (fun H3 locs3 w3 => ?_)
    refine lv_iload hx hb dL_law_429 (lv_at hl 1 rfl) ?_
    refine lv_icmp_eq (tgt := 436) hx hb dL_law_431 (by decide) (fun _ => ?_) (fun c9 => absurd t0 c9)
    refine lv_iload hx hb dL_law_436 (lv_at hl 1 rfl) ?_
    refine lv_if_ne (tgt := 453) hx hb dL_law_438 (by decide) (fun _ => ?_) (fun c9 => absurd c9 (by decide))
    refine lv_goto (tgt := 1150) hx hb dL_law_453 (by decide) ?_
    rw [show cells + (hz.nx + 1 - h.nx) + (h2.nx - (hz.thr n1).nx) + (h2.nx - h2.nx) = cells + (hz.nx + 1 - h.nx + (h2.nx - n1)) by omega, show slots + (hz.su + 6 - h.su) + (h2.su - (hz.thr n1).su) + (h2.su - h2.su) = slots + (h2.su - h.su) by omega]
    exact kk _ _ _ _ _ _ hk w3 (lv_sub (l' := [(0, .ref b), (1, .ref X), (2, .ref M), (3, .ref O), (4, .int (nI i))]) hl [2, 3, 4, 5, 6] rfl)
set_option maxRecDepth 100000 in
set_option maxHeartbeats 4000000 in
theorem lc_rowKey (E0 : Lc p l s m meth c D cs A se b L xs) (hi : i + 5 ≤ L) (hk0 : Lk h se X M O) (hK : Kb K) (kk : Kk p l e s m below meth c Q D cs A b i X M O K) (hS : S_rowKey N X M O h (xs (i + 1)) (fun h1 c1 s1 => K h1 (cells + c1) (slots + s1))) (w : Wz D cs A s h H locs) (hl : lv_has ls 8 [(0, .ref b), (1, .ref X), (2, .ref M), (3, .ref O), (4, .int (nI i))]) : W p l e RL1 s m #[Value.ref b] below meth c H locs cells slots Q (F0 m 456 ls []) := by
  obtain ⟨C, hc3, hl0, hX, hbl, hbA, hL⟩ := E0
  obtain ⟨hkX, hkM, hkO, haO, hse⟩ := hk0
  obtain ⟨hx, hb, hml, hown, hts, -⟩ := id C
  rcases hS with ⟨h1, h2, r, e1, e2, t0, hk⟩ | ⟨hz, e1, he2⟩
  · have m1 : Mo h (h1.saw O 0 r.toInt64) := (mo_X9_rowKey N X h (xs (i + 1)) e1).tr (Mo.saw h1 O 0 _)
    have m2 := mo_X10_rowKey N M (h1.saw O 0 r.toInt64) (xs (i + 1)) e2
    have hb1 := hK _ _ _ hk
    have a1 := m1.2.1
    have a2 := m1.2.2.1
    have a3 := m2.2.1
    have a4 := m2.2.2.1
    refine lv_aload_n hx hb dL_law_456 rfl (lv_at hl 1 rfl) ?_
    refine lw_arg hx hb hX hbl hbA w.2.2.1 hi hL (kn := 1) (by decide) (by decide) (lv_at hl 0 rfl) (lv_at hl 4 rfl) dL_law_457 dL_law_458 dL_law_460 dL_law_461 dL_law_462 ?_
    refine lv_aload_n hx hb dL_law_463 rfl (lv_at hl 3 rfl) ?_
    refine jz_Hn (As := [.ref X, .int (xs (i + 1)), .ref O]) C hse w hc3 (hn_rowKey N X O h (xs (i + 1)) hkX hkO haO e1) m1 ⟨by omega, by omega⟩ ⟨tw_6_28, tw_6_26, tw_6_27, tw_1_0⟩ cdL_rowKey ⟨by decide, by decide⟩ hl.1 (by first | exact Nat.le_of_ble_eq_true rfl | simp [rf_cat, cat_i, cat_l, cat_r]) rfl dL_law_464 (fun H1 locs1 w1 => ?_)
    have hkM1 : (h1.saw O 0 r.toInt64).kd M = 13 := (m1.1 M (kd_lt w hkM (by decide))).trans hkM
    have hse1 : (h1.saw O 0 r.toInt64).se = se := m1.2.2.2.1.trans hse
    refine lv_istore (i := 5) (lv' := [(5, .int (0 : Int32)), (0, .ref b), (1, .ref X), (2, .ref M), (3, .ref O), (4, .int (nI i))]) hx hb dL_law_467 hl (by decide) rfl (fun ls hl => ?_)
    refine lv_aload_n hx hb dL_law_469 rfl (lv_at hl 3 rfl) ?_
    refine lw_arg hx hb hX hbl hbA w1.2.2.1 hi hL (kn := 1) (by decide) (by decide) (lv_at hl 1 rfl) (lv_at hl 5 rfl) dL_law_470 dL_law_471 dL_law_473 dL_law_474 dL_law_475 ?_
    refine jz_Vi (As := [.int (xs (i + 1))]) C hse1 w1 (cc_X10_rowKey N M (h1.saw O 0 r.toInt64) (xs (i + 1)) hkM1 e2) m2 ⟨by omega, by omega⟩ hkM1 (by decide) rfl (fs := fs13 (h1.saw O 0 r.toInt64) M) rfl rfl ⟨tw_8_19, tw_8_16, tw_8_17, tw_8_18, tw_1_7⟩ cd_X10_rowKey ⟨by decide, by decide⟩ hl.1 (by first | exact Nat.le_of_ble_eq_true rfl | simp [rf_cat, cat_i, cat_l, cat_r]) rfl dL_law_476 (fun H2 locs2 w2 => ?_)
    have hkM2 : h2.kd M = 13 := kd_keep w1 m2 hkM1 (by decide)
    have hse2 : h2.se = se := m2.2.2.2.1.trans hse1
    refine lv_istore (i := 6) (lv' := [(6, .int r), (5, .int (0 : Int32)), (0, .ref b), (1, .ref X), (2, .ref M), (3, .ref O), (4, .int (nI i))]) hx hb dL_law_479 hl (by decide) rfl (fun ls hl => ?_)
    refine lv_aload_n hx hb dL_law_481 rfl (lv_at hl 4 rfl) ?_
    refine jz_Vi (As := []) (r := h2.gi 1300 M) C hse2 w2 (cc_X10_thrown N M h2 hkM2 rfl) (Mo.rf h2) ⟨by omega, by omega⟩ hkM2 (by decide) rfl (fs := fs13 h2 M) rfl rfl ⟨tw_7_129, tw_7_126, tw_7_127, tw_7_128, tw_1_7⟩ cd_X10_thrown ⟨by decide, by decide⟩ hl.1 (by first | exact Nat.le_of_ble_eq_true rfl | simp [rf_cat, cat_i, cat_l, cat_r]) rfl dL_law_482 (fun H3 locs3 w3 => ?_)
    refine lv_iload hx hb dL_law_485 (lv_at hl 1 rfl) ?_
    refine lv_icmp_eq (tgt := 492) hx hb dL_law_487 (by decide) (fun _ => ?_) (fun c9 => absurd t0 c9)
    refine lv_iload hx hb dL_law_492 (lv_at hl 1 rfl) ?_
    refine lv_if_ne (tgt := 509) hx hb dL_law_494 (by decide) (fun c9 => absurd rfl c9) (fun _ => ?_)
    have hkO1 : (h1.saw O 0 r.toInt64).kd O = 21 := kd_keep w m1 hkO (by decide)
    have hO1 : O < (h1.saw O 0 r.toInt64).nx := kd_lt w1 hkO1 (by decide)
    have hkO2 : h2.kd O = 21 := kd_keep w1 m2 hkO1 (by decide)
    have haO2 : h2.al O = 1 := (m2.2.2.2.2 O hO1).trans ((m1.2.2.2.2 O (kd_lt w hkO (by decide))).trans haO)
    have hv : h2.aw O 0 = r.toInt64 := by
      rw [(fo_X10_rowKey N M (h1.saw O 0 r.toInt64) (xs (i + 1)) e2).2.2.2.2.2.1 O hO1]
      show va_up h1.aw O (va_up (h1.aw O) 0 _) O 0 = _
      rw [va_up_self, va_up_self]
    refine lv_aload_n hx hb dL_law_497 rfl (lv_at hl 5 rfl) ?_
    refine lv_iconst (v := (0 : Int32)) hx hb dL_law_498 (by decide) ?_
    refine jz_lald C w3 hkO2 (by rw [haO2]; decide) dL_law_499 ?_
    refine lv_iload hx hb dL_law_500 (lv_at hl 0 rfl) ?_
    refine lv_i2l hx hb dL_law_502 rfl ?_
    refine W.lcmp hx hb dL_law_503 ?_
    refine lv_if_eq (tgt := 509) hx hb dL_law_504 (by decide) (fun _ => ?_) (fun c9 => absurd (show lg_cmp (h2.aw O (0 : Int32).toNatClampNeg) _ = 0 by rw [show (0 : Int32).toNatClampNeg = 0 from rfl, hv]; exact lg_self _) c9)
    refine lv_goto (tgt := 1150) hx hb dL_law_509 (by decide) ?_
    rw [show cells + ((h1.saw O 0 r.toInt64).nx - h.nx) + (h2.nx - (h1.saw O 0 r.toInt64).nx) + (h2.nx - h2.nx) = cells + (h2.nx - h.nx) by omega, show slots + ((h1.saw O 0 r.toInt64).su - h.su) + (h2.su - (h1.saw O 0 r.toInt64).su) + (h2.su - h2.su) = slots + (h2.su - h.su) by omega]
    exact kk _ _ _ _ _ _ hk w3 (lv_sub (l' := [(0, .ref b), (1, .ref X), (2, .ref M), (3, .ref O), (4, .int (nI i))]) hl [2, 3, 4, 5, 6] rfl)
  · have m1 := mo_xX9_rowKey N X h (xs (i + 1)) e1
    have a1 := m1.2.1
    have a2 := m1.2.2.1
    obtain ⟨h9, r9, g1, -, g2⟩ := he2 hz.nx (Nat.le_refl _)
    have hb1 := hK _ _ _ g2
    have a3 : hz.nx ≤ h9.nx := (mo_X10_rowKey N M (hz.thr hz.nx) (xs (i + 1)) g1).2.1
    have a4 : hz.su + 6 ≤ h9.su := (mo_X10_rowKey N M (hz.thr hz.nx) (xs (i + 1)) g1).2.2.1
    refine lv_aload_n hx hb dL_law_456 rfl (lv_at hl 1 rfl) ?_
    refine lw_arg hx hb hX hbl hbA w.2.2.1 hi hL (kn := 1) (by decide) (by decide) (lv_at hl 0 rfl) (lv_at hl 4 rfl) dL_law_457 dL_law_458 dL_law_460 dL_law_461 dL_law_462 ?_
    refine lv_aload_n hx hb dL_law_463 rfl (lv_at hl 3 rfl) ?_
    refine jz_Ht (As := [.ref X, .int (xs (i + 1)), .ref O]) C hse w hc3 (ht_rowKey_1 hl0 N X O h (xs (i + 1)) hkX e1) m1 ⟨by omega, by omega⟩ ⟨tw_6_28, tw_6_26, tw_6_27, tw_1_0⟩ cdL_rowKey ⟨by decide, by decide⟩ hl.1 (by first | exact Nat.le_of_ble_eq_true rfl | simp [rf_cat, cat_i, cat_l, cat_r]) rfl dL_law_464 (fun H1 locs1 n1 hn1 w1 => ?_)
    obtain ⟨h2, r, e2, t0, hk⟩ := he2 n1 hn1
    have m2 := mo_X10_rowKey N M (hz.thr n1) (xs (i + 1)) e2
    have hb2 := hK _ _ _ hk
    have a5 : n1 ≤ h2.nx := m2.2.1
    have a6 : hz.su + 6 ≤ h2.su := m2.2.2.1
    have q1 : (hz.thr n1).nx = n1 := rfl
    have q2 : (hz.thr n1).su = hz.su + 6 := rfl
    have hkM1 : (hz.thr n1).kd M = 13 := (m1.1 M (kd_lt w hkM (by decide))).trans hkM
    have hse1 : (hz.thr n1).se = se := m1.2.2.2.1.trans hse
    refine lv_istore (i := 5) (lv' := [(5, .int (1 : Int32)), (0, .ref b), (1, .ref X), (2, .ref M), (3, .ref O), (4, .int (nI i))]) hx hb dL_law_467 hl (by decide) rfl (fun ls hl => ?_)
    refine lv_aload_n hx hb dL_law_469 rfl (lv_at hl 3 rfl) ?_
    refine lw_arg hx hb hX hbl hbA w1.2.2.1 hi hL (kn := 1) (by decide) (by decide) (lv_at hl 1 rfl) (lv_at hl 5 rfl) dL_law_470 dL_law_471 dL_law_473 dL_law_474 dL_law_475 ?_
    refine jz_Vi (As := [.int (xs (i + 1))]) C hse1 w1 (cc_X10_rowKey N M (hz.thr n1) (xs (i + 1)) hkM1 e2) m2 ⟨by omega, by omega⟩ hkM1 (by decide) rfl (fs := fs13 (hz.thr n1) M) rfl rfl ⟨tw_8_19, tw_8_16, tw_8_17, tw_8_18, tw_1_7⟩ cd_X10_rowKey ⟨by decide, by decide⟩ hl.1 (by first | exact Nat.le_of_ble_eq_true rfl | simp [rf_cat, cat_i, cat_l, cat_r]) rfl dL_law_476 (fun H2 locs2 w2 => ?_)
    have hkM2 : h2.kd M = 13 := kd_keep w1 m2 hkM1 (by decide)
    have hse2 : h2.se = se := m2.2.2.2.1.trans hse1
    refine lv_istore (i := 6) (lv' := [(6, .int r), (5, .int (1 : Int32)), (0, .ref b), (1, .ref X), (2, .ref M), (3, .ref O), (4, .int (nI i))]) hx hb dL_law_479 hl (by decide) rfl (fun ls hl => ?_)
    refine lv_aload_n hx hb dL_law_481 rfl (lv_at hl 4 rfl) ?_
    refine jz_Vi (As := []) (r := h2.gi 1300 M) C hse2 w2 (cc_X10_thrown N M h2 hkM2 rfl) (Mo.rf h2) ⟨by omega, by omega⟩ hkM2 (by decide) rfl (fs := fs13 h2 M) rfl rfl ⟨tw_7_129, tw_7_126, tw_7_127, tw_7_128, tw_1_7⟩ cd_X10_thrown ⟨by decide, by decide⟩ hl.1 (by first | exact Nat.le_of_ble_eq_true rfl | simp [rf_cat, cat_i, cat_l, cat_r]) rfl dL_law_482 (fun H3 locs3 w3 => ?_)
    refine lv_iload hx hb dL_law_485 (lv_at hl 1 rfl) ?_
    refine lv_icmp_eq (tgt := 492) hx hb dL_law_487 (by decide) (fun _ => ?_) (fun c9 => absurd t0 c9)
    refine lv_iload hx hb dL_law_492 (lv_at hl 1 rfl) ?_
    refine lv_if_ne (tgt := 509) hx hb dL_law_494 (by decide) (fun _ => ?_) (fun c9 => absurd c9 (by decide))
    refine lv_goto (tgt := 1150) hx hb dL_law_509 (by decide) ?_
    rw [show cells + (hz.nx + 1 - h.nx) + (h2.nx - (hz.thr n1).nx) + (h2.nx - h2.nx) = cells + (hz.nx + 1 - h.nx + (h2.nx - n1)) by omega, show slots + (hz.su + 6 - h.su) + (h2.su - (hz.thr n1).su) + (h2.su - h2.su) = slots + (h2.su - h.su) by omega]
    exact kk _ _ _ _ _ _ hk w3 (lv_sub (l' := [(0, .ref b), (1, .ref X), (2, .ref M), (3, .ref O), (4, .int (nI i))]) hl [2, 3, 4, 5, 6] rfl)
set_option maxRecDepth 100000 in
set_option maxHeartbeats 4000000 in
theorem lc_rowValue (E0 : Lc p l s m meth c D cs A se b L xs) (hi : i + 5 ≤ L) (hk0 : Lk h se X M O) (hK : Kb K) (kk : Kk p l e s m below meth c Q D cs A b i X M O K) (hS : S_rowValue N X M O h (xs (i + 1)) (fun h1 c1 s1 => K h1 (cells + c1) (slots + s1))) (w : Wz D cs A s h H locs) (hl : lv_has ls 8 [(0, .ref b), (1, .ref X), (2, .ref M), (3, .ref O), (4, .int (nI i))]) : W p l e RL1 s m #[Value.ref b] below meth c H locs cells slots Q (F0 m 512 ls []) := by
  obtain ⟨C, hc3, hl0, hX, hbl, hbA, hL⟩ := E0
  obtain ⟨hkX, hkM, hkO, haO, hse⟩ := hk0
  obtain ⟨hx, hb, hml, hown, hts, -⟩ := id C
  rcases hS with ⟨h1, h2, r, e1, e2, t0, hk⟩ | ⟨hz, e1, he2⟩
  · have m1 : Mo h (h1.saw O 0 r) := (mo_X9_rowValue N X h (xs (i + 1)) e1).tr (Mo.saw h1 O 0 _)
    have m2 := mo_X10_rowValue N M (h1.saw O 0 r) (xs (i + 1)) e2
    have hb1 := hK _ _ _ hk
    have a1 := m1.2.1
    have a2 := m1.2.2.1
    have a3 := m2.2.1
    have a4 := m2.2.2.1
    refine lv_aload_n hx hb dL_law_512 rfl (lv_at hl 1 rfl) ?_
    refine lw_arg hx hb hX hbl hbA w.2.2.1 hi hL (kn := 1) (by decide) (by decide) (lv_at hl 0 rfl) (lv_at hl 4 rfl) dL_law_513 dL_law_514 dL_law_516 dL_law_517 dL_law_518 ?_
    refine lv_aload_n hx hb dL_law_519 rfl (lv_at hl 3 rfl) ?_
    refine jz_Hn (As := [.ref X, .int (xs (i + 1)), .ref O]) C hse w hc3 (hn_rowValue N X O h (xs (i + 1)) hkX hkO haO e1) m1 ⟨by omega, by omega⟩ ⟨tw_6_53, tw_6_51, tw_6_52, tw_1_0⟩ cdL_rowValue ⟨by decide, by decide⟩ hl.1 (by first | exact Nat.le_of_ble_eq_true rfl | simp [rf_cat, cat_i, cat_l, cat_r]) rfl dL_law_520 (fun H1 locs1 w1 => ?_)
    have hkM1 : (h1.saw O 0 r).kd M = 13 := (m1.1 M (kd_lt w hkM (by decide))).trans hkM
    have hse1 : (h1.saw O 0 r).se = se := m1.2.2.2.1.trans hse
    refine lv_istore (i := 5) (lv' := [(5, .int (0 : Int32)), (0, .ref b), (1, .ref X), (2, .ref M), (3, .ref O), (4, .int (nI i))]) hx hb dL_law_523 hl (by decide) rfl (fun ls hl => ?_)
    refine lv_aload_n hx hb dL_law_525 rfl (lv_at hl 3 rfl) ?_
    refine lw_arg hx hb hX hbl hbA w1.2.2.1 hi hL (kn := 1) (by decide) (by decide) (lv_at hl 1 rfl) (lv_at hl 5 rfl) dL_law_526 dL_law_527 dL_law_529 dL_law_530 dL_law_531 ?_
    refine jz_Vl (As := [.int (xs (i + 1))]) C hse1 w1 (cc_X10_rowValue N M (h1.saw O 0 r) (xs (i + 1)) hkM1 e2) m2 ⟨by omega, by omega⟩ hkM1 (by decide) rfl (fs := fs13 (h1.saw O 0 r) M) rfl rfl ⟨tw_8_27, tw_8_24, tw_8_25, tw_8_26, tw_1_7⟩ cd_X10_rowValue ⟨by decide, by decide⟩ hl.1 (by first | exact Nat.le_of_ble_eq_true rfl | simp [rf_cat, cat_i, cat_l, cat_r]) rfl dL_law_532 (fun H2 locs2 w2 => ?_)
    have hkM2 : h2.kd M = 13 := kd_keep w1 m2 hkM1 (by decide)
    have hse2 : h2.se = se := m2.2.2.2.1.trans hse1
    refine lv_lstore (i := 6) (lv' := [(6, .long r), (5, .int (0 : Int32)), (0, .ref b), (1, .ref X), (2, .ref M), (3, .ref O), (4, .int (nI i))]) hx hb dL_law_535 hl (by decide) rfl (fun ls hl => ?_)
    refine lv_aload_n hx hb dL_law_537 rfl (lv_at hl 4 rfl) ?_
    refine jz_Vi (As := []) (r := h2.gi 1300 M) C hse2 w2 (cc_X10_thrown N M h2 hkM2 rfl) (Mo.rf h2) ⟨by omega, by omega⟩ hkM2 (by decide) rfl (fs := fs13 h2 M) rfl rfl ⟨tw_7_129, tw_7_126, tw_7_127, tw_7_128, tw_1_7⟩ cd_X10_thrown ⟨by decide, by decide⟩ hl.1 (by first | exact Nat.le_of_ble_eq_true rfl | simp [rf_cat, cat_i, cat_l, cat_r]) rfl dL_law_538 (fun H3 locs3 w3 => ?_)
    refine lv_iload hx hb dL_law_541 (lv_at hl 1 rfl) ?_
    refine lv_icmp_eq (tgt := 548) hx hb dL_law_543 (by decide) (fun _ => ?_) (fun c9 => absurd t0 c9)
    refine lv_iload hx hb dL_law_548 (lv_at hl 1 rfl) ?_
    refine lv_if_ne (tgt := 564) hx hb dL_law_550 (by decide) (fun c9 => absurd rfl c9) (fun _ => ?_)
    have hkO1 : (h1.saw O 0 r).kd O = 21 := kd_keep w m1 hkO (by decide)
    have hO1 : O < (h1.saw O 0 r).nx := kd_lt w1 hkO1 (by decide)
    have hkO2 : h2.kd O = 21 := kd_keep w1 m2 hkO1 (by decide)
    have haO2 : h2.al O = 1 := (m2.2.2.2.2 O hO1).trans ((m1.2.2.2.2 O (kd_lt w hkO (by decide))).trans haO)
    have hv : h2.aw O 0 = r := by
      rw [(fo_X10_rowValue N M (h1.saw O 0 r) (xs (i + 1)) e2).2.2.2.2.2.1 O hO1]
      show va_up h1.aw O (va_up (h1.aw O) 0 _) O 0 = _
      rw [va_up_self, va_up_self]
    refine lv_aload_n hx hb dL_law_553 rfl (lv_at hl 5 rfl) ?_
    refine lv_iconst (v := (0 : Int32)) hx hb dL_law_554 (by decide) ?_
    refine jz_lald C w3 hkO2 (by rw [haO2]; decide) dL_law_555 ?_
    refine lv_lload hx hb dL_law_556 (lv_at hl 0 rfl) ?_
    refine W.lcmp hx hb dL_law_558 ?_
    refine lv_if_eq (tgt := 564) hx hb dL_law_559 (by decide) (fun _ => ?_) (fun c9 => absurd (show lg_cmp (h2.aw O (0 : Int32).toNatClampNeg) _ = 0 by rw [show (0 : Int32).toNatClampNeg = 0 from rfl, hv]; exact lg_self _) c9)
    refine lv_goto (tgt := 1150) hx hb dL_law_564 (by decide) ?_
    rw [show cells + ((h1.saw O 0 r).nx - h.nx) + (h2.nx - (h1.saw O 0 r).nx) + (h2.nx - h2.nx) = cells + (h2.nx - h.nx) by omega, show slots + ((h1.saw O 0 r).su - h.su) + (h2.su - (h1.saw O 0 r).su) + (h2.su - h2.su) = slots + (h2.su - h.su) by omega]
    exact kk _ _ _ _ _ _ hk w3 (lv_sub (l' := [(0, .ref b), (1, .ref X), (2, .ref M), (3, .ref O), (4, .int (nI i))]) hl [2, 3, 4, 5, 6] rfl)
  · have m1 := mo_xX9_rowValue N X h (xs (i + 1)) e1
    have a1 := m1.2.1
    have a2 := m1.2.2.1
    obtain ⟨h9, r9, g1, -, g2⟩ := he2 hz.nx (Nat.le_refl _)
    have hb1 := hK _ _ _ g2
    have a3 : hz.nx ≤ h9.nx := (mo_X10_rowValue N M (hz.thr hz.nx) (xs (i + 1)) g1).2.1
    have a4 : hz.su + 6 ≤ h9.su := (mo_X10_rowValue N M (hz.thr hz.nx) (xs (i + 1)) g1).2.2.1
    refine lv_aload_n hx hb dL_law_512 rfl (lv_at hl 1 rfl) ?_
    refine lw_arg hx hb hX hbl hbA w.2.2.1 hi hL (kn := 1) (by decide) (by decide) (lv_at hl 0 rfl) (lv_at hl 4 rfl) dL_law_513 dL_law_514 dL_law_516 dL_law_517 dL_law_518 ?_
    refine lv_aload_n hx hb dL_law_519 rfl (lv_at hl 3 rfl) ?_
    refine jz_Ht (As := [.ref X, .int (xs (i + 1)), .ref O]) C hse w hc3 (ht_rowValue_1 hl0 N X O h (xs (i + 1)) hkX e1) m1 ⟨by omega, by omega⟩ ⟨tw_6_53, tw_6_51, tw_6_52, tw_1_0⟩ cdL_rowValue ⟨by decide, by decide⟩ hl.1 (by first | exact Nat.le_of_ble_eq_true rfl | simp [rf_cat, cat_i, cat_l, cat_r]) rfl dL_law_520 (fun H1 locs1 n1 hn1 w1 => ?_)
    obtain ⟨h2, r, e2, t0, hk⟩ := he2 n1 hn1
    have m2 := mo_X10_rowValue N M (hz.thr n1) (xs (i + 1)) e2
    have hb2 := hK _ _ _ hk
    have a5 : n1 ≤ h2.nx := m2.2.1
    have a6 : hz.su + 6 ≤ h2.su := m2.2.2.1
    have q1 : (hz.thr n1).nx = n1 := rfl
    have q2 : (hz.thr n1).su = hz.su + 6 := rfl
    have hkM1 : (hz.thr n1).kd M = 13 := (m1.1 M (kd_lt w hkM (by decide))).trans hkM
    have hse1 : (hz.thr n1).se = se := m1.2.2.2.1.trans hse
    refine lv_istore (i := 5) (lv' := [(5, .int (1 : Int32)), (0, .ref b), (1, .ref X), (2, .ref M), (3, .ref O), (4, .int (nI i))]) hx hb dL_law_523 hl (by decide) rfl (fun ls hl => ?_)
    refine lv_aload_n hx hb dL_law_525 rfl (lv_at hl 3 rfl) ?_
    refine lw_arg hx hb hX hbl hbA w1.2.2.1 hi hL (kn := 1) (by decide) (by decide) (lv_at hl 1 rfl) (lv_at hl 5 rfl) dL_law_526 dL_law_527 dL_law_529 dL_law_530 dL_law_531 ?_
    refine jz_Vl (As := [.int (xs (i + 1))]) C hse1 w1 (cc_X10_rowValue N M (hz.thr n1) (xs (i + 1)) hkM1 e2) m2 ⟨by omega, by omega⟩ hkM1 (by decide) rfl (fs := fs13 (hz.thr n1) M) rfl rfl ⟨tw_8_27, tw_8_24, tw_8_25, tw_8_26, tw_1_7⟩ cd_X10_rowValue ⟨by decide, by decide⟩ hl.1 (by first | exact Nat.le_of_ble_eq_true rfl | simp [rf_cat, cat_i, cat_l, cat_r]) rfl dL_law_532 (fun H2 locs2 w2 => ?_)
    have hkM2 : h2.kd M = 13 := kd_keep w1 m2 hkM1 (by decide)
    have hse2 : h2.se = se := m2.2.2.2.1.trans hse1
    refine lv_lstore (i := 6) (lv' := [(6, .long r), (5, .int (1 : Int32)), (0, .ref b), (1, .ref X), (2, .ref M), (3, .ref O), (4, .int (nI i))]) hx hb dL_law_535 hl (by decide) rfl (fun ls hl => ?_)
    refine lv_aload_n hx hb dL_law_537 rfl (lv_at hl 4 rfl) ?_
    refine jz_Vi (As := []) (r := h2.gi 1300 M) C hse2 w2 (cc_X10_thrown N M h2 hkM2 rfl) (Mo.rf h2) ⟨by omega, by omega⟩ hkM2 (by decide) rfl (fs := fs13 h2 M) rfl rfl ⟨tw_7_129, tw_7_126, tw_7_127, tw_7_128, tw_1_7⟩ cd_X10_thrown ⟨by decide, by decide⟩ hl.1 (by first | exact Nat.le_of_ble_eq_true rfl | simp [rf_cat, cat_i, cat_l, cat_r]) rfl dL_law_538 (fun H3 locs3 w3 => ?_)
    refine lv_iload hx hb dL_law_541 (lv_at hl 1 rfl) ?_
    refine lv_icmp_eq (tgt := 548) hx hb dL_law_543 (by decide) (fun _ => ?_) (fun c9 => absurd t0 c9)
    refine lv_iload hx hb dL_law_548 (lv_at hl 1 rfl) ?_
    refine lv_if_ne (tgt := 564) hx hb dL_law_550 (by decide) (fun _ => ?_) (fun c9 => absurd c9 (by decide))
    refine lv_goto (tgt := 1150) hx hb dL_law_564 (by decide) ?_
    rw [show cells + (hz.nx + 1 - h.nx) + (h2.nx - (hz.thr n1).nx) + (h2.nx - h2.nx) = cells + (hz.nx + 1 - h.nx + (h2.nx - n1)) by omega, show slots + (hz.su + 6 - h.su) + (h2.su - (hz.thr n1).su) + (h2.su - h2.su) = slots + (h2.su - h.su) by omega]
    exact kk _ _ _ _ _ _ hk w3 (lv_sub (l' := [(0, .ref b), (1, .ref X), (2, .ref M), (3, .ref O), (4, .int (nI i))]) hl [2, 3, 4, 5, 6] rfl)
set_option maxRecDepth 100000 in
set_option maxHeartbeats 4000000 in
theorem lc_write (E0 : Lc p l s m meth c D cs A se b L xs) (hi : i + 5 ≤ L) (hk0 : Lk h se X M O) (hK : Kb K) (kk : Kk p l e s m below meth c Q D cs A b i X M O K) (hS : S_write N X M O h (xs (i + 1)) (xs (i + 2)) (lv8 (xs (i + 3)) (xs (i + 4))) (fun h1 c1 s1 => K h1 (cells + c1) (slots + s1))) (w : Wz D cs A s h H locs) (hl : lv_has ls 8 [(0, .ref b), (1, .ref X), (2, .ref M), (3, .ref O), (4, .int (nI i))]) : W p l e RL1 s m #[Value.ref b] below meth c H locs cells slots Q (F0 m 567 ls []) := by
  obtain ⟨C, hc3, hl0, hX, hbl, hbA, hL⟩ := E0
  obtain ⟨hkX, hkM, hkO, haO, hse⟩ := hk0
  obtain ⟨hx, hb, hml, hown, hts, -⟩ := id C
  rcases hS with ⟨h1, h2, r, e1, e2, t0, hk⟩ | ⟨hz, e1, he2⟩ | ⟨hz, e1, he2⟩
  · have m1 : Mo h (h1.saw O 0 r.toInt64) := (mo_X9_write N X h (xs (i + 1)) (xs (i + 2)) (lv8 (xs (i + 3)) (xs (i + 4))) e1).tr (Mo.saw h1 O 0 _)
    have m2 := mo_X10_write N M (h1.saw O 0 r.toInt64) (xs (i + 1)) (xs (i + 2)) (lv8 (xs (i + 3)) (xs (i + 4))) e2
    have hb1 := hK _ _ _ hk
    have a1 := m1.2.1
    have a2 := m1.2.2.1
    have a3 := m2.2.1
    have a4 := m2.2.2.1
    refine lv_aload_n hx hb dL_law_567 rfl (lv_at hl 1 rfl) ?_
    refine lw_arg hx hb hX hbl hbA w.2.2.1 hi hL (kn := 1) (by decide) (by decide) (lv_at hl 0 rfl) (lv_at hl 4 rfl) dL_law_568 dL_law_569 dL_law_571 dL_law_572 dL_law_573 ?_
    refine lw_arg hx hb hX hbl hbA w.2.2.1 hi hL (kn := 2) (by decide) (by decide) (lv_at hl 0 rfl) (lv_at hl 4 rfl) dL_law_574 dL_law_575 dL_law_577 dL_law_578 dL_law_579 ?_
    refine lw_arg hx hb hX hbl hbA w.2.2.1 hi hL (kn := 3) (by decide) (by decide) (lv_at hl 0 rfl) (lv_at hl 4 rfl) dL_law_580 dL_law_581 dL_law_583 dL_law_584 dL_law_585 ?_
    refine lv_i2l hx hb dL_law_586 rfl ?_
    refine lv_bipush (v := (32 : Int32)) hx hb dL_law_587 (by decide) ?_
    refine lv_lshl hx hb dL_law_589 rfl ?_
    refine lw_arg hx hb hX hbl hbA w.2.2.1 hi hL (kn := 4) (by decide) (by decide) (lv_at hl 0 rfl) (lv_at hl 4 rfl) dL_law_590 dL_law_591 dL_law_593 dL_law_594 dL_law_595 ?_
    refine lv_i2l hx hb dL_law_596 rfl ?_
    refine lv_ldc2 (v := (4294967295 : Int64)) hx hb hown (hts _ tw_8_160) dL_law_597 ?_
    refine lv_land hx hb dL_law_600 ?_
    refine lv_lor hx hb dL_law_601 ?_
    refine lv_aload_n hx hb dL_law_602 rfl (lv_at hl 3 rfl) ?_
    refine jz_Hn (As := [.ref X, .int (xs (i + 1)), .int (xs (i + 2)), .long (lv8 (xs (i + 3)) (xs (i + 4))), .ref O]) C hse w hc3 (hn_write N X O h (xs (i + 1)) (xs (i + 2)) (lv8 (xs (i + 3)) (xs (i + 4))) hkX hkO haO e1) m1 ⟨by omega, by omega⟩ ⟨tw_6_60, tw_6_58, tw_6_59, tw_1_0⟩ cdL_write ⟨by decide, by decide⟩ hl.1 (by first | exact Nat.le_of_ble_eq_true rfl | simp [rf_cat, cat_i, cat_l, cat_r]) rfl dL_law_603 (fun H1 locs1 w1 => ?_)
    have hkM1 : (h1.saw O 0 r.toInt64).kd M = 13 := (m1.1 M (kd_lt w hkM (by decide))).trans hkM
    have hse1 : (h1.saw O 0 r.toInt64).se = se := m1.2.2.2.1.trans hse
    refine lv_istore (i := 5) (lv' := [(5, .int (0 : Int32)), (0, .ref b), (1, .ref X), (2, .ref M), (3, .ref O), (4, .int (nI i))]) hx hb dL_law_606 hl (by decide) rfl (fun ls hl => ?_)
    refine lv_aload_n hx hb dL_law_608 rfl (lv_at hl 3 rfl) ?_
    refine lw_arg hx hb hX hbl hbA w1.2.2.1 hi hL (kn := 1) (by decide) (by decide) (lv_at hl 1 rfl) (lv_at hl 5 rfl) dL_law_609 dL_law_610 dL_law_612 dL_law_613 dL_law_614 ?_
    refine lw_arg hx hb hX hbl hbA w1.2.2.1 hi hL (kn := 2) (by decide) (by decide) (lv_at hl 1 rfl) (lv_at hl 5 rfl) dL_law_615 dL_law_616 dL_law_618 dL_law_619 dL_law_620 ?_
    refine lw_arg hx hb hX hbl hbA w1.2.2.1 hi hL (kn := 3) (by decide) (by decide) (lv_at hl 1 rfl) (lv_at hl 5 rfl) dL_law_621 dL_law_622 dL_law_624 dL_law_625 dL_law_626 ?_
    refine lv_i2l hx hb dL_law_627 rfl ?_
    refine lv_bipush (v := (32 : Int32)) hx hb dL_law_628 (by decide) ?_
    refine lv_lshl hx hb dL_law_630 rfl ?_
    refine lw_arg hx hb hX hbl hbA w1.2.2.1 hi hL (kn := 4) (by decide) (by decide) (lv_at hl 1 rfl) (lv_at hl 5 rfl) dL_law_631 dL_law_632 dL_law_634 dL_law_635 dL_law_636 ?_
    refine lv_i2l hx hb dL_law_637 rfl ?_
    refine lv_ldc2 (v := (4294967295 : Int64)) hx hb hown (hts _ tw_8_160) dL_law_638 ?_
    refine lv_land hx hb dL_law_641 ?_
    refine lv_lor hx hb dL_law_642 ?_
    refine jz_Vi (As := [.int (xs (i + 1)), .int (xs (i + 2)), .long (lv8 (xs (i + 3)) (xs (i + 4)))]) C hse1 w1 (cc_X10_write N M (h1.saw O 0 r.toInt64) (xs (i + 1)) (xs (i + 2)) (lv8 (xs (i + 3)) (xs (i + 4))) hkM1 e2) m2 ⟨by omega, by omega⟩ hkM1 (by decide) rfl (fs := fs13 (h1.saw O 0 r.toInt64) M) rfl rfl ⟨tw_8_31, tw_8_28, tw_8_29, tw_8_30, tw_1_7⟩ cd_X10_write ⟨by decide, by decide⟩ hl.1 (by first | exact Nat.le_of_ble_eq_true rfl | simp [rf_cat, cat_i, cat_l, cat_r]) rfl dL_law_643 (fun H2 locs2 w2 => ?_)
    have hkM2 : h2.kd M = 13 := kd_keep w1 m2 hkM1 (by decide)
    have hse2 : h2.se = se := m2.2.2.2.1.trans hse1
    refine lv_istore (i := 6) (lv' := [(6, .int r), (5, .int (0 : Int32)), (0, .ref b), (1, .ref X), (2, .ref M), (3, .ref O), (4, .int (nI i))]) hx hb dL_law_646 hl (by decide) rfl (fun ls hl => ?_)
    refine lv_aload_n hx hb dL_law_648 rfl (lv_at hl 4 rfl) ?_
    refine jz_Vi (As := []) (r := h2.gi 1300 M) C hse2 w2 (cc_X10_thrown N M h2 hkM2 rfl) (Mo.rf h2) ⟨by omega, by omega⟩ hkM2 (by decide) rfl (fs := fs13 h2 M) rfl rfl ⟨tw_7_129, tw_7_126, tw_7_127, tw_7_128, tw_1_7⟩ cd_X10_thrown ⟨by decide, by decide⟩ hl.1 (by first | exact Nat.le_of_ble_eq_true rfl | simp [rf_cat, cat_i, cat_l, cat_r]) rfl dL_law_649 (fun H3 locs3 w3 => ?_)
    refine lv_iload hx hb dL_law_652 (lv_at hl 1 rfl) ?_
    refine lv_icmp_eq (tgt := 659) hx hb dL_law_654 (by decide) (fun _ => ?_) (fun c9 => absurd t0 c9)
    refine lv_iload hx hb dL_law_659 (lv_at hl 1 rfl) ?_
    refine lv_if_ne (tgt := 676) hx hb dL_law_661 (by decide) (fun c9 => absurd rfl c9) (fun _ => ?_)
    have hkO1 : (h1.saw O 0 r.toInt64).kd O = 21 := kd_keep w m1 hkO (by decide)
    have hO1 : O < (h1.saw O 0 r.toInt64).nx := kd_lt w1 hkO1 (by decide)
    have hkO2 : h2.kd O = 21 := kd_keep w1 m2 hkO1 (by decide)
    have haO2 : h2.al O = 1 := (m2.2.2.2.2 O hO1).trans ((m1.2.2.2.2 O (kd_lt w hkO (by decide))).trans haO)
    have hv : h2.aw O 0 = r.toInt64 := by
      rw [(fo_X10_write N M (h1.saw O 0 r.toInt64) (xs (i + 1)) (xs (i + 2)) (lv8 (xs (i + 3)) (xs (i + 4))) e2).2.2.2.2.2.1 O hO1]
      show va_up h1.aw O (va_up (h1.aw O) 0 _) O 0 = _
      rw [va_up_self, va_up_self]
    refine lv_aload_n hx hb dL_law_664 rfl (lv_at hl 5 rfl) ?_
    refine lv_iconst (v := (0 : Int32)) hx hb dL_law_665 (by decide) ?_
    refine jz_lald C w3 hkO2 (by rw [haO2]; decide) dL_law_666 ?_
    refine lv_iload hx hb dL_law_667 (lv_at hl 0 rfl) ?_
    refine lv_i2l hx hb dL_law_669 rfl ?_
    refine W.lcmp hx hb dL_law_670 ?_
    refine lv_if_eq (tgt := 676) hx hb dL_law_671 (by decide) (fun _ => ?_) (fun c9 => absurd (show lg_cmp (h2.aw O (0 : Int32).toNatClampNeg) _ = 0 by rw [show (0 : Int32).toNatClampNeg = 0 from rfl, hv]; exact lg_self _) c9)
    refine lv_goto (tgt := 1150) hx hb dL_law_676 (by decide) ?_
    rw [show cells + ((h1.saw O 0 r.toInt64).nx - h.nx) + (h2.nx - (h1.saw O 0 r.toInt64).nx) + (h2.nx - h2.nx) = cells + (h2.nx - h.nx) by omega, show slots + ((h1.saw O 0 r.toInt64).su - h.su) + (h2.su - (h1.saw O 0 r.toInt64).su) + (h2.su - h2.su) = slots + (h2.su - h.su) by omega]
    exact kk _ _ _ _ _ _ hk w3 (lv_sub (l' := [(0, .ref b), (1, .ref X), (2, .ref M), (3, .ref O), (4, .int (nI i))]) hl [2, 3, 4, 5, 6] rfl)
  · have m1 := mo_xX9_write N X h (xs (i + 1)) (xs (i + 2)) (lv8 (xs (i + 3)) (xs (i + 4))) e1
    have a1 := m1.2.1
    have a2 := m1.2.2.1
    obtain ⟨h9, r9, g1, -, g2⟩ := he2 hz.nx (Nat.le_refl _)
    have hb1 := hK _ _ _ g2
    have a3 : hz.nx ≤ h9.nx := (mo_X10_write N M (hz.thr hz.nx) (xs (i + 1)) (xs (i + 2)) (lv8 (xs (i + 3)) (xs (i + 4))) g1).2.1
    have a4 : hz.su + 6 ≤ h9.su := (mo_X10_write N M (hz.thr hz.nx) (xs (i + 1)) (xs (i + 2)) (lv8 (xs (i + 3)) (xs (i + 4))) g1).2.2.1
    refine lv_aload_n hx hb dL_law_567 rfl (lv_at hl 1 rfl) ?_
    refine lw_arg hx hb hX hbl hbA w.2.2.1 hi hL (kn := 1) (by decide) (by decide) (lv_at hl 0 rfl) (lv_at hl 4 rfl) dL_law_568 dL_law_569 dL_law_571 dL_law_572 dL_law_573 ?_
    refine lw_arg hx hb hX hbl hbA w.2.2.1 hi hL (kn := 2) (by decide) (by decide) (lv_at hl 0 rfl) (lv_at hl 4 rfl) dL_law_574 dL_law_575 dL_law_577 dL_law_578 dL_law_579 ?_
    refine lw_arg hx hb hX hbl hbA w.2.2.1 hi hL (kn := 3) (by decide) (by decide) (lv_at hl 0 rfl) (lv_at hl 4 rfl) dL_law_580 dL_law_581 dL_law_583 dL_law_584 dL_law_585 ?_
    refine lv_i2l hx hb dL_law_586 rfl ?_
    refine lv_bipush (v := (32 : Int32)) hx hb dL_law_587 (by decide) ?_
    refine lv_lshl hx hb dL_law_589 rfl ?_
    refine lw_arg hx hb hX hbl hbA w.2.2.1 hi hL (kn := 4) (by decide) (by decide) (lv_at hl 0 rfl) (lv_at hl 4 rfl) dL_law_590 dL_law_591 dL_law_593 dL_law_594 dL_law_595 ?_
    refine lv_i2l hx hb dL_law_596 rfl ?_
    refine lv_ldc2 (v := (4294967295 : Int64)) hx hb hown (hts _ tw_8_160) dL_law_597 ?_
    refine lv_land hx hb dL_law_600 ?_
    refine lv_lor hx hb dL_law_601 ?_
    refine lv_aload_n hx hb dL_law_602 rfl (lv_at hl 3 rfl) ?_
    refine jz_Ht (As := [.ref X, .int (xs (i + 1)), .int (xs (i + 2)), .long (lv8 (xs (i + 3)) (xs (i + 4))), .ref O]) C hse w hc3 (ht_write_1 hl0 N X O h (xs (i + 1)) (xs (i + 2)) (lv8 (xs (i + 3)) (xs (i + 4))) hkX e1) m1 ⟨by omega, by omega⟩ ⟨tw_6_60, tw_6_58, tw_6_59, tw_1_0⟩ cdL_write ⟨by decide, by decide⟩ hl.1 (by first | exact Nat.le_of_ble_eq_true rfl | simp [rf_cat, cat_i, cat_l, cat_r]) rfl dL_law_603 (fun H1 locs1 n1 hn1 w1 => ?_)
    obtain ⟨h2, r, e2, t0, hk⟩ := he2 n1 hn1
    have m2 := mo_X10_write N M (hz.thr n1) (xs (i + 1)) (xs (i + 2)) (lv8 (xs (i + 3)) (xs (i + 4))) e2
    have hb2 := hK _ _ _ hk
    have a5 : n1 ≤ h2.nx := m2.2.1
    have a6 : hz.su + 6 ≤ h2.su := m2.2.2.1
    have q1 : (hz.thr n1).nx = n1 := rfl
    have q2 : (hz.thr n1).su = hz.su + 6 := rfl
    have hkM1 : (hz.thr n1).kd M = 13 := (m1.1 M (kd_lt w hkM (by decide))).trans hkM
    have hse1 : (hz.thr n1).se = se := m1.2.2.2.1.trans hse
    refine lv_istore (i := 5) (lv' := [(5, .int (1 : Int32)), (0, .ref b), (1, .ref X), (2, .ref M), (3, .ref O), (4, .int (nI i))]) hx hb dL_law_606 hl (by decide) rfl (fun ls hl => ?_)
    refine lv_aload_n hx hb dL_law_608 rfl (lv_at hl 3 rfl) ?_
    refine lw_arg hx hb hX hbl hbA w1.2.2.1 hi hL (kn := 1) (by decide) (by decide) (lv_at hl 1 rfl) (lv_at hl 5 rfl) dL_law_609 dL_law_610 dL_law_612 dL_law_613 dL_law_614 ?_
    refine lw_arg hx hb hX hbl hbA w1.2.2.1 hi hL (kn := 2) (by decide) (by decide) (lv_at hl 1 rfl) (lv_at hl 5 rfl) dL_law_615 dL_law_616 dL_law_618 dL_law_619 dL_law_620 ?_
    refine lw_arg hx hb hX hbl hbA w1.2.2.1 hi hL (kn := 3) (by decide) (by decide) (lv_at hl 1 rfl) (lv_at hl 5 rfl) dL_law_621 dL_law_622 dL_law_624 dL_law_625 dL_law_626 ?_
    refine lv_i2l hx hb dL_law_627 rfl ?_
    refine lv_bipush (v := (32 : Int32)) hx hb dL_law_628 (by decide) ?_
    refine lv_lshl hx hb dL_law_630 rfl ?_
    refine lw_arg hx hb hX hbl hbA w1.2.2.1 hi hL (kn := 4) (by decide) (by decide) (lv_at hl 1 rfl) (lv_at hl 5 rfl) dL_law_631 dL_law_632 dL_law_634 dL_law_635 dL_law_636 ?_
    refine lv_i2l hx hb dL_law_637 rfl ?_
    refine lv_ldc2 (v := (4294967295 : Int64)) hx hb hown (hts _ tw_8_160) dL_law_638 ?_
    refine lv_land hx hb dL_law_641 ?_
    refine lv_lor hx hb dL_law_642 ?_
    refine jz_Vi (As := [.int (xs (i + 1)), .int (xs (i + 2)), .long (lv8 (xs (i + 3)) (xs (i + 4)))]) C hse1 w1 (cc_X10_write N M (hz.thr n1) (xs (i + 1)) (xs (i + 2)) (lv8 (xs (i + 3)) (xs (i + 4))) hkM1 e2) m2 ⟨by omega, by omega⟩ hkM1 (by decide) rfl (fs := fs13 (hz.thr n1) M) rfl rfl ⟨tw_8_31, tw_8_28, tw_8_29, tw_8_30, tw_1_7⟩ cd_X10_write ⟨by decide, by decide⟩ hl.1 (by first | exact Nat.le_of_ble_eq_true rfl | simp [rf_cat, cat_i, cat_l, cat_r]) rfl dL_law_643 (fun H2 locs2 w2 => ?_)
    have hkM2 : h2.kd M = 13 := kd_keep w1 m2 hkM1 (by decide)
    have hse2 : h2.se = se := m2.2.2.2.1.trans hse1
    refine lv_istore (i := 6) (lv' := [(6, .int r), (5, .int (1 : Int32)), (0, .ref b), (1, .ref X), (2, .ref M), (3, .ref O), (4, .int (nI i))]) hx hb dL_law_646 hl (by decide) rfl (fun ls hl => ?_)
    refine lv_aload_n hx hb dL_law_648 rfl (lv_at hl 4 rfl) ?_
    refine jz_Vi (As := []) (r := h2.gi 1300 M) C hse2 w2 (cc_X10_thrown N M h2 hkM2 rfl) (Mo.rf h2) ⟨by omega, by omega⟩ hkM2 (by decide) rfl (fs := fs13 h2 M) rfl rfl ⟨tw_7_129, tw_7_126, tw_7_127, tw_7_128, tw_1_7⟩ cd_X10_thrown ⟨by decide, by decide⟩ hl.1 (by first | exact Nat.le_of_ble_eq_true rfl | simp [rf_cat, cat_i, cat_l, cat_r]) rfl dL_law_649 (fun H3 locs3 w3 => ?_)
    refine lv_iload hx hb dL_law_652 (lv_at hl 1 rfl) ?_
    refine lv_icmp_eq (tgt := 659) hx hb dL_law_654 (by decide) (fun _ => ?_) (fun c9 => absurd t0 c9)
    refine lv_iload hx hb dL_law_659 (lv_at hl 1 rfl) ?_
    refine lv_if_ne (tgt := 676) hx hb dL_law_661 (by decide) (fun _ => ?_) (fun c9 => absurd c9 (by decide))
    refine lv_goto (tgt := 1150) hx hb dL_law_676 (by decide) ?_
    rw [show cells + (hz.nx + 1 - h.nx) + (h2.nx - (hz.thr n1).nx) + (h2.nx - h2.nx) = cells + (hz.nx + 1 - h.nx + (h2.nx - n1)) by omega, show slots + (hz.su + 6 - h.su) + (h2.su - (hz.thr n1).su) + (h2.su - h2.su) = slots + (h2.su - h.su) by omega]
    exact kk _ _ _ _ _ _ hk w3 (lv_sub (l' := [(0, .ref b), (1, .ref X), (2, .ref M), (3, .ref O), (4, .int (nI i))]) hl [2, 3, 4, 5, 6] rfl)
  · have m1 := mo_xX9_write N X h (xs (i + 1)) (xs (i + 2)) (lv8 (xs (i + 3)) (xs (i + 4))) e1
    have a1 := m1.2.1
    have a2 := m1.2.2.1
    obtain ⟨h9, r9, g1, -, g2⟩ := he2 hz.nx (Nat.le_refl _)
    have hb1 := hK _ _ _ g2
    have a3 : hz.nx ≤ h9.nx := (mo_X10_write N M (hz.thr hz.nx) (xs (i + 1)) (xs (i + 2)) (lv8 (xs (i + 3)) (xs (i + 4))) g1).2.1
    have a4 : hz.su + 6 ≤ h9.su := (mo_X10_write N M (hz.thr hz.nx) (xs (i + 1)) (xs (i + 2)) (lv8 (xs (i + 3)) (xs (i + 4))) g1).2.2.1
    refine lv_aload_n hx hb dL_law_567 rfl (lv_at hl 1 rfl) ?_
    refine lw_arg hx hb hX hbl hbA w.2.2.1 hi hL (kn := 1) (by decide) (by decide) (lv_at hl 0 rfl) (lv_at hl 4 rfl) dL_law_568 dL_law_569 dL_law_571 dL_law_572 dL_law_573 ?_
    refine lw_arg hx hb hX hbl hbA w.2.2.1 hi hL (kn := 2) (by decide) (by decide) (lv_at hl 0 rfl) (lv_at hl 4 rfl) dL_law_574 dL_law_575 dL_law_577 dL_law_578 dL_law_579 ?_
    refine lw_arg hx hb hX hbl hbA w.2.2.1 hi hL (kn := 3) (by decide) (by decide) (lv_at hl 0 rfl) (lv_at hl 4 rfl) dL_law_580 dL_law_581 dL_law_583 dL_law_584 dL_law_585 ?_
    refine lv_i2l hx hb dL_law_586 rfl ?_
    refine lv_bipush (v := (32 : Int32)) hx hb dL_law_587 (by decide) ?_
    refine lv_lshl hx hb dL_law_589 rfl ?_
    refine lw_arg hx hb hX hbl hbA w.2.2.1 hi hL (kn := 4) (by decide) (by decide) (lv_at hl 0 rfl) (lv_at hl 4 rfl) dL_law_590 dL_law_591 dL_law_593 dL_law_594 dL_law_595 ?_
    refine lv_i2l hx hb dL_law_596 rfl ?_
    refine lv_ldc2 (v := (4294967295 : Int64)) hx hb hown (hts _ tw_8_160) dL_law_597 ?_
    refine lv_land hx hb dL_law_600 ?_
    refine lv_lor hx hb dL_law_601 ?_
    refine lv_aload_n hx hb dL_law_602 rfl (lv_at hl 3 rfl) ?_
    refine jz_Ht (As := [.ref X, .int (xs (i + 1)), .int (xs (i + 2)), .long (lv8 (xs (i + 3)) (xs (i + 4))), .ref O]) C hse w hc3 (ht_write_2 hl0 N X O h (xs (i + 1)) (xs (i + 2)) (lv8 (xs (i + 3)) (xs (i + 4))) hkX e1) m1 ⟨by omega, by omega⟩ ⟨tw_6_60, tw_6_58, tw_6_59, tw_1_0⟩ cdL_write ⟨by decide, by decide⟩ hl.1 (by first | exact Nat.le_of_ble_eq_true rfl | simp [rf_cat, cat_i, cat_l, cat_r]) rfl dL_law_603 (fun H1 locs1 n1 hn1 w1 => ?_)
    obtain ⟨h2, r, e2, t0, hk⟩ := he2 n1 hn1
    have m2 := mo_X10_write N M (hz.thr n1) (xs (i + 1)) (xs (i + 2)) (lv8 (xs (i + 3)) (xs (i + 4))) e2
    have hb2 := hK _ _ _ hk
    have a5 : n1 ≤ h2.nx := m2.2.1
    have a6 : hz.su + 6 ≤ h2.su := m2.2.2.1
    have q1 : (hz.thr n1).nx = n1 := rfl
    have q2 : (hz.thr n1).su = hz.su + 6 := rfl
    have hkM1 : (hz.thr n1).kd M = 13 := (m1.1 M (kd_lt w hkM (by decide))).trans hkM
    have hse1 : (hz.thr n1).se = se := m1.2.2.2.1.trans hse
    refine lv_istore (i := 5) (lv' := [(5, .int (2 : Int32)), (0, .ref b), (1, .ref X), (2, .ref M), (3, .ref O), (4, .int (nI i))]) hx hb dL_law_606 hl (by decide) rfl (fun ls hl => ?_)
    refine lv_aload_n hx hb dL_law_608 rfl (lv_at hl 3 rfl) ?_
    refine lw_arg hx hb hX hbl hbA w1.2.2.1 hi hL (kn := 1) (by decide) (by decide) (lv_at hl 1 rfl) (lv_at hl 5 rfl) dL_law_609 dL_law_610 dL_law_612 dL_law_613 dL_law_614 ?_
    refine lw_arg hx hb hX hbl hbA w1.2.2.1 hi hL (kn := 2) (by decide) (by decide) (lv_at hl 1 rfl) (lv_at hl 5 rfl) dL_law_615 dL_law_616 dL_law_618 dL_law_619 dL_law_620 ?_
    refine lw_arg hx hb hX hbl hbA w1.2.2.1 hi hL (kn := 3) (by decide) (by decide) (lv_at hl 1 rfl) (lv_at hl 5 rfl) dL_law_621 dL_law_622 dL_law_624 dL_law_625 dL_law_626 ?_
    refine lv_i2l hx hb dL_law_627 rfl ?_
    refine lv_bipush (v := (32 : Int32)) hx hb dL_law_628 (by decide) ?_
    refine lv_lshl hx hb dL_law_630 rfl ?_
    refine lw_arg hx hb hX hbl hbA w1.2.2.1 hi hL (kn := 4) (by decide) (by decide) (lv_at hl 1 rfl) (lv_at hl 5 rfl) dL_law_631 dL_law_632 dL_law_634 dL_law_635 dL_law_636 ?_
    refine lv_i2l hx hb dL_law_637 rfl ?_
    refine lv_ldc2 (v := (4294967295 : Int64)) hx hb hown (hts _ tw_8_160) dL_law_638 ?_
    refine lv_land hx hb dL_law_641 ?_
    refine lv_lor hx hb dL_law_642 ?_
    refine jz_Vi (As := [.int (xs (i + 1)), .int (xs (i + 2)), .long (lv8 (xs (i + 3)) (xs (i + 4)))]) C hse1 w1 (cc_X10_write N M (hz.thr n1) (xs (i + 1)) (xs (i + 2)) (lv8 (xs (i + 3)) (xs (i + 4))) hkM1 e2) m2 ⟨by omega, by omega⟩ hkM1 (by decide) rfl (fs := fs13 (hz.thr n1) M) rfl rfl ⟨tw_8_31, tw_8_28, tw_8_29, tw_8_30, tw_1_7⟩ cd_X10_write ⟨by decide, by decide⟩ hl.1 (by first | exact Nat.le_of_ble_eq_true rfl | simp [rf_cat, cat_i, cat_l, cat_r]) rfl dL_law_643 (fun H2 locs2 w2 => ?_)
    have hkM2 : h2.kd M = 13 := kd_keep w1 m2 hkM1 (by decide)
    have hse2 : h2.se = se := m2.2.2.2.1.trans hse1
    refine lv_istore (i := 6) (lv' := [(6, .int r), (5, .int (2 : Int32)), (0, .ref b), (1, .ref X), (2, .ref M), (3, .ref O), (4, .int (nI i))]) hx hb dL_law_646 hl (by decide) rfl (fun ls hl => ?_)
    refine lv_aload_n hx hb dL_law_648 rfl (lv_at hl 4 rfl) ?_
    refine jz_Vi (As := []) (r := h2.gi 1300 M) C hse2 w2 (cc_X10_thrown N M h2 hkM2 rfl) (Mo.rf h2) ⟨by omega, by omega⟩ hkM2 (by decide) rfl (fs := fs13 h2 M) rfl rfl ⟨tw_7_129, tw_7_126, tw_7_127, tw_7_128, tw_1_7⟩ cd_X10_thrown ⟨by decide, by decide⟩ hl.1 (by first | exact Nat.le_of_ble_eq_true rfl | simp [rf_cat, cat_i, cat_l, cat_r]) rfl dL_law_649 (fun H3 locs3 w3 => ?_)
    refine lv_iload hx hb dL_law_652 (lv_at hl 1 rfl) ?_
    refine lv_icmp_eq (tgt := 659) hx hb dL_law_654 (by decide) (fun _ => ?_) (fun c9 => absurd t0 c9)
    refine lv_iload hx hb dL_law_659 (lv_at hl 1 rfl) ?_
    refine lv_if_ne (tgt := 676) hx hb dL_law_661 (by decide) (fun _ => ?_) (fun c9 => absurd c9 (by decide))
    refine lv_goto (tgt := 1150) hx hb dL_law_676 (by decide) ?_
    rw [show cells + (hz.nx + 1 - h.nx) + (h2.nx - (hz.thr n1).nx) + (h2.nx - h2.nx) = cells + (hz.nx + 1 - h.nx + (h2.nx - n1)) by omega, show slots + (hz.su + 6 - h.su) + (h2.su - (hz.thr n1).su) + (h2.su - h2.su) = slots + (h2.su - h.su) by omega]
    exact kk _ _ _ _ _ _ hk w3 (lv_sub (l' := [(0, .ref b), (1, .ref X), (2, .ref M), (3, .ref O), (4, .int (nI i))]) hl [2, 3, 4, 5, 6] rfl)
set_option maxRecDepth 100000 in
set_option maxHeartbeats 4000000 in
theorem lc_remove (E0 : Lc p l s m meth c D cs A se b L xs) (hi : i + 5 ≤ L) (hk0 : Lk h se X M O) (hK : Kb K) (kk : Kk p l e s m below meth c Q D cs A b i X M O K) (hS : S_remove N X M O h (xs (i + 1)) (xs (i + 2)) (fun h1 c1 s1 => K h1 (cells + c1) (slots + s1))) (w : Wz D cs A s h H locs) (hl : lv_has ls 8 [(0, .ref b), (1, .ref X), (2, .ref M), (3, .ref O), (4, .int (nI i))]) : W p l e RL1 s m #[Value.ref b] below meth c H locs cells slots Q (F0 m 679 ls []) := by
  obtain ⟨C, hc3, hl0, hX, hbl, hbA, hL⟩ := E0
  obtain ⟨hkX, hkM, hkO, haO, hse⟩ := hk0
  obtain ⟨hx, hb, hml, hown, hts, -⟩ := id C
  rcases hS with ⟨h1, h2, r, e1, e2, t0, hk⟩ | ⟨hz, e1, he2⟩ | ⟨hz, e1, he2⟩
  · have m1 : Mo h (h1.saw O 0 r.toInt64) := (mo_X9_remove N X h (xs (i + 1)) (xs (i + 2)) e1).tr (Mo.saw h1 O 0 _)
    have m2 := mo_X10_remove N M (h1.saw O 0 r.toInt64) (xs (i + 1)) (xs (i + 2)) e2
    have hb1 := hK _ _ _ hk
    have a1 := m1.2.1
    have a2 := m1.2.2.1
    have a3 := m2.2.1
    have a4 := m2.2.2.1
    refine lv_aload_n hx hb dL_law_679 rfl (lv_at hl 1 rfl) ?_
    refine lw_arg hx hb hX hbl hbA w.2.2.1 hi hL (kn := 1) (by decide) (by decide) (lv_at hl 0 rfl) (lv_at hl 4 rfl) dL_law_680 dL_law_681 dL_law_683 dL_law_684 dL_law_685 ?_
    refine lw_arg hx hb hX hbl hbA w.2.2.1 hi hL (kn := 2) (by decide) (by decide) (lv_at hl 0 rfl) (lv_at hl 4 rfl) dL_law_686 dL_law_687 dL_law_689 dL_law_690 dL_law_691 ?_
    refine lv_aload_n hx hb dL_law_692 rfl (lv_at hl 3 rfl) ?_
    refine jz_Hn (As := [.ref X, .int (xs (i + 1)), .int (xs (i + 2)), .ref O]) C hse w hc3 (hn_remove N X O h (xs (i + 1)) (xs (i + 2)) hkX hkO haO e1) m1 ⟨by omega, by omega⟩ ⟨tw_6_88, tw_6_86, tw_6_87, tw_1_0⟩ cdL_remove ⟨by decide, by decide⟩ hl.1 (by first | exact Nat.le_of_ble_eq_true rfl | simp [rf_cat, cat_i, cat_l, cat_r]) rfl dL_law_693 (fun H1 locs1 w1 => ?_)
    have hkM1 : (h1.saw O 0 r.toInt64).kd M = 13 := (m1.1 M (kd_lt w hkM (by decide))).trans hkM
    have hse1 : (h1.saw O 0 r.toInt64).se = se := m1.2.2.2.1.trans hse
    refine lv_istore (i := 5) (lv' := [(5, .int (0 : Int32)), (0, .ref b), (1, .ref X), (2, .ref M), (3, .ref O), (4, .int (nI i))]) hx hb dL_law_696 hl (by decide) rfl (fun ls hl => ?_)
    refine lv_aload_n hx hb dL_law_698 rfl (lv_at hl 3 rfl) ?_
    refine lw_arg hx hb hX hbl hbA w1.2.2.1 hi hL (kn := 1) (by decide) (by decide) (lv_at hl 1 rfl) (lv_at hl 5 rfl) dL_law_699 dL_law_700 dL_law_702 dL_law_703 dL_law_704 ?_
    refine lw_arg hx hb hX hbl hbA w1.2.2.1 hi hL (kn := 2) (by decide) (by decide) (lv_at hl 1 rfl) (lv_at hl 5 rfl) dL_law_705 dL_law_706 dL_law_708 dL_law_709 dL_law_710 ?_
    refine jz_Vi (As := [.int (xs (i + 1)), .int (xs (i + 2))]) C hse1 w1 (cc_X10_remove N M (h1.saw O 0 r.toInt64) (xs (i + 1)) (xs (i + 2)) hkM1 e2) m2 ⟨by omega, by omega⟩ hkM1 (by decide) rfl (fs := fs13 (h1.saw O 0 r.toInt64) M) rfl rfl ⟨tw_8_43, tw_8_40, tw_8_41, tw_8_42, tw_1_7⟩ cd_X10_remove ⟨by decide, by decide⟩ hl.1 (by first | exact Nat.le_of_ble_eq_true rfl | simp [rf_cat, cat_i, cat_l, cat_r]) rfl dL_law_711 (fun H2 locs2 w2 => ?_)
    have hkM2 : h2.kd M = 13 := kd_keep w1 m2 hkM1 (by decide)
    have hse2 : h2.se = se := m2.2.2.2.1.trans hse1
    refine lv_istore (i := 6) (lv' := [(6, .int r), (5, .int (0 : Int32)), (0, .ref b), (1, .ref X), (2, .ref M), (3, .ref O), (4, .int (nI i))]) hx hb dL_law_714 hl (by decide) rfl (fun ls hl => ?_)
    refine lv_aload_n hx hb dL_law_716 rfl (lv_at hl 4 rfl) ?_
    refine jz_Vi (As := []) (r := h2.gi 1300 M) C hse2 w2 (cc_X10_thrown N M h2 hkM2 rfl) (Mo.rf h2) ⟨by omega, by omega⟩ hkM2 (by decide) rfl (fs := fs13 h2 M) rfl rfl ⟨tw_7_129, tw_7_126, tw_7_127, tw_7_128, tw_1_7⟩ cd_X10_thrown ⟨by decide, by decide⟩ hl.1 (by first | exact Nat.le_of_ble_eq_true rfl | simp [rf_cat, cat_i, cat_l, cat_r]) rfl dL_law_717 (fun H3 locs3 w3 => ?_)
    refine lv_iload hx hb dL_law_720 (lv_at hl 1 rfl) ?_
    refine lv_icmp_eq (tgt := 727) hx hb dL_law_722 (by decide) (fun _ => ?_) (fun c9 => absurd t0 c9)
    refine lv_iload hx hb dL_law_727 (lv_at hl 1 rfl) ?_
    refine lv_if_ne (tgt := 744) hx hb dL_law_729 (by decide) (fun c9 => absurd rfl c9) (fun _ => ?_)
    have hkO1 : (h1.saw O 0 r.toInt64).kd O = 21 := kd_keep w m1 hkO (by decide)
    have hO1 : O < (h1.saw O 0 r.toInt64).nx := kd_lt w1 hkO1 (by decide)
    have hkO2 : h2.kd O = 21 := kd_keep w1 m2 hkO1 (by decide)
    have haO2 : h2.al O = 1 := (m2.2.2.2.2 O hO1).trans ((m1.2.2.2.2 O (kd_lt w hkO (by decide))).trans haO)
    have hv : h2.aw O 0 = r.toInt64 := by
      rw [(fo_X10_remove N M (h1.saw O 0 r.toInt64) (xs (i + 1)) (xs (i + 2)) e2).2.2.2.2.2.1 O hO1]
      show va_up h1.aw O (va_up (h1.aw O) 0 _) O 0 = _
      rw [va_up_self, va_up_self]
    refine lv_aload_n hx hb dL_law_732 rfl (lv_at hl 5 rfl) ?_
    refine lv_iconst (v := (0 : Int32)) hx hb dL_law_733 (by decide) ?_
    refine jz_lald C w3 hkO2 (by rw [haO2]; decide) dL_law_734 ?_
    refine lv_iload hx hb dL_law_735 (lv_at hl 0 rfl) ?_
    refine lv_i2l hx hb dL_law_737 rfl ?_
    refine W.lcmp hx hb dL_law_738 ?_
    refine lv_if_eq (tgt := 744) hx hb dL_law_739 (by decide) (fun _ => ?_) (fun c9 => absurd (show lg_cmp (h2.aw O (0 : Int32).toNatClampNeg) _ = 0 by rw [show (0 : Int32).toNatClampNeg = 0 from rfl, hv]; exact lg_self _) c9)
    refine lv_goto (tgt := 1150) hx hb dL_law_744 (by decide) ?_
    rw [show cells + ((h1.saw O 0 r.toInt64).nx - h.nx) + (h2.nx - (h1.saw O 0 r.toInt64).nx) + (h2.nx - h2.nx) = cells + (h2.nx - h.nx) by omega, show slots + ((h1.saw O 0 r.toInt64).su - h.su) + (h2.su - (h1.saw O 0 r.toInt64).su) + (h2.su - h2.su) = slots + (h2.su - h.su) by omega]
    exact kk _ _ _ _ _ _ hk w3 (lv_sub (l' := [(0, .ref b), (1, .ref X), (2, .ref M), (3, .ref O), (4, .int (nI i))]) hl [2, 3, 4, 5, 6] rfl)
  · have m1 := mo_xX9_remove N X h (xs (i + 1)) (xs (i + 2)) e1
    have a1 := m1.2.1
    have a2 := m1.2.2.1
    obtain ⟨h9, r9, g1, -, g2⟩ := he2 hz.nx (Nat.le_refl _)
    have hb1 := hK _ _ _ g2
    have a3 : hz.nx ≤ h9.nx := (mo_X10_remove N M (hz.thr hz.nx) (xs (i + 1)) (xs (i + 2)) g1).2.1
    have a4 : hz.su + 6 ≤ h9.su := (mo_X10_remove N M (hz.thr hz.nx) (xs (i + 1)) (xs (i + 2)) g1).2.2.1
    refine lv_aload_n hx hb dL_law_679 rfl (lv_at hl 1 rfl) ?_
    refine lw_arg hx hb hX hbl hbA w.2.2.1 hi hL (kn := 1) (by decide) (by decide) (lv_at hl 0 rfl) (lv_at hl 4 rfl) dL_law_680 dL_law_681 dL_law_683 dL_law_684 dL_law_685 ?_
    refine lw_arg hx hb hX hbl hbA w.2.2.1 hi hL (kn := 2) (by decide) (by decide) (lv_at hl 0 rfl) (lv_at hl 4 rfl) dL_law_686 dL_law_687 dL_law_689 dL_law_690 dL_law_691 ?_
    refine lv_aload_n hx hb dL_law_692 rfl (lv_at hl 3 rfl) ?_
    refine jz_Ht (As := [.ref X, .int (xs (i + 1)), .int (xs (i + 2)), .ref O]) C hse w hc3 (ht_remove_1 hl0 N X O h (xs (i + 1)) (xs (i + 2)) hkX e1) m1 ⟨by omega, by omega⟩ ⟨tw_6_88, tw_6_86, tw_6_87, tw_1_0⟩ cdL_remove ⟨by decide, by decide⟩ hl.1 (by first | exact Nat.le_of_ble_eq_true rfl | simp [rf_cat, cat_i, cat_l, cat_r]) rfl dL_law_693 (fun H1 locs1 n1 hn1 w1 => ?_)
    obtain ⟨h2, r, e2, t0, hk⟩ := he2 n1 hn1
    have m2 := mo_X10_remove N M (hz.thr n1) (xs (i + 1)) (xs (i + 2)) e2
    have hb2 := hK _ _ _ hk
    have a5 : n1 ≤ h2.nx := m2.2.1
    have a6 : hz.su + 6 ≤ h2.su := m2.2.2.1
    have q1 : (hz.thr n1).nx = n1 := rfl
    have q2 : (hz.thr n1).su = hz.su + 6 := rfl
    have hkM1 : (hz.thr n1).kd M = 13 := (m1.1 M (kd_lt w hkM (by decide))).trans hkM
    have hse1 : (hz.thr n1).se = se := m1.2.2.2.1.trans hse
    refine lv_istore (i := 5) (lv' := [(5, .int (1 : Int32)), (0, .ref b), (1, .ref X), (2, .ref M), (3, .ref O), (4, .int (nI i))]) hx hb dL_law_696 hl (by decide) rfl (fun ls hl => ?_)
    refine lv_aload_n hx hb dL_law_698 rfl (lv_at hl 3 rfl) ?_
    refine lw_arg hx hb hX hbl hbA w1.2.2.1 hi hL (kn := 1) (by decide) (by decide) (lv_at hl 1 rfl) (lv_at hl 5 rfl) dL_law_699 dL_law_700 dL_law_702 dL_law_703 dL_law_704 ?_
    refine lw_arg hx hb hX hbl hbA w1.2.2.1 hi hL (kn := 2) (by decide) (by decide) (lv_at hl 1 rfl) (lv_at hl 5 rfl) dL_law_705 dL_law_706 dL_law_708 dL_law_709 dL_law_710 ?_
    refine jz_Vi (As := [.int (xs (i + 1)), .int (xs (i + 2))]) C hse1 w1 (cc_X10_remove N M (hz.thr n1) (xs (i + 1)) (xs (i + 2)) hkM1 e2) m2 ⟨by omega, by omega⟩ hkM1 (by decide) rfl (fs := fs13 (hz.thr n1) M) rfl rfl ⟨tw_8_43, tw_8_40, tw_8_41, tw_8_42, tw_1_7⟩ cd_X10_remove ⟨by decide, by decide⟩ hl.1 (by first | exact Nat.le_of_ble_eq_true rfl | simp [rf_cat, cat_i, cat_l, cat_r]) rfl dL_law_711 (fun H2 locs2 w2 => ?_)
    have hkM2 : h2.kd M = 13 := kd_keep w1 m2 hkM1 (by decide)
    have hse2 : h2.se = se := m2.2.2.2.1.trans hse1
    refine lv_istore (i := 6) (lv' := [(6, .int r), (5, .int (1 : Int32)), (0, .ref b), (1, .ref X), (2, .ref M), (3, .ref O), (4, .int (nI i))]) hx hb dL_law_714 hl (by decide) rfl (fun ls hl => ?_)
    refine lv_aload_n hx hb dL_law_716 rfl (lv_at hl 4 rfl) ?_
    refine jz_Vi (As := []) (r := h2.gi 1300 M) C hse2 w2 (cc_X10_thrown N M h2 hkM2 rfl) (Mo.rf h2) ⟨by omega, by omega⟩ hkM2 (by decide) rfl (fs := fs13 h2 M) rfl rfl ⟨tw_7_129, tw_7_126, tw_7_127, tw_7_128, tw_1_7⟩ cd_X10_thrown ⟨by decide, by decide⟩ hl.1 (by first | exact Nat.le_of_ble_eq_true rfl | simp [rf_cat, cat_i, cat_l, cat_r]) rfl dL_law_717 (fun H3 locs3 w3 => ?_)
    refine lv_iload hx hb dL_law_720 (lv_at hl 1 rfl) ?_
    refine lv_icmp_eq (tgt := 727) hx hb dL_law_722 (by decide) (fun _ => ?_) (fun c9 => absurd t0 c9)
    refine lv_iload hx hb dL_law_727 (lv_at hl 1 rfl) ?_
    refine lv_if_ne (tgt := 744) hx hb dL_law_729 (by decide) (fun _ => ?_) (fun c9 => absurd c9 (by decide))
    refine lv_goto (tgt := 1150) hx hb dL_law_744 (by decide) ?_
    rw [show cells + (hz.nx + 1 - h.nx) + (h2.nx - (hz.thr n1).nx) + (h2.nx - h2.nx) = cells + (hz.nx + 1 - h.nx + (h2.nx - n1)) by omega, show slots + (hz.su + 6 - h.su) + (h2.su - (hz.thr n1).su) + (h2.su - h2.su) = slots + (h2.su - h.su) by omega]
    exact kk _ _ _ _ _ _ hk w3 (lv_sub (l' := [(0, .ref b), (1, .ref X), (2, .ref M), (3, .ref O), (4, .int (nI i))]) hl [2, 3, 4, 5, 6] rfl)
  · have m1 := mo_xX9_remove N X h (xs (i + 1)) (xs (i + 2)) e1
    have a1 := m1.2.1
    have a2 := m1.2.2.1
    obtain ⟨h9, r9, g1, -, g2⟩ := he2 hz.nx (Nat.le_refl _)
    have hb1 := hK _ _ _ g2
    have a3 : hz.nx ≤ h9.nx := (mo_X10_remove N M (hz.thr hz.nx) (xs (i + 1)) (xs (i + 2)) g1).2.1
    have a4 : hz.su + 6 ≤ h9.su := (mo_X10_remove N M (hz.thr hz.nx) (xs (i + 1)) (xs (i + 2)) g1).2.2.1
    refine lv_aload_n hx hb dL_law_679 rfl (lv_at hl 1 rfl) ?_
    refine lw_arg hx hb hX hbl hbA w.2.2.1 hi hL (kn := 1) (by decide) (by decide) (lv_at hl 0 rfl) (lv_at hl 4 rfl) dL_law_680 dL_law_681 dL_law_683 dL_law_684 dL_law_685 ?_
    refine lw_arg hx hb hX hbl hbA w.2.2.1 hi hL (kn := 2) (by decide) (by decide) (lv_at hl 0 rfl) (lv_at hl 4 rfl) dL_law_686 dL_law_687 dL_law_689 dL_law_690 dL_law_691 ?_
    refine lv_aload_n hx hb dL_law_692 rfl (lv_at hl 3 rfl) ?_
    refine jz_Ht (As := [.ref X, .int (xs (i + 1)), .int (xs (i + 2)), .ref O]) C hse w hc3 (ht_remove_2 hl0 N X O h (xs (i + 1)) (xs (i + 2)) hkX e1) m1 ⟨by omega, by omega⟩ ⟨tw_6_88, tw_6_86, tw_6_87, tw_1_0⟩ cdL_remove ⟨by decide, by decide⟩ hl.1 (by first | exact Nat.le_of_ble_eq_true rfl | simp [rf_cat, cat_i, cat_l, cat_r]) rfl dL_law_693 (fun H1 locs1 n1 hn1 w1 => ?_)
    obtain ⟨h2, r, e2, t0, hk⟩ := he2 n1 hn1
    have m2 := mo_X10_remove N M (hz.thr n1) (xs (i + 1)) (xs (i + 2)) e2
    have hb2 := hK _ _ _ hk
    have a5 : n1 ≤ h2.nx := m2.2.1
    have a6 : hz.su + 6 ≤ h2.su := m2.2.2.1
    have q1 : (hz.thr n1).nx = n1 := rfl
    have q2 : (hz.thr n1).su = hz.su + 6 := rfl
    have hkM1 : (hz.thr n1).kd M = 13 := (m1.1 M (kd_lt w hkM (by decide))).trans hkM
    have hse1 : (hz.thr n1).se = se := m1.2.2.2.1.trans hse
    refine lv_istore (i := 5) (lv' := [(5, .int (2 : Int32)), (0, .ref b), (1, .ref X), (2, .ref M), (3, .ref O), (4, .int (nI i))]) hx hb dL_law_696 hl (by decide) rfl (fun ls hl => ?_)
    refine lv_aload_n hx hb dL_law_698 rfl (lv_at hl 3 rfl) ?_
    refine lw_arg hx hb hX hbl hbA w1.2.2.1 hi hL (kn := 1) (by decide) (by decide) (lv_at hl 1 rfl) (lv_at hl 5 rfl) dL_law_699 dL_law_700 dL_law_702 dL_law_703 dL_law_704 ?_
    refine lw_arg hx hb hX hbl hbA w1.2.2.1 hi hL (kn := 2) (by decide) (by decide) (lv_at hl 1 rfl) (lv_at hl 5 rfl) dL_law_705 dL_law_706 dL_law_708 dL_law_709 dL_law_710 ?_
    refine jz_Vi (As := [.int (xs (i + 1)), .int (xs (i + 2))]) C hse1 w1 (cc_X10_remove N M (hz.thr n1) (xs (i + 1)) (xs (i + 2)) hkM1 e2) m2 ⟨by omega, by omega⟩ hkM1 (by decide) rfl (fs := fs13 (hz.thr n1) M) rfl rfl ⟨tw_8_43, tw_8_40, tw_8_41, tw_8_42, tw_1_7⟩ cd_X10_remove ⟨by decide, by decide⟩ hl.1 (by first | exact Nat.le_of_ble_eq_true rfl | simp [rf_cat, cat_i, cat_l, cat_r]) rfl dL_law_711 (fun H2 locs2 w2 => ?_)
    have hkM2 : h2.kd M = 13 := kd_keep w1 m2 hkM1 (by decide)
    have hse2 : h2.se = se := m2.2.2.2.1.trans hse1
    refine lv_istore (i := 6) (lv' := [(6, .int r), (5, .int (2 : Int32)), (0, .ref b), (1, .ref X), (2, .ref M), (3, .ref O), (4, .int (nI i))]) hx hb dL_law_714 hl (by decide) rfl (fun ls hl => ?_)
    refine lv_aload_n hx hb dL_law_716 rfl (lv_at hl 4 rfl) ?_
    refine jz_Vi (As := []) (r := h2.gi 1300 M) C hse2 w2 (cc_X10_thrown N M h2 hkM2 rfl) (Mo.rf h2) ⟨by omega, by omega⟩ hkM2 (by decide) rfl (fs := fs13 h2 M) rfl rfl ⟨tw_7_129, tw_7_126, tw_7_127, tw_7_128, tw_1_7⟩ cd_X10_thrown ⟨by decide, by decide⟩ hl.1 (by first | exact Nat.le_of_ble_eq_true rfl | simp [rf_cat, cat_i, cat_l, cat_r]) rfl dL_law_717 (fun H3 locs3 w3 => ?_)
    refine lv_iload hx hb dL_law_720 (lv_at hl 1 rfl) ?_
    refine lv_icmp_eq (tgt := 727) hx hb dL_law_722 (by decide) (fun _ => ?_) (fun c9 => absurd t0 c9)
    refine lv_iload hx hb dL_law_727 (lv_at hl 1 rfl) ?_
    refine lv_if_ne (tgt := 744) hx hb dL_law_729 (by decide) (fun _ => ?_) (fun c9 => absurd c9 (by decide))
    refine lv_goto (tgt := 1150) hx hb dL_law_744 (by decide) ?_
    rw [show cells + (hz.nx + 1 - h.nx) + (h2.nx - (hz.thr n1).nx) + (h2.nx - h2.nx) = cells + (hz.nx + 1 - h.nx + (h2.nx - n1)) by omega, show slots + (hz.su + 6 - h.su) + (h2.su - (hz.thr n1).su) + (h2.su - h2.su) = slots + (h2.su - h.su) by omega]
    exact kk _ _ _ _ _ _ hk w3 (lv_sub (l' := [(0, .ref b), (1, .ref X), (2, .ref M), (3, .ref O), (4, .int (nI i))]) hl [2, 3, 4, 5, 6] rfl)
set_option maxRecDepth 100000 in
set_option maxHeartbeats 4000000 in
theorem lc_save (E0 : Lc p l s m meth c D cs A se b L xs) (hi : i + 5 ≤ L) (hk0 : Lk h se X M O) (hK : Kb K) (kk : Kk p l e s m below meth c Q D cs A b i X M O K) (hS : S_save N X M O h (xs (i + 1)) (fun h1 c1 s1 => K h1 (cells + c1) (slots + s1))) (w : Wz D cs A s h H locs) (hl : lv_has ls 8 [(0, .ref b), (1, .ref X), (2, .ref M), (3, .ref O), (4, .int (nI i))]) : W p l e RL1 s m #[Value.ref b] below meth c H locs cells slots Q (F0 m 747 ls []) := by
  obtain ⟨C, hc3, hl0, hX, hbl, hbA, hL⟩ := E0
  obtain ⟨hkX, hkM, hkO, haO, hse⟩ := hk0
  obtain ⟨hx, hb, hml, hown, hts, -⟩ := id C
  rcases hS with ⟨h1, h2, r, e1, e2, t0, hk⟩ | ⟨hz, e1, he2⟩
  · have m1 : Mo h (h1.saw O 0 r.toInt64) := (mo_X9_save N X h (xs (i + 1)) e1).tr (Mo.saw h1 O 0 _)
    have m2 := mo_X10_save N M (h1.saw O 0 r.toInt64) (xs (i + 1)) e2
    have hb1 := hK _ _ _ hk
    have a1 := m1.2.1
    have a2 := m1.2.2.1
    have a3 := m2.2.1
    have a4 := m2.2.2.1
    refine lv_aload_n hx hb dL_law_747 rfl (lv_at hl 1 rfl) ?_
    refine lw_arg hx hb hX hbl hbA w.2.2.1 hi hL (kn := 1) (by decide) (by decide) (lv_at hl 0 rfl) (lv_at hl 4 rfl) dL_law_748 dL_law_749 dL_law_751 dL_law_752 dL_law_753 ?_
    refine lv_aload_n hx hb dL_law_754 rfl (lv_at hl 3 rfl) ?_
    refine jz_Hn (As := [.ref X, .int (xs (i + 1)), .ref O]) C hse w hc3 (hn_save N X O h (xs (i + 1)) hkX hkO haO e1) m1 ⟨by omega, by omega⟩ ⟨tw_6_95, tw_6_93, tw_6_94, tw_1_0⟩ cdL_save ⟨by decide, by decide⟩ hl.1 (by first | exact Nat.le_of_ble_eq_true rfl | simp [rf_cat, cat_i, cat_l, cat_r]) rfl dL_law_755 (fun H1 locs1 w1 => ?_)
    have hkM1 : (h1.saw O 0 r.toInt64).kd M = 13 := (m1.1 M (kd_lt w hkM (by decide))).trans hkM
    have hse1 : (h1.saw O 0 r.toInt64).se = se := m1.2.2.2.1.trans hse
    refine lv_istore (i := 5) (lv' := [(5, .int (0 : Int32)), (0, .ref b), (1, .ref X), (2, .ref M), (3, .ref O), (4, .int (nI i))]) hx hb dL_law_758 hl (by decide) rfl (fun ls hl => ?_)
    refine lv_aload_n hx hb dL_law_760 rfl (lv_at hl 3 rfl) ?_
    refine lw_arg hx hb hX hbl hbA w1.2.2.1 hi hL (kn := 1) (by decide) (by decide) (lv_at hl 1 rfl) (lv_at hl 5 rfl) dL_law_761 dL_law_762 dL_law_764 dL_law_765 dL_law_766 ?_
    refine jz_Vi (As := [.int (xs (i + 1))]) C hse1 w1 (cc_X10_save N M (h1.saw O 0 r.toInt64) (xs (i + 1)) hkM1 e2) m2 ⟨by omega, by omega⟩ hkM1 (by decide) rfl (fs := fs13 (h1.saw O 0 r.toInt64) M) rfl rfl ⟨tw_8_47, tw_8_44, tw_8_45, tw_8_46, tw_1_7⟩ cd_X10_save ⟨by decide, by decide⟩ hl.1 (by first | exact Nat.le_of_ble_eq_true rfl | simp [rf_cat, cat_i, cat_l, cat_r]) rfl dL_law_767 (fun H2 locs2 w2 => ?_)
    have hkM2 : h2.kd M = 13 := kd_keep w1 m2 hkM1 (by decide)
    have hse2 : h2.se = se := m2.2.2.2.1.trans hse1
    refine lv_istore (i := 6) (lv' := [(6, .int r), (5, .int (0 : Int32)), (0, .ref b), (1, .ref X), (2, .ref M), (3, .ref O), (4, .int (nI i))]) hx hb dL_law_770 hl (by decide) rfl (fun ls hl => ?_)
    refine lv_aload_n hx hb dL_law_772 rfl (lv_at hl 4 rfl) ?_
    refine jz_Vi (As := []) (r := h2.gi 1300 M) C hse2 w2 (cc_X10_thrown N M h2 hkM2 rfl) (Mo.rf h2) ⟨by omega, by omega⟩ hkM2 (by decide) rfl (fs := fs13 h2 M) rfl rfl ⟨tw_7_129, tw_7_126, tw_7_127, tw_7_128, tw_1_7⟩ cd_X10_thrown ⟨by decide, by decide⟩ hl.1 (by first | exact Nat.le_of_ble_eq_true rfl | simp [rf_cat, cat_i, cat_l, cat_r]) rfl dL_law_773 (fun H3 locs3 w3 => ?_)
    refine lv_iload hx hb dL_law_776 (lv_at hl 1 rfl) ?_
    refine lv_icmp_eq (tgt := 783) hx hb dL_law_778 (by decide) (fun _ => ?_) (fun c9 => absurd t0 c9)
    refine lv_iload hx hb dL_law_783 (lv_at hl 1 rfl) ?_
    refine lv_if_ne (tgt := 800) hx hb dL_law_785 (by decide) (fun c9 => absurd rfl c9) (fun _ => ?_)
    have hkO1 : (h1.saw O 0 r.toInt64).kd O = 21 := kd_keep w m1 hkO (by decide)
    have hO1 : O < (h1.saw O 0 r.toInt64).nx := kd_lt w1 hkO1 (by decide)
    have hkO2 : h2.kd O = 21 := kd_keep w1 m2 hkO1 (by decide)
    have haO2 : h2.al O = 1 := (m2.2.2.2.2 O hO1).trans ((m1.2.2.2.2 O (kd_lt w hkO (by decide))).trans haO)
    have hv : h2.aw O 0 = r.toInt64 := by
      rw [(fo_X10_save N M (h1.saw O 0 r.toInt64) (xs (i + 1)) e2).2.2.2.2.2.1 O hO1]
      show va_up h1.aw O (va_up (h1.aw O) 0 _) O 0 = _
      rw [va_up_self, va_up_self]
    refine lv_aload_n hx hb dL_law_788 rfl (lv_at hl 5 rfl) ?_
    refine lv_iconst (v := (0 : Int32)) hx hb dL_law_789 (by decide) ?_
    refine jz_lald C w3 hkO2 (by rw [haO2]; decide) dL_law_790 ?_
    refine lv_iload hx hb dL_law_791 (lv_at hl 0 rfl) ?_
    refine lv_i2l hx hb dL_law_793 rfl ?_
    refine W.lcmp hx hb dL_law_794 ?_
    refine lv_if_eq (tgt := 800) hx hb dL_law_795 (by decide) (fun _ => ?_) (fun c9 => absurd (show lg_cmp (h2.aw O (0 : Int32).toNatClampNeg) _ = 0 by rw [show (0 : Int32).toNatClampNeg = 0 from rfl, hv]; exact lg_self _) c9)
    refine lv_goto (tgt := 1150) hx hb dL_law_800 (by decide) ?_
    rw [show cells + ((h1.saw O 0 r.toInt64).nx - h.nx) + (h2.nx - (h1.saw O 0 r.toInt64).nx) + (h2.nx - h2.nx) = cells + (h2.nx - h.nx) by omega, show slots + ((h1.saw O 0 r.toInt64).su - h.su) + (h2.su - (h1.saw O 0 r.toInt64).su) + (h2.su - h2.su) = slots + (h2.su - h.su) by omega]
    exact kk _ _ _ _ _ _ hk w3 (lv_sub (l' := [(0, .ref b), (1, .ref X), (2, .ref M), (3, .ref O), (4, .int (nI i))]) hl [2, 3, 4, 5, 6] rfl)
  · have m1 := mo_xX9_save N X h (xs (i + 1)) e1
    have a1 := m1.2.1
    have a2 := m1.2.2.1
    obtain ⟨h9, r9, g1, -, g2⟩ := he2 hz.nx (Nat.le_refl _)
    have hb1 := hK _ _ _ g2
    have a3 : hz.nx ≤ h9.nx := (mo_X10_save N M (hz.thr hz.nx) (xs (i + 1)) g1).2.1
    have a4 : hz.su + 6 ≤ h9.su := (mo_X10_save N M (hz.thr hz.nx) (xs (i + 1)) g1).2.2.1
    refine lv_aload_n hx hb dL_law_747 rfl (lv_at hl 1 rfl) ?_
    refine lw_arg hx hb hX hbl hbA w.2.2.1 hi hL (kn := 1) (by decide) (by decide) (lv_at hl 0 rfl) (lv_at hl 4 rfl) dL_law_748 dL_law_749 dL_law_751 dL_law_752 dL_law_753 ?_
    refine lv_aload_n hx hb dL_law_754 rfl (lv_at hl 3 rfl) ?_
    refine jz_Ht (As := [.ref X, .int (xs (i + 1)), .ref O]) C hse w hc3 (ht_save_1 hl0 N X O h (xs (i + 1)) hkX e1) m1 ⟨by omega, by omega⟩ ⟨tw_6_95, tw_6_93, tw_6_94, tw_1_0⟩ cdL_save ⟨by decide, by decide⟩ hl.1 (by first | exact Nat.le_of_ble_eq_true rfl | simp [rf_cat, cat_i, cat_l, cat_r]) rfl dL_law_755 (fun H1 locs1 n1 hn1 w1 => ?_)
    obtain ⟨h2, r, e2, t0, hk⟩ := he2 n1 hn1
    have m2 := mo_X10_save N M (hz.thr n1) (xs (i + 1)) e2
    have hb2 := hK _ _ _ hk
    have a5 : n1 ≤ h2.nx := m2.2.1
    have a6 : hz.su + 6 ≤ h2.su := m2.2.2.1
    have q1 : (hz.thr n1).nx = n1 := rfl
    have q2 : (hz.thr n1).su = hz.su + 6 := rfl
    have hkM1 : (hz.thr n1).kd M = 13 := (m1.1 M (kd_lt w hkM (by decide))).trans hkM
    have hse1 : (hz.thr n1).se = se := m1.2.2.2.1.trans hse
    refine lv_istore (i := 5) (lv' := [(5, .int (1 : Int32)), (0, .ref b), (1, .ref X), (2, .ref M), (3, .ref O), (4, .int (nI i))]) hx hb dL_law_758 hl (by decide) rfl (fun ls hl => ?_)
    refine lv_aload_n hx hb dL_law_760 rfl (lv_at hl 3 rfl) ?_
    refine lw_arg hx hb hX hbl hbA w1.2.2.1 hi hL (kn := 1) (by decide) (by decide) (lv_at hl 1 rfl) (lv_at hl 5 rfl) dL_law_761 dL_law_762 dL_law_764 dL_law_765 dL_law_766 ?_
    refine jz_Vi (As := [.int (xs (i + 1))]) C hse1 w1 (cc_X10_save N M (hz.thr n1) (xs (i + 1)) hkM1 e2) m2 ⟨by omega, by omega⟩ hkM1 (by decide) rfl (fs := fs13 (hz.thr n1) M) rfl rfl ⟨tw_8_47, tw_8_44, tw_8_45, tw_8_46, tw_1_7⟩ cd_X10_save ⟨by decide, by decide⟩ hl.1 (by first | exact Nat.le_of_ble_eq_true rfl | simp [rf_cat, cat_i, cat_l, cat_r]) rfl dL_law_767 (fun H2 locs2 w2 => ?_)
    have hkM2 : h2.kd M = 13 := kd_keep w1 m2 hkM1 (by decide)
    have hse2 : h2.se = se := m2.2.2.2.1.trans hse1
    refine lv_istore (i := 6) (lv' := [(6, .int r), (5, .int (1 : Int32)), (0, .ref b), (1, .ref X), (2, .ref M), (3, .ref O), (4, .int (nI i))]) hx hb dL_law_770 hl (by decide) rfl (fun ls hl => ?_)
    refine lv_aload_n hx hb dL_law_772 rfl (lv_at hl 4 rfl) ?_
    refine jz_Vi (As := []) (r := h2.gi 1300 M) C hse2 w2 (cc_X10_thrown N M h2 hkM2 rfl) (Mo.rf h2) ⟨by omega, by omega⟩ hkM2 (by decide) rfl (fs := fs13 h2 M) rfl rfl ⟨tw_7_129, tw_7_126, tw_7_127, tw_7_128, tw_1_7⟩ cd_X10_thrown ⟨by decide, by decide⟩ hl.1 (by first | exact Nat.le_of_ble_eq_true rfl | simp [rf_cat, cat_i, cat_l, cat_r]) rfl dL_law_773 (fun H3 locs3 w3 => ?_)
    refine lv_iload hx hb dL_law_776 (lv_at hl 1 rfl) ?_
    refine lv_icmp_eq (tgt := 783) hx hb dL_law_778 (by decide) (fun _ => ?_) (fun c9 => absurd t0 c9)
    refine lv_iload hx hb dL_law_783 (lv_at hl 1 rfl) ?_
    refine lv_if_ne (tgt := 800) hx hb dL_law_785 (by decide) (fun _ => ?_) (fun c9 => absurd c9 (by decide))
    refine lv_goto (tgt := 1150) hx hb dL_law_800 (by decide) ?_
    rw [show cells + (hz.nx + 1 - h.nx) + (h2.nx - (hz.thr n1).nx) + (h2.nx - h2.nx) = cells + (hz.nx + 1 - h.nx + (h2.nx - n1)) by omega, show slots + (hz.su + 6 - h.su) + (h2.su - (hz.thr n1).su) + (h2.su - h2.su) = slots + (h2.su - h.su) by omega]
    exact kk _ _ _ _ _ _ hk w3 (lv_sub (l' := [(0, .ref b), (1, .ref X), (2, .ref M), (3, .ref O), (4, .int (nI i))]) hl [2, 3, 4, 5, 6] rfl)
set_option maxRecDepth 100000 in
set_option maxHeartbeats 4000000 in
theorem lc_undo (E0 : Lc p l s m meth c D cs A se b L xs) (hi : i + 5 ≤ L) (hk0 : Lk h se X M O) (hK : Kb K) (kk : Kk p l e s m below meth c Q D cs A b i X M O K) (hS : S_undo N X M O h (xs (i + 1)) (xs (i + 2)) (fun h1 c1 s1 => K h1 (cells + c1) (slots + s1))) (w : Wz D cs A s h H locs) (hl : lv_has ls 8 [(0, .ref b), (1, .ref X), (2, .ref M), (3, .ref O), (4, .int (nI i))]) : W p l e RL1 s m #[Value.ref b] below meth c H locs cells slots Q (F0 m 803 ls []) := by
  obtain ⟨C, hc3, hl0, hX, hbl, hbA, hL⟩ := E0
  obtain ⟨hkX, hkM, hkO, haO, hse⟩ := hk0
  obtain ⟨hx, hb, hml, hown, hts, -⟩ := id C
  rcases hS with ⟨h1, h2, r, e1, e2, t0, hk⟩ | ⟨hz, e1, he2⟩ | ⟨hz, e1, he2⟩
  · have m1 : Mo h (h1.saw O 0 r.toInt64) := (mo_X9_undo N X h (xs (i + 1)) (xs (i + 2)) e1).tr (Mo.saw h1 O 0 _)
    have m2 := mo_X10_undo N M (h1.saw O 0 r.toInt64) (xs (i + 1)) (xs (i + 2)) e2
    have hb1 := hK _ _ _ hk
    have a1 := m1.2.1
    have a2 := m1.2.2.1
    have a3 := m2.2.1
    have a4 := m2.2.2.1
    refine lv_aload_n hx hb dL_law_803 rfl (lv_at hl 1 rfl) ?_
    refine lw_arg hx hb hX hbl hbA w.2.2.1 hi hL (kn := 1) (by decide) (by decide) (lv_at hl 0 rfl) (lv_at hl 4 rfl) dL_law_804 dL_law_805 dL_law_807 dL_law_808 dL_law_809 ?_
    refine lw_arg hx hb hX hbl hbA w.2.2.1 hi hL (kn := 2) (by decide) (by decide) (lv_at hl 0 rfl) (lv_at hl 4 rfl) dL_law_810 dL_law_811 dL_law_813 dL_law_814 dL_law_815 ?_
    refine lv_aload_n hx hb dL_law_816 rfl (lv_at hl 3 rfl) ?_
    refine jz_Hn (As := [.ref X, .int (xs (i + 1)), .int (xs (i + 2)), .ref O]) C hse w hc3 (hn_undo N X O h (xs (i + 1)) (xs (i + 2)) hkX hkO haO e1) m1 ⟨by omega, by omega⟩ ⟨tw_6_102, tw_6_100, tw_6_101, tw_1_0⟩ cdL_undo ⟨by decide, by decide⟩ hl.1 (by first | exact Nat.le_of_ble_eq_true rfl | simp [rf_cat, cat_i, cat_l, cat_r]) rfl dL_law_817 (fun H1 locs1 w1 => ?_)
    have hkM1 : (h1.saw O 0 r.toInt64).kd M = 13 := (m1.1 M (kd_lt w hkM (by decide))).trans hkM
    have hse1 : (h1.saw O 0 r.toInt64).se = se := m1.2.2.2.1.trans hse
    refine lv_istore (i := 5) (lv' := [(5, .int (0 : Int32)), (0, .ref b), (1, .ref X), (2, .ref M), (3, .ref O), (4, .int (nI i))]) hx hb dL_law_820 hl (by decide) rfl (fun ls hl => ?_)
    refine lv_aload_n hx hb dL_law_822 rfl (lv_at hl 3 rfl) ?_
    refine lw_arg hx hb hX hbl hbA w1.2.2.1 hi hL (kn := 1) (by decide) (by decide) (lv_at hl 1 rfl) (lv_at hl 5 rfl) dL_law_823 dL_law_824 dL_law_826 dL_law_827 dL_law_828 ?_
    refine lw_arg hx hb hX hbl hbA w1.2.2.1 hi hL (kn := 2) (by decide) (by decide) (lv_at hl 1 rfl) (lv_at hl 5 rfl) dL_law_829 dL_law_830 dL_law_832 dL_law_833 dL_law_834 ?_
    refine jz_Vi (As := [.int (xs (i + 1)), .int (xs (i + 2))]) C hse1 w1 (cc_X10_undo N M (h1.saw O 0 r.toInt64) (xs (i + 1)) (xs (i + 2)) hkM1 e2) m2 ⟨by omega, by omega⟩ hkM1 (by decide) rfl (fs := fs13 (h1.saw O 0 r.toInt64) M) rfl rfl ⟨tw_8_51, tw_8_48, tw_8_49, tw_8_50, tw_1_7⟩ cd_X10_undo ⟨by decide, by decide⟩ hl.1 (by first | exact Nat.le_of_ble_eq_true rfl | simp [rf_cat, cat_i, cat_l, cat_r]) rfl dL_law_835 (fun H2 locs2 w2 => ?_)
    have hkM2 : h2.kd M = 13 := kd_keep w1 m2 hkM1 (by decide)
    have hse2 : h2.se = se := m2.2.2.2.1.trans hse1
    refine lv_istore (i := 6) (lv' := [(6, .int r), (5, .int (0 : Int32)), (0, .ref b), (1, .ref X), (2, .ref M), (3, .ref O), (4, .int (nI i))]) hx hb dL_law_838 hl (by decide) rfl (fun ls hl => ?_)
    refine lv_aload_n hx hb dL_law_840 rfl (lv_at hl 4 rfl) ?_
    refine jz_Vi (As := []) (r := h2.gi 1300 M) C hse2 w2 (cc_X10_thrown N M h2 hkM2 rfl) (Mo.rf h2) ⟨by omega, by omega⟩ hkM2 (by decide) rfl (fs := fs13 h2 M) rfl rfl ⟨tw_7_129, tw_7_126, tw_7_127, tw_7_128, tw_1_7⟩ cd_X10_thrown ⟨by decide, by decide⟩ hl.1 (by first | exact Nat.le_of_ble_eq_true rfl | simp [rf_cat, cat_i, cat_l, cat_r]) rfl dL_law_841 (fun H3 locs3 w3 => ?_)
    refine lv_iload hx hb dL_law_844 (lv_at hl 1 rfl) ?_
    refine lv_icmp_eq (tgt := 851) hx hb dL_law_846 (by decide) (fun _ => ?_) (fun c9 => absurd t0 c9)
    refine lv_iload hx hb dL_law_851 (lv_at hl 1 rfl) ?_
    refine lv_if_ne (tgt := 868) hx hb dL_law_853 (by decide) (fun c9 => absurd rfl c9) (fun _ => ?_)
    have hkO1 : (h1.saw O 0 r.toInt64).kd O = 21 := kd_keep w m1 hkO (by decide)
    have hO1 : O < (h1.saw O 0 r.toInt64).nx := kd_lt w1 hkO1 (by decide)
    have hkO2 : h2.kd O = 21 := kd_keep w1 m2 hkO1 (by decide)
    have haO2 : h2.al O = 1 := (m2.2.2.2.2 O hO1).trans ((m1.2.2.2.2 O (kd_lt w hkO (by decide))).trans haO)
    have hv : h2.aw O 0 = r.toInt64 := by
      rw [(fo_X10_undo N M (h1.saw O 0 r.toInt64) (xs (i + 1)) (xs (i + 2)) e2).2.2.2.2.2.1 O hO1]
      show va_up h1.aw O (va_up (h1.aw O) 0 _) O 0 = _
      rw [va_up_self, va_up_self]
    refine lv_aload_n hx hb dL_law_856 rfl (lv_at hl 5 rfl) ?_
    refine lv_iconst (v := (0 : Int32)) hx hb dL_law_857 (by decide) ?_
    refine jz_lald C w3 hkO2 (by rw [haO2]; decide) dL_law_858 ?_
    refine lv_iload hx hb dL_law_859 (lv_at hl 0 rfl) ?_
    refine lv_i2l hx hb dL_law_861 rfl ?_
    refine W.lcmp hx hb dL_law_862 ?_
    refine lv_if_eq (tgt := 868) hx hb dL_law_863 (by decide) (fun _ => ?_) (fun c9 => absurd (show lg_cmp (h2.aw O (0 : Int32).toNatClampNeg) _ = 0 by rw [show (0 : Int32).toNatClampNeg = 0 from rfl, hv]; exact lg_self _) c9)
    refine lv_goto (tgt := 1150) hx hb dL_law_868 (by decide) ?_
    rw [show cells + ((h1.saw O 0 r.toInt64).nx - h.nx) + (h2.nx - (h1.saw O 0 r.toInt64).nx) + (h2.nx - h2.nx) = cells + (h2.nx - h.nx) by omega, show slots + ((h1.saw O 0 r.toInt64).su - h.su) + (h2.su - (h1.saw O 0 r.toInt64).su) + (h2.su - h2.su) = slots + (h2.su - h.su) by omega]
    exact kk _ _ _ _ _ _ hk w3 (lv_sub (l' := [(0, .ref b), (1, .ref X), (2, .ref M), (3, .ref O), (4, .int (nI i))]) hl [2, 3, 4, 5, 6] rfl)
  · have m1 := mo_xX9_undo N X h (xs (i + 1)) (xs (i + 2)) e1
    have a1 := m1.2.1
    have a2 := m1.2.2.1
    obtain ⟨h9, r9, g1, -, g2⟩ := he2 hz.nx (Nat.le_refl _)
    have hb1 := hK _ _ _ g2
    have a3 : hz.nx ≤ h9.nx := (mo_X10_undo N M (hz.thr hz.nx) (xs (i + 1)) (xs (i + 2)) g1).2.1
    have a4 : hz.su + 6 ≤ h9.su := (mo_X10_undo N M (hz.thr hz.nx) (xs (i + 1)) (xs (i + 2)) g1).2.2.1
    refine lv_aload_n hx hb dL_law_803 rfl (lv_at hl 1 rfl) ?_
    refine lw_arg hx hb hX hbl hbA w.2.2.1 hi hL (kn := 1) (by decide) (by decide) (lv_at hl 0 rfl) (lv_at hl 4 rfl) dL_law_804 dL_law_805 dL_law_807 dL_law_808 dL_law_809 ?_
    refine lw_arg hx hb hX hbl hbA w.2.2.1 hi hL (kn := 2) (by decide) (by decide) (lv_at hl 0 rfl) (lv_at hl 4 rfl) dL_law_810 dL_law_811 dL_law_813 dL_law_814 dL_law_815 ?_
    refine lv_aload_n hx hb dL_law_816 rfl (lv_at hl 3 rfl) ?_
    refine jz_Ht (As := [.ref X, .int (xs (i + 1)), .int (xs (i + 2)), .ref O]) C hse w hc3 (ht_undo_1 hl0 N X O h (xs (i + 1)) (xs (i + 2)) hkX e1) m1 ⟨by omega, by omega⟩ ⟨tw_6_102, tw_6_100, tw_6_101, tw_1_0⟩ cdL_undo ⟨by decide, by decide⟩ hl.1 (by first | exact Nat.le_of_ble_eq_true rfl | simp [rf_cat, cat_i, cat_l, cat_r]) rfl dL_law_817 (fun H1 locs1 n1 hn1 w1 => ?_)
    obtain ⟨h2, r, e2, t0, hk⟩ := he2 n1 hn1
    have m2 := mo_X10_undo N M (hz.thr n1) (xs (i + 1)) (xs (i + 2)) e2
    have hb2 := hK _ _ _ hk
    have a5 : n1 ≤ h2.nx := m2.2.1
    have a6 : hz.su + 6 ≤ h2.su := m2.2.2.1
    have q1 : (hz.thr n1).nx = n1 := rfl
    have q2 : (hz.thr n1).su = hz.su + 6 := rfl
    have hkM1 : (hz.thr n1).kd M = 13 := (m1.1 M (kd_lt w hkM (by decide))).trans hkM
    have hse1 : (hz.thr n1).se = se := m1.2.2.2.1.trans hse
    refine lv_istore (i := 5) (lv' := [(5, .int (1 : Int32)), (0, .ref b), (1, .ref X), (2, .ref M), (3, .ref O), (4, .int (nI i))]) hx hb dL_law_820 hl (by decide) rfl (fun ls hl => ?_)
    refine lv_aload_n hx hb dL_law_822 rfl (lv_at hl 3 rfl) ?_
    refine lw_arg hx hb hX hbl hbA w1.2.2.1 hi hL (kn := 1) (by decide) (by decide) (lv_at hl 1 rfl) (lv_at hl 5 rfl) dL_law_823 dL_law_824 dL_law_826 dL_law_827 dL_law_828 ?_
    refine lw_arg hx hb hX hbl hbA w1.2.2.1 hi hL (kn := 2) (by decide) (by decide) (lv_at hl 1 rfl) (lv_at hl 5 rfl) dL_law_829 dL_law_830 dL_law_832 dL_law_833 dL_law_834 ?_
    refine jz_Vi (As := [.int (xs (i + 1)), .int (xs (i + 2))]) C hse1 w1 (cc_X10_undo N M (hz.thr n1) (xs (i + 1)) (xs (i + 2)) hkM1 e2) m2 ⟨by omega, by omega⟩ hkM1 (by decide) rfl (fs := fs13 (hz.thr n1) M) rfl rfl ⟨tw_8_51, tw_8_48, tw_8_49, tw_8_50, tw_1_7⟩ cd_X10_undo ⟨by decide, by decide⟩ hl.1 (by first | exact Nat.le_of_ble_eq_true rfl | simp [rf_cat, cat_i, cat_l, cat_r]) rfl dL_law_835 (fun H2 locs2 w2 => ?_)
    have hkM2 : h2.kd M = 13 := kd_keep w1 m2 hkM1 (by decide)
    have hse2 : h2.se = se := m2.2.2.2.1.trans hse1
    refine lv_istore (i := 6) (lv' := [(6, .int r), (5, .int (1 : Int32)), (0, .ref b), (1, .ref X), (2, .ref M), (3, .ref O), (4, .int (nI i))]) hx hb dL_law_838 hl (by decide) rfl (fun ls hl => ?_)
    refine lv_aload_n hx hb dL_law_840 rfl (lv_at hl 4 rfl) ?_
    refine jz_Vi (As := []) (r := h2.gi 1300 M) C hse2 w2 (cc_X10_thrown N M h2 hkM2 rfl) (Mo.rf h2) ⟨by omega, by omega⟩ hkM2 (by decide) rfl (fs := fs13 h2 M) rfl rfl ⟨tw_7_129, tw_7_126, tw_7_127, tw_7_128, tw_1_7⟩ cd_X10_thrown ⟨by decide, by decide⟩ hl.1 (by first | exact Nat.le_of_ble_eq_true rfl | simp [rf_cat, cat_i, cat_l, cat_r]) rfl dL_law_841 (fun H3 locs3 w3 => ?_)
    refine lv_iload hx hb dL_law_844 (lv_at hl 1 rfl) ?_
    refine lv_icmp_eq (tgt := 851) hx hb dL_law_846 (by decide) (fun _ => ?_) (fun c9 => absurd t0 c9)
    refine lv_iload hx hb dL_law_851 (lv_at hl 1 rfl) ?_
    refine lv_if_ne (tgt := 868) hx hb dL_law_853 (by decide) (fun _ => ?_) (fun c9 => absurd c9 (by decide))
    refine lv_goto (tgt := 1150) hx hb dL_law_868 (by decide) ?_
    rw [show cells + (hz.nx + 1 - h.nx) + (h2.nx - (hz.thr n1).nx) + (h2.nx - h2.nx) = cells + (hz.nx + 1 - h.nx + (h2.nx - n1)) by omega, show slots + (hz.su + 6 - h.su) + (h2.su - (hz.thr n1).su) + (h2.su - h2.su) = slots + (h2.su - h.su) by omega]
    exact kk _ _ _ _ _ _ hk w3 (lv_sub (l' := [(0, .ref b), (1, .ref X), (2, .ref M), (3, .ref O), (4, .int (nI i))]) hl [2, 3, 4, 5, 6] rfl)
  · have m1 := mo_xX9_undo N X h (xs (i + 1)) (xs (i + 2)) e1
    have a1 := m1.2.1
    have a2 := m1.2.2.1
    obtain ⟨h9, r9, g1, -, g2⟩ := he2 hz.nx (Nat.le_refl _)
    have hb1 := hK _ _ _ g2
    have a3 : hz.nx ≤ h9.nx := (mo_X10_undo N M (hz.thr hz.nx) (xs (i + 1)) (xs (i + 2)) g1).2.1
    have a4 : hz.su + 6 ≤ h9.su := (mo_X10_undo N M (hz.thr hz.nx) (xs (i + 1)) (xs (i + 2)) g1).2.2.1
    refine lv_aload_n hx hb dL_law_803 rfl (lv_at hl 1 rfl) ?_
    refine lw_arg hx hb hX hbl hbA w.2.2.1 hi hL (kn := 1) (by decide) (by decide) (lv_at hl 0 rfl) (lv_at hl 4 rfl) dL_law_804 dL_law_805 dL_law_807 dL_law_808 dL_law_809 ?_
    refine lw_arg hx hb hX hbl hbA w.2.2.1 hi hL (kn := 2) (by decide) (by decide) (lv_at hl 0 rfl) (lv_at hl 4 rfl) dL_law_810 dL_law_811 dL_law_813 dL_law_814 dL_law_815 ?_
    refine lv_aload_n hx hb dL_law_816 rfl (lv_at hl 3 rfl) ?_
    refine jz_Ht (As := [.ref X, .int (xs (i + 1)), .int (xs (i + 2)), .ref O]) C hse w hc3 (ht_undo_2 hl0 N X O h (xs (i + 1)) (xs (i + 2)) hkX e1) m1 ⟨by omega, by omega⟩ ⟨tw_6_102, tw_6_100, tw_6_101, tw_1_0⟩ cdL_undo ⟨by decide, by decide⟩ hl.1 (by first | exact Nat.le_of_ble_eq_true rfl | simp [rf_cat, cat_i, cat_l, cat_r]) rfl dL_law_817 (fun H1 locs1 n1 hn1 w1 => ?_)
    obtain ⟨h2, r, e2, t0, hk⟩ := he2 n1 hn1
    have m2 := mo_X10_undo N M (hz.thr n1) (xs (i + 1)) (xs (i + 2)) e2
    have hb2 := hK _ _ _ hk
    have a5 : n1 ≤ h2.nx := m2.2.1
    have a6 : hz.su + 6 ≤ h2.su := m2.2.2.1
    have q1 : (hz.thr n1).nx = n1 := rfl
    have q2 : (hz.thr n1).su = hz.su + 6 := rfl
    have hkM1 : (hz.thr n1).kd M = 13 := (m1.1 M (kd_lt w hkM (by decide))).trans hkM
    have hse1 : (hz.thr n1).se = se := m1.2.2.2.1.trans hse
    refine lv_istore (i := 5) (lv' := [(5, .int (2 : Int32)), (0, .ref b), (1, .ref X), (2, .ref M), (3, .ref O), (4, .int (nI i))]) hx hb dL_law_820 hl (by decide) rfl (fun ls hl => ?_)
    refine lv_aload_n hx hb dL_law_822 rfl (lv_at hl 3 rfl) ?_
    refine lw_arg hx hb hX hbl hbA w1.2.2.1 hi hL (kn := 1) (by decide) (by decide) (lv_at hl 1 rfl) (lv_at hl 5 rfl) dL_law_823 dL_law_824 dL_law_826 dL_law_827 dL_law_828 ?_
    refine lw_arg hx hb hX hbl hbA w1.2.2.1 hi hL (kn := 2) (by decide) (by decide) (lv_at hl 1 rfl) (lv_at hl 5 rfl) dL_law_829 dL_law_830 dL_law_832 dL_law_833 dL_law_834 ?_
    refine jz_Vi (As := [.int (xs (i + 1)), .int (xs (i + 2))]) C hse1 w1 (cc_X10_undo N M (hz.thr n1) (xs (i + 1)) (xs (i + 2)) hkM1 e2) m2 ⟨by omega, by omega⟩ hkM1 (by decide) rfl (fs := fs13 (hz.thr n1) M) rfl rfl ⟨tw_8_51, tw_8_48, tw_8_49, tw_8_50, tw_1_7⟩ cd_X10_undo ⟨by decide, by decide⟩ hl.1 (by first | exact Nat.le_of_ble_eq_true rfl | simp [rf_cat, cat_i, cat_l, cat_r]) rfl dL_law_835 (fun H2 locs2 w2 => ?_)
    have hkM2 : h2.kd M = 13 := kd_keep w1 m2 hkM1 (by decide)
    have hse2 : h2.se = se := m2.2.2.2.1.trans hse1
    refine lv_istore (i := 6) (lv' := [(6, .int r), (5, .int (2 : Int32)), (0, .ref b), (1, .ref X), (2, .ref M), (3, .ref O), (4, .int (nI i))]) hx hb dL_law_838 hl (by decide) rfl (fun ls hl => ?_)
    refine lv_aload_n hx hb dL_law_840 rfl (lv_at hl 4 rfl) ?_
    refine jz_Vi (As := []) (r := h2.gi 1300 M) C hse2 w2 (cc_X10_thrown N M h2 hkM2 rfl) (Mo.rf h2) ⟨by omega, by omega⟩ hkM2 (by decide) rfl (fs := fs13 h2 M) rfl rfl ⟨tw_7_129, tw_7_126, tw_7_127, tw_7_128, tw_1_7⟩ cd_X10_thrown ⟨by decide, by decide⟩ hl.1 (by first | exact Nat.le_of_ble_eq_true rfl | simp [rf_cat, cat_i, cat_l, cat_r]) rfl dL_law_841 (fun H3 locs3 w3 => ?_)
    refine lv_iload hx hb dL_law_844 (lv_at hl 1 rfl) ?_
    refine lv_icmp_eq (tgt := 851) hx hb dL_law_846 (by decide) (fun _ => ?_) (fun c9 => absurd t0 c9)
    refine lv_iload hx hb dL_law_851 (lv_at hl 1 rfl) ?_
    refine lv_if_ne (tgt := 868) hx hb dL_law_853 (by decide) (fun _ => ?_) (fun c9 => absurd c9 (by decide))
    refine lv_goto (tgt := 1150) hx hb dL_law_868 (by decide) ?_
    rw [show cells + (hz.nx + 1 - h.nx) + (h2.nx - (hz.thr n1).nx) + (h2.nx - h2.nx) = cells + (hz.nx + 1 - h.nx + (h2.nx - n1)) by omega, show slots + (hz.su + 6 - h.su) + (h2.su - (hz.thr n1).su) + (h2.su - h2.su) = slots + (h2.su - h.su) by omega]
    exact kk _ _ _ _ _ _ hk w3 (lv_sub (l' := [(0, .ref b), (1, .ref X), (2, .ref M), (3, .ref O), (4, .int (nI i))]) hl [2, 3, 4, 5, 6] rfl)
set_option maxRecDepth 100000 in
set_option maxHeartbeats 4000000 in
theorem lc_commit (E0 : Lc p l s m meth c D cs A se b L xs) (hi : i + 5 ≤ L) (hk0 : Lk h se X M O) (hK : Kb K) (kk : Kk p l e s m below meth c Q D cs A b i X M O K) (hS : S_commit N X M O h (xs (i + 1)) (fun h1 c1 s1 => K h1 (cells + c1) (slots + s1))) (w : Wz D cs A s h H locs) (hl : lv_has ls 8 [(0, .ref b), (1, .ref X), (2, .ref M), (3, .ref O), (4, .int (nI i))]) : W p l e RL1 s m #[Value.ref b] below meth c H locs cells slots Q (F0 m 871 ls []) := by
  obtain ⟨C, hc3, hl0, hX, hbl, hbA, hL⟩ := E0
  obtain ⟨hkX, hkM, hkO, haO, hse⟩ := hk0
  obtain ⟨hx, hb, hml, hown, hts, -⟩ := id C
  rcases hS with ⟨h1, h2, r, e1, e2, t0, hk⟩ | ⟨hz, e1, he2⟩
  · have m1 : Mo h (h1.saw O 0 r.toInt64) := (mo_X9_commit N X h (xs (i + 1)) e1).tr (Mo.saw h1 O 0 _)
    have m2 := mo_X10_commit N M (h1.saw O 0 r.toInt64) (xs (i + 1)) e2
    have hb1 := hK _ _ _ hk
    have a1 := m1.2.1
    have a2 := m1.2.2.1
    have a3 := m2.2.1
    have a4 := m2.2.2.1
    refine lv_aload_n hx hb dL_law_871 rfl (lv_at hl 1 rfl) ?_
    refine lw_arg hx hb hX hbl hbA w.2.2.1 hi hL (kn := 1) (by decide) (by decide) (lv_at hl 0 rfl) (lv_at hl 4 rfl) dL_law_872 dL_law_873 dL_law_875 dL_law_876 dL_law_877 ?_
    refine lv_aload_n hx hb dL_law_878 rfl (lv_at hl 3 rfl) ?_
    refine jz_Hn (As := [.ref X, .int (xs (i + 1)), .ref O]) C hse w hc3 (hn_commit N X O h (xs (i + 1)) hkX hkO haO e1) m1 ⟨by omega, by omega⟩ ⟨tw_6_114, tw_6_112, tw_6_113, tw_1_0⟩ cdL_commit ⟨by decide, by decide⟩ hl.1 (by first | exact Nat.le_of_ble_eq_true rfl | simp [rf_cat, cat_i, cat_l, cat_r]) rfl dL_law_879 (fun H1 locs1 w1 => ?_)
    have hkM1 : (h1.saw O 0 r.toInt64).kd M = 13 := (m1.1 M (kd_lt w hkM (by decide))).trans hkM
    have hse1 : (h1.saw O 0 r.toInt64).se = se := m1.2.2.2.1.trans hse
    refine lv_istore (i := 5) (lv' := [(5, .int (0 : Int32)), (0, .ref b), (1, .ref X), (2, .ref M), (3, .ref O), (4, .int (nI i))]) hx hb dL_law_882 hl (by decide) rfl (fun ls hl => ?_)
    refine lv_aload_n hx hb dL_law_884 rfl (lv_at hl 3 rfl) ?_
    refine lw_arg hx hb hX hbl hbA w1.2.2.1 hi hL (kn := 1) (by decide) (by decide) (lv_at hl 1 rfl) (lv_at hl 5 rfl) dL_law_885 dL_law_886 dL_law_888 dL_law_889 dL_law_890 ?_
    refine jz_Vi (As := [.int (xs (i + 1))]) C hse1 w1 (cc_X10_commit N M (h1.saw O 0 r.toInt64) (xs (i + 1)) hkM1 e2) m2 ⟨by omega, by omega⟩ hkM1 (by decide) rfl (fs := fs13 (h1.saw O 0 r.toInt64) M) rfl rfl ⟨tw_7_170, tw_7_167, tw_7_168, tw_7_169, tw_1_7⟩ cd_X10_commit ⟨by decide, by decide⟩ hl.1 (by first | exact Nat.le_of_ble_eq_true rfl | simp [rf_cat, cat_i, cat_l, cat_r]) rfl dL_law_891 (fun H2 locs2 w2 => ?_)
    have hkM2 : h2.kd M = 13 := kd_keep w1 m2 hkM1 (by decide)
    have hse2 : h2.se = se := m2.2.2.2.1.trans hse1
    refine lv_istore (i := 6) (lv' := [(6, .int r), (5, .int (0 : Int32)), (0, .ref b), (1, .ref X), (2, .ref M), (3, .ref O), (4, .int (nI i))]) hx hb dL_law_894 hl (by decide) rfl (fun ls hl => ?_)
    refine lv_aload_n hx hb dL_law_896 rfl (lv_at hl 4 rfl) ?_
    refine jz_Vi (As := []) (r := h2.gi 1300 M) C hse2 w2 (cc_X10_thrown N M h2 hkM2 rfl) (Mo.rf h2) ⟨by omega, by omega⟩ hkM2 (by decide) rfl (fs := fs13 h2 M) rfl rfl ⟨tw_7_129, tw_7_126, tw_7_127, tw_7_128, tw_1_7⟩ cd_X10_thrown ⟨by decide, by decide⟩ hl.1 (by first | exact Nat.le_of_ble_eq_true rfl | simp [rf_cat, cat_i, cat_l, cat_r]) rfl dL_law_897 (fun H3 locs3 w3 => ?_)
    refine lv_iload hx hb dL_law_900 (lv_at hl 1 rfl) ?_
    refine lv_icmp_eq (tgt := 907) hx hb dL_law_902 (by decide) (fun _ => ?_) (fun c9 => absurd t0 c9)
    refine lv_iload hx hb dL_law_907 (lv_at hl 1 rfl) ?_
    refine lv_if_ne (tgt := 924) hx hb dL_law_909 (by decide) (fun c9 => absurd rfl c9) (fun _ => ?_)
    have hkO1 : (h1.saw O 0 r.toInt64).kd O = 21 := kd_keep w m1 hkO (by decide)
    have hO1 : O < (h1.saw O 0 r.toInt64).nx := kd_lt w1 hkO1 (by decide)
    have hkO2 : h2.kd O = 21 := kd_keep w1 m2 hkO1 (by decide)
    have haO2 : h2.al O = 1 := (m2.2.2.2.2 O hO1).trans ((m1.2.2.2.2 O (kd_lt w hkO (by decide))).trans haO)
    have hv : h2.aw O 0 = r.toInt64 := by
      rw [(fo_X10_commit N M (h1.saw O 0 r.toInt64) (xs (i + 1)) e2).2.2.2.2.2.1 O hO1]
      show va_up h1.aw O (va_up (h1.aw O) 0 _) O 0 = _
      rw [va_up_self, va_up_self]
    refine lv_aload_n hx hb dL_law_912 rfl (lv_at hl 5 rfl) ?_
    refine lv_iconst (v := (0 : Int32)) hx hb dL_law_913 (by decide) ?_
    refine jz_lald C w3 hkO2 (by rw [haO2]; decide) dL_law_914 ?_
    refine lv_iload hx hb dL_law_915 (lv_at hl 0 rfl) ?_
    refine lv_i2l hx hb dL_law_917 rfl ?_
    refine W.lcmp hx hb dL_law_918 ?_
    refine lv_if_eq (tgt := 924) hx hb dL_law_919 (by decide) (fun _ => ?_) (fun c9 => absurd (show lg_cmp (h2.aw O (0 : Int32).toNatClampNeg) _ = 0 by rw [show (0 : Int32).toNatClampNeg = 0 from rfl, hv]; exact lg_self _) c9)
    refine lv_goto (tgt := 1150) hx hb dL_law_924 (by decide) ?_
    rw [show cells + ((h1.saw O 0 r.toInt64).nx - h.nx) + (h2.nx - (h1.saw O 0 r.toInt64).nx) + (h2.nx - h2.nx) = cells + (h2.nx - h.nx) by omega, show slots + ((h1.saw O 0 r.toInt64).su - h.su) + (h2.su - (h1.saw O 0 r.toInt64).su) + (h2.su - h2.su) = slots + (h2.su - h.su) by omega]
    exact kk _ _ _ _ _ _ hk w3 (lv_sub (l' := [(0, .ref b), (1, .ref X), (2, .ref M), (3, .ref O), (4, .int (nI i))]) hl [2, 3, 4, 5, 6] rfl)
  · have m1 := mo_xX9_commit N X h (xs (i + 1)) e1
    have a1 := m1.2.1
    have a2 := m1.2.2.1
    obtain ⟨h9, r9, g1, -, g2⟩ := he2 hz.nx (Nat.le_refl _)
    have hb1 := hK _ _ _ g2
    have a3 : hz.nx ≤ h9.nx := (mo_X10_commit N M (hz.thr hz.nx) (xs (i + 1)) g1).2.1
    have a4 : hz.su + 6 ≤ h9.su := (mo_X10_commit N M (hz.thr hz.nx) (xs (i + 1)) g1).2.2.1
    refine lv_aload_n hx hb dL_law_871 rfl (lv_at hl 1 rfl) ?_
    refine lw_arg hx hb hX hbl hbA w.2.2.1 hi hL (kn := 1) (by decide) (by decide) (lv_at hl 0 rfl) (lv_at hl 4 rfl) dL_law_872 dL_law_873 dL_law_875 dL_law_876 dL_law_877 ?_
    refine lv_aload_n hx hb dL_law_878 rfl (lv_at hl 3 rfl) ?_
    refine jz_Ht (As := [.ref X, .int (xs (i + 1)), .ref O]) C hse w hc3 (ht_commit_1 hl0 N X O h (xs (i + 1)) hkX e1) m1 ⟨by omega, by omega⟩ ⟨tw_6_114, tw_6_112, tw_6_113, tw_1_0⟩ cdL_commit ⟨by decide, by decide⟩ hl.1 (by first | exact Nat.le_of_ble_eq_true rfl | simp [rf_cat, cat_i, cat_l, cat_r]) rfl dL_law_879 (fun H1 locs1 n1 hn1 w1 => ?_)
    obtain ⟨h2, r, e2, t0, hk⟩ := he2 n1 hn1
    have m2 := mo_X10_commit N M (hz.thr n1) (xs (i + 1)) e2
    have hb2 := hK _ _ _ hk
    have a5 : n1 ≤ h2.nx := m2.2.1
    have a6 : hz.su + 6 ≤ h2.su := m2.2.2.1
    have q1 : (hz.thr n1).nx = n1 := rfl
    have q2 : (hz.thr n1).su = hz.su + 6 := rfl
    have hkM1 : (hz.thr n1).kd M = 13 := (m1.1 M (kd_lt w hkM (by decide))).trans hkM
    have hse1 : (hz.thr n1).se = se := m1.2.2.2.1.trans hse
    refine lv_istore (i := 5) (lv' := [(5, .int (1 : Int32)), (0, .ref b), (1, .ref X), (2, .ref M), (3, .ref O), (4, .int (nI i))]) hx hb dL_law_882 hl (by decide) rfl (fun ls hl => ?_)
    refine lv_aload_n hx hb dL_law_884 rfl (lv_at hl 3 rfl) ?_
    refine lw_arg hx hb hX hbl hbA w1.2.2.1 hi hL (kn := 1) (by decide) (by decide) (lv_at hl 1 rfl) (lv_at hl 5 rfl) dL_law_885 dL_law_886 dL_law_888 dL_law_889 dL_law_890 ?_
    refine jz_Vi (As := [.int (xs (i + 1))]) C hse1 w1 (cc_X10_commit N M (hz.thr n1) (xs (i + 1)) hkM1 e2) m2 ⟨by omega, by omega⟩ hkM1 (by decide) rfl (fs := fs13 (hz.thr n1) M) rfl rfl ⟨tw_7_170, tw_7_167, tw_7_168, tw_7_169, tw_1_7⟩ cd_X10_commit ⟨by decide, by decide⟩ hl.1 (by first | exact Nat.le_of_ble_eq_true rfl | simp [rf_cat, cat_i, cat_l, cat_r]) rfl dL_law_891 (fun H2 locs2 w2 => ?_)
    have hkM2 : h2.kd M = 13 := kd_keep w1 m2 hkM1 (by decide)
    have hse2 : h2.se = se := m2.2.2.2.1.trans hse1
    refine lv_istore (i := 6) (lv' := [(6, .int r), (5, .int (1 : Int32)), (0, .ref b), (1, .ref X), (2, .ref M), (3, .ref O), (4, .int (nI i))]) hx hb dL_law_894 hl (by decide) rfl (fun ls hl => ?_)
    refine lv_aload_n hx hb dL_law_896 rfl (lv_at hl 4 rfl) ?_
    refine jz_Vi (As := []) (r := h2.gi 1300 M) C hse2 w2 (cc_X10_thrown N M h2 hkM2 rfl) (Mo.rf h2) ⟨by omega, by omega⟩ hkM2 (by decide) rfl (fs := fs13 h2 M) rfl rfl ⟨tw_7_129, tw_7_126, tw_7_127, tw_7_128, tw_1_7⟩ cd_X10_thrown ⟨by decide, by decide⟩ hl.1 (by first | exact Nat.le_of_ble_eq_true rfl | simp [rf_cat, cat_i, cat_l, cat_r]) rfl dL_law_897 (fun H3 locs3 w3 => ?_)
    refine lv_iload hx hb dL_law_900 (lv_at hl 1 rfl) ?_
    refine lv_icmp_eq (tgt := 907) hx hb dL_law_902 (by decide) (fun _ => ?_) (fun c9 => absurd t0 c9)
    refine lv_iload hx hb dL_law_907 (lv_at hl 1 rfl) ?_
    refine lv_if_ne (tgt := 924) hx hb dL_law_909 (by decide) (fun _ => ?_) (fun c9 => absurd c9 (by decide))
    refine lv_goto (tgt := 1150) hx hb dL_law_924 (by decide) ?_
    rw [show cells + (hz.nx + 1 - h.nx) + (h2.nx - (hz.thr n1).nx) + (h2.nx - h2.nx) = cells + (hz.nx + 1 - h.nx + (h2.nx - n1)) by omega, show slots + (hz.su + 6 - h.su) + (h2.su - (hz.thr n1).su) + (h2.su - h2.su) = slots + (h2.su - h.su) by omega]
    exact kk _ _ _ _ _ _ hk w3 (lv_sub (l' := [(0, .ref b), (1, .ref X), (2, .ref M), (3, .ref O), (4, .int (nI i))]) hl [2, 3, 4, 5, 6] rfl)
set_option maxRecDepth 100000 in
set_option maxHeartbeats 4000000 in
theorem lc_abort (E0 : Lc p l s m meth c D cs A se b L xs) (hi : i + 5 ≤ L) (hk0 : Lk h se X M O) (hK : Kb K) (kk : Kk p l e s m below meth c Q D cs A b i X M O K) (hS : S_abort N X M O h (xs (i + 1)) (fun h1 c1 s1 => K h1 (cells + c1) (slots + s1))) (w : Wz D cs A s h H locs) (hl : lv_has ls 8 [(0, .ref b), (1, .ref X), (2, .ref M), (3, .ref O), (4, .int (nI i))]) : W p l e RL1 s m #[Value.ref b] below meth c H locs cells slots Q (F0 m 927 ls []) := by
  obtain ⟨C, hc3, hl0, hX, hbl, hbA, hL⟩ := E0
  obtain ⟨hkX, hkM, hkO, haO, hse⟩ := hk0
  obtain ⟨hx, hb, hml, hown, hts, -⟩ := id C
  rcases hS with ⟨h1, h2, e1, e2, t0, hk⟩ | ⟨hz, e1, he2⟩
  · have m1 : Mo h h1 := mo_X9_abort N X h (xs (i + 1)) e1
    have m2 := mo_X10_abort N M h1 (xs (i + 1)) e2
    have hb1 := hK _ _ _ hk
    have a1 := m1.2.1
    have a2 := m1.2.2.1
    have a3 := m2.2.1
    have a4 := m2.2.2.1
    refine lv_aload_n hx hb dL_law_927 rfl (lv_at hl 1 rfl) ?_
    refine lw_arg hx hb hX hbl hbA w.2.2.1 hi hL (kn := 1) (by decide) (by decide) (lv_at hl 0 rfl) (lv_at hl 4 rfl) dL_law_928 dL_law_929 dL_law_931 dL_law_932 dL_law_933 ?_
    refine jz_Hn (As := [.ref X, .int (xs (i + 1))]) C hse w hc3 (hn_abort N X h (xs (i + 1)) hkX e1) m1 ⟨by omega, by omega⟩ ⟨tw_6_151, tw_6_149, tw_6_150, tw_1_0⟩ cdL_abort ⟨by decide, by decide⟩ hl.1 (by first | exact Nat.le_of_ble_eq_true rfl | simp [rf_cat, cat_i, cat_l, cat_r]) rfl dL_law_934 (fun H1 locs1 w1 => ?_)
    have hkM1 : h1.kd M = 13 := (m1.1 M (kd_lt w hkM (by decide))).trans hkM
    have hse1 : h1.se = se := m1.2.2.2.1.trans hse
    refine lv_istore (i := 5) (lv' := [(5, .int (0 : Int32)), (0, .ref b), (1, .ref X), (2, .ref M), (3, .ref O), (4, .int (nI i))]) hx hb dL_law_937 hl (by decide) rfl (fun ls hl => ?_)
    refine lv_aload_n hx hb dL_law_939 rfl (lv_at hl 3 rfl) ?_
    refine lw_arg hx hb hX hbl hbA w1.2.2.1 hi hL (kn := 1) (by decide) (by decide) (lv_at hl 1 rfl) (lv_at hl 5 rfl) dL_law_940 dL_law_941 dL_law_943 dL_law_944 dL_law_945 ?_
    refine jz_Vv (As := [.int (xs (i + 1))]) C hse1 w1 (cc_X10_abort N M h1 (xs (i + 1)) hkM1 e2) m2 ⟨by omega, by omega⟩ hkM1 (by decide) rfl (fs := fs13 h1 M) rfl rfl ⟨tw_7_210, tw_7_207, tw_7_208, tw_7_209, tw_1_7⟩ cd_X10_abort ⟨by decide, by decide⟩ hl.1 (by first | exact Nat.le_of_ble_eq_true rfl | simp [rf_cat, cat_i, cat_l, cat_r]) rfl dL_law_946 (fun H2 locs2 w2 => ?_)
    have hkM2 : h2.kd M = 13 := kd_keep w1 m2 hkM1 (by decide)
    have hse2 : h2.se = se := m2.2.2.2.1.trans hse1
    refine lv_aload_n hx hb dL_law_949 rfl (lv_at hl 3 rfl) ?_
    refine jz_Vi (As := []) (r := h2.gi 1300 M) C hse2 w2 (cc_X10_thrown N M h2 hkM2 rfl) (Mo.rf h2) ⟨by omega, by omega⟩ hkM2 (by decide) rfl (fs := fs13 h2 M) rfl rfl ⟨tw_7_129, tw_7_126, tw_7_127, tw_7_128, tw_1_7⟩ cd_X10_thrown ⟨by decide, by decide⟩ hl.1 (by first | exact Nat.le_of_ble_eq_true rfl | simp [rf_cat, cat_i, cat_l, cat_r]) rfl dL_law_950 (fun H3 locs3 w3 => ?_)
    refine lv_iload hx hb dL_law_953 (lv_at hl 0 rfl) ?_
    refine lv_icmp_eq (tgt := 960) hx hb dL_law_955 (by decide) (fun _ => ?_) (fun c9 => absurd t0 c9)
    refine lv_goto (tgt := 1150) hx hb dL_law_960 (by decide) ?_
    rw [show cells + (h1.nx - h.nx) + (h2.nx - h1.nx) + (h2.nx - h2.nx) = cells + (h2.nx - h.nx) by omega, show slots + (h1.su - h.su) + (h2.su - h1.su) + (h2.su - h2.su) = slots + (h2.su - h.su) by omega]
    exact kk _ _ _ _ _ _ hk w3 (lv_sub (l' := [(0, .ref b), (1, .ref X), (2, .ref M), (3, .ref O), (4, .int (nI i))]) hl [1, 2, 3, 4, 5] rfl)
  · have m1 := mo_xX9_abort N X h (xs (i + 1)) e1
    have a1 := m1.2.1
    have a2 := m1.2.2.1
    obtain ⟨h9, g1, -, g2⟩ := he2 hz.nx (Nat.le_refl _)
    have hb1 := hK _ _ _ g2
    have a3 : hz.nx ≤ h9.nx := (mo_X10_abort N M (hz.thr hz.nx) (xs (i + 1)) g1).2.1
    have a4 : hz.su + 6 ≤ h9.su := (mo_X10_abort N M (hz.thr hz.nx) (xs (i + 1)) g1).2.2.1
    refine lv_aload_n hx hb dL_law_927 rfl (lv_at hl 1 rfl) ?_
    refine lw_arg hx hb hX hbl hbA w.2.2.1 hi hL (kn := 1) (by decide) (by decide) (lv_at hl 0 rfl) (lv_at hl 4 rfl) dL_law_928 dL_law_929 dL_law_931 dL_law_932 dL_law_933 ?_
    refine jz_Ht (As := [.ref X, .int (xs (i + 1))]) C hse w hc3 (ht_abort_1 hl0 N X h (xs (i + 1)) hkX e1) m1 ⟨by omega, by omega⟩ ⟨tw_6_151, tw_6_149, tw_6_150, tw_1_0⟩ cdL_abort ⟨by decide, by decide⟩ hl.1 (by first | exact Nat.le_of_ble_eq_true rfl | simp [rf_cat, cat_i, cat_l, cat_r]) rfl dL_law_934 (fun H1 locs1 n1 hn1 w1 => ?_)
    obtain ⟨h2, e2, t0, hk⟩ := he2 n1 hn1
    have m2 := mo_X10_abort N M (hz.thr n1) (xs (i + 1)) e2
    have hb2 := hK _ _ _ hk
    have a5 : n1 ≤ h2.nx := m2.2.1
    have a6 : hz.su + 6 ≤ h2.su := m2.2.2.1
    have q1 : (hz.thr n1).nx = n1 := rfl
    have q2 : (hz.thr n1).su = hz.su + 6 := rfl
    have hkM1 : (hz.thr n1).kd M = 13 := (m1.1 M (kd_lt w hkM (by decide))).trans hkM
    have hse1 : (hz.thr n1).se = se := m1.2.2.2.1.trans hse
    refine lv_istore (i := 5) (lv' := [(5, .int (1 : Int32)), (0, .ref b), (1, .ref X), (2, .ref M), (3, .ref O), (4, .int (nI i))]) hx hb dL_law_937 hl (by decide) rfl (fun ls hl => ?_)
    refine lv_aload_n hx hb dL_law_939 rfl (lv_at hl 3 rfl) ?_
    refine lw_arg hx hb hX hbl hbA w1.2.2.1 hi hL (kn := 1) (by decide) (by decide) (lv_at hl 1 rfl) (lv_at hl 5 rfl) dL_law_940 dL_law_941 dL_law_943 dL_law_944 dL_law_945 ?_
    refine jz_Vv (As := [.int (xs (i + 1))]) C hse1 w1 (cc_X10_abort N M (hz.thr n1) (xs (i + 1)) hkM1 e2) m2 ⟨by omega, by omega⟩ hkM1 (by decide) rfl (fs := fs13 (hz.thr n1) M) rfl rfl ⟨tw_7_210, tw_7_207, tw_7_208, tw_7_209, tw_1_7⟩ cd_X10_abort ⟨by decide, by decide⟩ hl.1 (by first | exact Nat.le_of_ble_eq_true rfl | simp [rf_cat, cat_i, cat_l, cat_r]) rfl dL_law_946 (fun H2 locs2 w2 => ?_)
    have hkM2 : h2.kd M = 13 := kd_keep w1 m2 hkM1 (by decide)
    have hse2 : h2.se = se := m2.2.2.2.1.trans hse1
    refine lv_aload_n hx hb dL_law_949 rfl (lv_at hl 3 rfl) ?_
    refine jz_Vi (As := []) (r := h2.gi 1300 M) C hse2 w2 (cc_X10_thrown N M h2 hkM2 rfl) (Mo.rf h2) ⟨by omega, by omega⟩ hkM2 (by decide) rfl (fs := fs13 h2 M) rfl rfl ⟨tw_7_129, tw_7_126, tw_7_127, tw_7_128, tw_1_7⟩ cd_X10_thrown ⟨by decide, by decide⟩ hl.1 (by first | exact Nat.le_of_ble_eq_true rfl | simp [rf_cat, cat_i, cat_l, cat_r]) rfl dL_law_950 (fun H3 locs3 w3 => ?_)
    refine lv_iload hx hb dL_law_953 (lv_at hl 0 rfl) ?_
    refine lv_icmp_eq (tgt := 960) hx hb dL_law_955 (by decide) (fun _ => ?_) (fun c9 => absurd t0 c9)
    refine lv_goto (tgt := 1150) hx hb dL_law_960 (by decide) ?_
    rw [show cells + (hz.nx + 1 - h.nx) + (h2.nx - (hz.thr n1).nx) + (h2.nx - h2.nx) = cells + (hz.nx + 1 - h.nx + (h2.nx - n1)) by omega, show slots + (hz.su + 6 - h.su) + (h2.su - (hz.thr n1).su) + (h2.su - h2.su) = slots + (h2.su - h.su) by omega]
    exact kk _ _ _ _ _ _ hk w3 (lv_sub (l' := [(0, .ref b), (1, .ref X), (2, .ref M), (3, .ref O), (4, .int (nI i))]) hl [1, 2, 3, 4, 5] rfl)
set_option maxRecDepth 100000 in
set_option maxHeartbeats 4000000 in
theorem lc_told (E0 : Lc p l s m meth c D cs A se b L xs) (hi : i + 5 ≤ L) (hk0 : Lk h se X M O) (hK : Kb K) (kk : Kk p l e s m below meth c Q D cs A b i X M O K) (hS : S_told N X M h (xs (i + 1)) (xs (i + 2)) (fun h1 c1 s1 => K h1 (cells + c1) (slots + s1))) (w : Wz D cs A s h H locs) (hl : lv_has ls 8 [(0, .ref b), (1, .ref X), (2, .ref M), (3, .ref O), (4, .int (nI i))]) : W p l e RL1 s m #[Value.ref b] below meth c H locs cells slots Q (F0 m 963 ls []) := by
  obtain ⟨C, hc3, hl0, hX, hbl, hbA, hL⟩ := E0
  obtain ⟨hkX, hkM, hkO, haO, hse⟩ := hk0
  obtain ⟨hx, hb, hml, hown, hts, -⟩ := id C
  obtain ⟨h1, h2, r, e1, e2, hk⟩ := hS
  have m1 := mo_X9_told N X h (xs (i + 1)) (xs (i + 2)) e1
  have m2 := mo_X10_told N M h1 (xs (i + 1)) (xs (i + 2)) e2
  have hb1 := hK _ _ _ hk
  have a1 := m1.2.1
  have a2 := m1.2.2.1
  have a3 := m2.2.1
  have a4 := m2.2.2.1
  refine lv_aload_n hx hb dL_law_963 rfl (lv_at hl 1 rfl) ?_
  refine lw_arg hx hb hX hbl hbA w.2.2.1 hi hL (kn := 1) (by decide) (by decide) (lv_at hl 0 rfl) (lv_at hl 4 rfl) dL_law_964 dL_law_965 dL_law_967 dL_law_968 dL_law_969 ?_
  refine lw_arg hx hb hX hbl hbA w.2.2.1 hi hL (kn := 2) (by decide) (by decide) (lv_at hl 0 rfl) (lv_at hl 4 rfl) dL_law_970 dL_law_971 dL_law_973 dL_law_974 dL_law_975 ?_
  refine jz_Vi (As := [.int (xs (i + 1)), .int (xs (i + 2))]) C hse w (cc_X9_told N X h (xs (i + 1)) (xs (i + 2)) hkX e1) m1 ⟨by omega, by omega⟩ hkX (by decide) rfl (fs := fs12 h X) rfl rfl ⟨tw_2_161, tw_2_158, tw_2_159, tw_2_160, tw_1_1⟩ cd_X9_told ⟨by decide, by decide⟩ hl.1 (by first | exact Nat.le_of_ble_eq_true rfl | simp [rf_cat, cat_i, cat_l, cat_r]) rfl dL_law_976 (fun H1 locs1 w1 => ?_)
  have hkM1 : h1.kd M = 13 := kd_keep w m1 hkM (by decide)
  refine lv_aload_n hx hb dL_law_979 rfl (lv_at hl 2 rfl) ?_
  refine lw_arg hx hb hX hbl hbA w1.2.2.1 hi hL (kn := 1) (by decide) (by decide) (lv_at hl 0 rfl) (lv_at hl 4 rfl) dL_law_980 dL_law_981 dL_law_983 dL_law_984 dL_law_985 ?_
  refine lw_arg hx hb hX hbl hbA w1.2.2.1 hi hL (kn := 2) (by decide) (by decide) (lv_at hl 0 rfl) (lv_at hl 4 rfl) dL_law_986 dL_law_987 dL_law_989 dL_law_990 dL_law_991 ?_
  refine jz_Vi (As := [.int (xs (i + 1)), .int (xs (i + 2))]) C (m1.2.2.2.1.trans hse) w1 (cc_X10_told N M h1 (xs (i + 1)) (xs (i + 2)) hkM1 e2) m2 ⟨by omega, by omega⟩ hkM1 (by decide) rfl (fs := fs13 h1 M) rfl rfl ⟨tw_8_55, tw_8_52, tw_8_53, tw_8_54, tw_1_7⟩ cd_X10_told ⟨by decide, by decide⟩ hl.1 (by first | exact Nat.le_of_ble_eq_true rfl | simp [rf_cat, cat_i, cat_l, cat_r]) rfl dL_law_992 (fun H2 locs2 w2 => ?_)
  refine lv_icmp_eq (tgt := 1150) hx hb dL_law_995 (by decide) (fun _ => ?_) (fun c9 => absurd rfl c9)
  rw [show cells + (h1.nx - h.nx) + (h2.nx - h1.nx) = cells + (h2.nx - h.nx) by omega, show slots + (h1.su - h.su) + (h2.su - h1.su) = slots + (h2.su - h.su) by omega]
  exact kk _ _ _ _ _ _ hk w2 hl
set_option maxRecDepth 100000 in
set_option maxHeartbeats 4000000 in
theorem lc_why (E0 : Lc p l s m meth c D cs A se b L xs) (hi : i + 5 ≤ L) (hk0 : Lk h se X M O) (hK : Kb K) (kk : Kk p l e s m below meth c Q D cs A b i X M O K) (hS : S_why N X M h (xs (i + 1)) (fun h1 c1 s1 => K h1 (cells + c1) (slots + s1))) (w : Wz D cs A s h H locs) (hl : lv_has ls 8 [(0, .ref b), (1, .ref X), (2, .ref M), (3, .ref O), (4, .int (nI i))]) : W p l e RL1 s m #[Value.ref b] below meth c H locs cells slots Q (F0 m 1000 ls []) := by
  obtain ⟨C, hc3, hl0, hX, hbl, hbA, hL⟩ := E0
  obtain ⟨hkX, hkM, hkO, haO, hse⟩ := hk0
  obtain ⟨hx, hb, hml, hown, hts, -⟩ := id C
  obtain ⟨h1, h2, r, e1, e2, hk⟩ := hS
  have m1 := mo_X9_why N X h (xs (i + 1)) e1
  have m2 := mo_X10_why N M h1 (xs (i + 1)) e2
  have hb1 := hK _ _ _ hk
  have a1 := m1.2.1
  have a2 := m1.2.2.1
  have a3 := m2.2.1
  have a4 := m2.2.2.1
  refine lv_aload_n hx hb dL_law_1000 rfl (lv_at hl 1 rfl) ?_
  refine lw_arg hx hb hX hbl hbA w.2.2.1 hi hL (kn := 1) (by decide) (by decide) (lv_at hl 0 rfl) (lv_at hl 4 rfl) dL_law_1001 dL_law_1002 dL_law_1004 dL_law_1005 dL_law_1006 ?_
  refine jz_Vi (As := [.int (xs (i + 1))]) C hse w (cc_X9_why N X h (xs (i + 1)) hkX e1) m1 ⟨by omega, by omega⟩ hkX (by decide) rfl (fs := fs12 h X) rfl rfl ⟨tw_2_190, tw_2_187, tw_2_188, tw_2_189, tw_1_1⟩ cd_X9_why ⟨by decide, by decide⟩ hl.1 (by first | exact Nat.le_of_ble_eq_true rfl | simp [rf_cat, cat_i, cat_l, cat_r]) rfl dL_law_1007 (fun H1 locs1 w1 => ?_)
  have hkM1 : h1.kd M = 13 := kd_keep w m1 hkM (by decide)
  refine lv_aload_n hx hb dL_law_1010 rfl (lv_at hl 2 rfl) ?_
  refine lw_arg hx hb hX hbl hbA w1.2.2.1 hi hL (kn := 1) (by decide) (by decide) (lv_at hl 0 rfl) (lv_at hl 4 rfl) dL_law_1011 dL_law_1012 dL_law_1014 dL_law_1015 dL_law_1016 ?_
  refine jz_Vi (As := [.int (xs (i + 1))]) C (m1.2.2.2.1.trans hse) w1 (cc_X10_why N M h1 (xs (i + 1)) hkM1 e2) m2 ⟨by omega, by omega⟩ hkM1 (by decide) rfl (fs := fs13 h1 M) rfl rfl ⟨tw_8_72, tw_8_69, tw_8_70, tw_8_71, tw_1_7⟩ cd_X10_why ⟨by decide, by decide⟩ hl.1 (by first | exact Nat.le_of_ble_eq_true rfl | simp [rf_cat, cat_i, cat_l, cat_r]) rfl dL_law_1017 (fun H2 locs2 w2 => ?_)
  refine lv_icmp_eq (tgt := 1150) hx hb dL_law_1020 (by decide) (fun _ => ?_) (fun c9 => absurd rfl c9)
  rw [show cells + (h1.nx - h.nx) + (h2.nx - h1.nx) = cells + (h2.nx - h.nx) by omega, show slots + (h1.su - h.su) + (h2.su - h1.su) = slots + (h2.su - h.su) by omega]
  exact kk _ _ _ _ _ _ hk w2 hl
set_option maxRecDepth 100000 in
set_option maxHeartbeats 4000000 in
theorem lc_version (E0 : Lc p l s m meth c D cs A se b L xs) (hi : i + 5 ≤ L) (hk0 : Lk h se X M O) (hK : Kb K) (kk : Kk p l e s m below meth c Q D cs A b i X M O K) (hS : S_version N X M h (xs (i + 1)) (xs (i + 2)) (xs (i + 3)) (fun h1 c1 s1 => K h1 (cells + c1) (slots + s1))) (w : Wz D cs A s h H locs) (hl : lv_has ls 8 [(0, .ref b), (1, .ref X), (2, .ref M), (3, .ref O), (4, .int (nI i))]) : W p l e RL1 s m #[Value.ref b] below meth c H locs cells slots Q (F0 m 1025 ls []) := by
  obtain ⟨C, hc3, hl0, hX, hbl, hbA, hL⟩ := E0
  obtain ⟨hkX, hkM, hkO, haO, hse⟩ := hk0
  obtain ⟨hx, hb, hml, hown, hts, -⟩ := id C
  obtain ⟨h1, h2, r, e1, e2, hk⟩ := hS
  have m1 := mo_X9_version N X h (xs (i + 1)) (xs (i + 2)) (xs (i + 3)) e1
  have m2 := mo_X10_version N M h1 (xs (i + 1)) (xs (i + 2)) (xs (i + 3)) e2
  have hb1 := hK _ _ _ hk
  have a1 := m1.2.1
  have a2 := m1.2.2.1
  have a3 := m2.2.1
  have a4 := m2.2.2.1
  refine lv_aload_n hx hb dL_law_1025 rfl (lv_at hl 1 rfl) ?_
  refine lw_arg hx hb hX hbl hbA w.2.2.1 hi hL (kn := 1) (by decide) (by decide) (lv_at hl 0 rfl) (lv_at hl 4 rfl) dL_law_1026 dL_law_1027 dL_law_1029 dL_law_1030 dL_law_1031 ?_
  refine lw_arg hx hb hX hbl hbA w.2.2.1 hi hL (kn := 2) (by decide) (by decide) (lv_at hl 0 rfl) (lv_at hl 4 rfl) dL_law_1032 dL_law_1033 dL_law_1035 dL_law_1036 dL_law_1037 ?_
  refine lw_arg hx hb hX hbl hbA w.2.2.1 hi hL (kn := 3) (by decide) (by decide) (lv_at hl 0 rfl) (lv_at hl 4 rfl) dL_law_1038 dL_law_1039 dL_law_1041 dL_law_1042 dL_law_1043 ?_
  refine jz_Vi (As := [.int (xs (i + 1)), .int (xs (i + 2)), .int (xs (i + 3))]) C hse w (cc_X9_version N X h (xs (i + 1)) (xs (i + 2)) (xs (i + 3)) hkX e1) m1 ⟨by omega, by omega⟩ hkX (by decide) rfl (fs := fs12 h X) rfl rfl ⟨tw_2_194, tw_2_191, tw_2_192, tw_2_193, tw_1_1⟩ cd_X9_version ⟨by decide, by decide⟩ hl.1 (by first | exact Nat.le_of_ble_eq_true rfl | simp [rf_cat, cat_i, cat_l, cat_r]) rfl dL_law_1044 (fun H1 locs1 w1 => ?_)
  have hkM1 : h1.kd M = 13 := kd_keep w m1 hkM (by decide)
  refine lv_aload_n hx hb dL_law_1047 rfl (lv_at hl 2 rfl) ?_
  refine lw_arg hx hb hX hbl hbA w1.2.2.1 hi hL (kn := 1) (by decide) (by decide) (lv_at hl 0 rfl) (lv_at hl 4 rfl) dL_law_1048 dL_law_1049 dL_law_1051 dL_law_1052 dL_law_1053 ?_
  refine lw_arg hx hb hX hbl hbA w1.2.2.1 hi hL (kn := 2) (by decide) (by decide) (lv_at hl 0 rfl) (lv_at hl 4 rfl) dL_law_1054 dL_law_1055 dL_law_1057 dL_law_1058 dL_law_1059 ?_
  refine lw_arg hx hb hX hbl hbA w1.2.2.1 hi hL (kn := 3) (by decide) (by decide) (lv_at hl 0 rfl) (lv_at hl 4 rfl) dL_law_1060 dL_law_1061 dL_law_1063 dL_law_1064 dL_law_1065 ?_
  refine jz_Vi (As := [.int (xs (i + 1)), .int (xs (i + 2)), .int (xs (i + 3))]) C (m1.2.2.2.1.trans hse) w1 (cc_X10_version N M h1 (xs (i + 1)) (xs (i + 2)) (xs (i + 3)) hkM1 e2) m2 ⟨by omega, by omega⟩ hkM1 (by decide) rfl (fs := fs13 h1 M) rfl rfl ⟨tw_8_76, tw_8_73, tw_8_74, tw_8_75, tw_1_7⟩ cd_X10_version ⟨by decide, by decide⟩ hl.1 (by first | exact Nat.le_of_ble_eq_true rfl | simp [rf_cat, cat_i, cat_l, cat_r]) rfl dL_law_1066 (fun H2 locs2 w2 => ?_)
  refine lv_icmp_eq (tgt := 1150) hx hb dL_law_1069 (by decide) (fun _ => ?_) (fun c9 => absurd rfl c9)
  rw [show cells + (h1.nx - h.nx) + (h2.nx - h1.nx) = cells + (h2.nx - h.nx) by omega, show slots + (h1.su - h.su) + (h2.su - h1.su) = slots + (h2.su - h.su) by omega]
  exact kk _ _ _ _ _ _ hk w2 hl
set_option maxRecDepth 100000 in
set_option maxHeartbeats 4000000 in
theorem lc_versionValue (E0 : Lc p l s m meth c D cs A se b L xs) (hi : i + 5 ≤ L) (hk0 : Lk h se X M O) (hK : Kb K) (kk : Kk p l e s m below meth c Q D cs A b i X M O K) (hS : S_versionValue N X M h (xs (i + 1)) (xs (i + 2)) (fun h1 c1 s1 => K h1 (cells + c1) (slots + s1))) (w : Wz D cs A s h H locs) (hl : lv_has ls 8 [(0, .ref b), (1, .ref X), (2, .ref M), (3, .ref O), (4, .int (nI i))]) : W p l e RL1 s m #[Value.ref b] below meth c H locs cells slots Q (F0 m 1074 ls []) := by
  obtain ⟨C, hc3, hl0, hX, hbl, hbA, hL⟩ := E0
  obtain ⟨hkX, hkM, hkO, haO, hse⟩ := hk0
  obtain ⟨hx, hb, hml, hown, hts, -⟩ := id C
  obtain ⟨h1, h2, r, e1, e2, hk⟩ := hS
  have m1 := mo_X9_versionValue N X h (xs (i + 1)) (xs (i + 2)) e1
  have m2 := mo_X10_versionValue N M h1 (xs (i + 1)) (xs (i + 2)) e2
  have hb1 := hK _ _ _ hk
  have a1 := m1.2.1
  have a2 := m1.2.2.1
  have a3 := m2.2.1
  have a4 := m2.2.2.1
  refine lv_aload_n hx hb dL_law_1074 rfl (lv_at hl 1 rfl) ?_
  refine lw_arg hx hb hX hbl hbA w.2.2.1 hi hL (kn := 1) (by decide) (by decide) (lv_at hl 0 rfl) (lv_at hl 4 rfl) dL_law_1075 dL_law_1076 dL_law_1078 dL_law_1079 dL_law_1080 ?_
  refine lw_arg hx hb hX hbl hbA w.2.2.1 hi hL (kn := 2) (by decide) (by decide) (lv_at hl 0 rfl) (lv_at hl 4 rfl) dL_law_1081 dL_law_1082 dL_law_1084 dL_law_1085 dL_law_1086 ?_
  refine jz_Vl (As := [.int (xs (i + 1)), .int (xs (i + 2))]) C hse w (cc_X9_versionValue N X h (xs (i + 1)) (xs (i + 2)) hkX e1) m1 ⟨by omega, by omega⟩ hkX (by decide) rfl (fs := fs12 h X) rfl rfl ⟨tw_2_220, tw_2_217, tw_2_218, tw_2_219, tw_1_1⟩ cd_X9_versionValue ⟨by decide, by decide⟩ hl.1 (by first | exact Nat.le_of_ble_eq_true rfl | simp [rf_cat, cat_i, cat_l, cat_r]) rfl dL_law_1087 (fun H1 locs1 w1 => ?_)
  have hkM1 : h1.kd M = 13 := kd_keep w m1 hkM (by decide)
  refine lv_aload_n hx hb dL_law_1090 rfl (lv_at hl 2 rfl) ?_
  refine lw_arg hx hb hX hbl hbA w1.2.2.1 hi hL (kn := 1) (by decide) (by decide) (lv_at hl 0 rfl) (lv_at hl 4 rfl) dL_law_1091 dL_law_1092 dL_law_1094 dL_law_1095 dL_law_1096 ?_
  refine lw_arg hx hb hX hbl hbA w1.2.2.1 hi hL (kn := 2) (by decide) (by decide) (lv_at hl 0 rfl) (lv_at hl 4 rfl) dL_law_1097 dL_law_1098 dL_law_1100 dL_law_1101 dL_law_1102 ?_
  refine jz_Vl (As := [.int (xs (i + 1)), .int (xs (i + 2))]) C (m1.2.2.2.1.trans hse) w1 (cc_X10_versionValue N M h1 (xs (i + 1)) (xs (i + 2)) hkM1 e2) m2 ⟨by omega, by omega⟩ hkM1 (by decide) rfl (fs := fs13 h1 M) rfl rfl ⟨tw_8_88, tw_8_85, tw_8_86, tw_8_87, tw_1_7⟩ cd_X10_versionValue ⟨by decide, by decide⟩ hl.1 (by first | exact Nat.le_of_ble_eq_true rfl | simp [rf_cat, cat_i, cat_l, cat_r]) rfl dL_law_1103 (fun H2 locs2 w2 => ?_)
  refine W.lcmp hx hb dL_law_1106 ?_
  refine lv_if_eq (tgt := 1150) hx hb dL_law_1107 (by decide) (fun _ => ?_) (fun c9 => absurd (lg_self r) c9)
  rw [show cells + (h1.nx - h.nx) + (h2.nx - h1.nx) = cells + (h2.nx - h.nx) by omega, show slots + (h1.su - h.su) + (h2.su - h1.su) = slots + (h2.su - h.su) by omega]
  exact kk _ _ _ _ _ _ hk w2 hl
set_option maxRecDepth 100000 in
set_option maxHeartbeats 4000000 in
theorem lc_count (E0 : Lc p l s m meth c D cs A se b L xs) (hi : i + 5 ≤ L) (hk0 : Lk h se X M O) (hK : Kb K) (kk : Kk p l e s m below meth c Q D cs A b i X M O K) (hS : S_count N X M h (xs (i + 1)) (fun h1 c1 s1 => K h1 (cells + c1) (slots + s1))) (w : Wz D cs A s h H locs) (hl : lv_has ls 8 [(0, .ref b), (1, .ref X), (2, .ref M), (3, .ref O), (4, .int (nI i))]) : W p l e RL1 s m #[Value.ref b] below meth c H locs cells slots Q (F0 m 1112 ls []) := by
  obtain ⟨C, hc3, hl0, hX, hbl, hbA, hL⟩ := E0
  obtain ⟨hkX, hkM, hkO, haO, hse⟩ := hk0
  obtain ⟨hx, hb, hml, hown, hts, -⟩ := id C
  obtain ⟨h1, h2, r, e1, e2, hk⟩ := hS
  have m1 := mo_X9_count N X h (xs (i + 1)) e1
  have m2 := mo_X10_count N M h1 (xs (i + 1)) e2
  have hb1 := hK _ _ _ hk
  have a1 := m1.2.1
  have a2 := m1.2.2.1
  have a3 := m2.2.1
  have a4 := m2.2.2.1
  refine lv_aload_n hx hb dL_law_1112 rfl (lv_at hl 1 rfl) ?_
  refine lw_arg hx hb hX hbl hbA w.2.2.1 hi hL (kn := 1) (by decide) (by decide) (lv_at hl 0 rfl) (lv_at hl 4 rfl) dL_law_1113 dL_law_1114 dL_law_1116 dL_law_1117 dL_law_1118 ?_
  refine jz_Vi (As := [.int (xs (i + 1))]) C hse w (cc_X9_count N X h (xs (i + 1)) hkX e1) m1 ⟨by omega, by omega⟩ hkX (by decide) rfl (fs := fs12 h X) rfl rfl ⟨tw_2_224, tw_2_221, tw_2_222, tw_2_223, tw_1_1⟩ cd_X9_count ⟨by decide, by decide⟩ hl.1 (by first | exact Nat.le_of_ble_eq_true rfl | simp [rf_cat, cat_i, cat_l, cat_r]) rfl dL_law_1119 (fun H1 locs1 w1 => ?_)
  have hkM1 : h1.kd M = 13 := kd_keep w m1 hkM (by decide)
  refine lv_aload_n hx hb dL_law_1122 rfl (lv_at hl 2 rfl) ?_
  refine lw_arg hx hb hX hbl hbA w1.2.2.1 hi hL (kn := 1) (by decide) (by decide) (lv_at hl 0 rfl) (lv_at hl 4 rfl) dL_law_1123 dL_law_1124 dL_law_1126 dL_law_1127 dL_law_1128 ?_
  refine jz_Vi (As := [.int (xs (i + 1))]) C (m1.2.2.2.1.trans hse) w1 (cc_X10_count N M h1 (xs (i + 1)) hkM1 e2) m2 ⟨by omega, by omega⟩ hkM1 (by decide) rfl (fs := fs13 h1 M) rfl rfl ⟨tw_8_92, tw_8_89, tw_8_90, tw_8_91, tw_1_7⟩ cd_X10_count ⟨by decide, by decide⟩ hl.1 (by first | exact Nat.le_of_ble_eq_true rfl | simp [rf_cat, cat_i, cat_l, cat_r]) rfl dL_law_1129 (fun H2 locs2 w2 => ?_)
  refine lv_icmp_eq (tgt := 1150) hx hb dL_law_1132 (by decide) (fun _ => ?_) (fun c9 => absurd rfl c9)
  rw [show cells + (h1.nx - h.nx) + (h2.nx - h1.nx) = cells + (h2.nx - h.nx) by omega, show slots + (h1.su - h.su) + (h2.su - h1.su) = slots + (h2.su - h.su) by omega]
  exact kk _ _ _ _ _ _ hk w2 hl
set_option maxRecDepth 100000 in
set_option maxHeartbeats 4000000 in
theorem lc_astray (E0 : Lc p l s m meth c D cs A se b L xs) (hi : i + 5 ≤ L) (hk0 : Lk h se X M O) (hK : Kb K) (kk : Kk p l e s m below meth c Q D cs A b i X M O K) (hS : S_astray N X M h (fun h1 c1 s1 => K h1 (cells + c1) (slots + s1))) (w : Wz D cs A s h H locs) (hl : lv_has ls 8 [(0, .ref b), (1, .ref X), (2, .ref M), (3, .ref O), (4, .int (nI i))]) : W p l e RL1 s m #[Value.ref b] below meth c H locs cells slots Q (F0 m 1137 ls []) := by
  obtain ⟨C, hc3, hl0, hX, hbl, hbA, hL⟩ := E0
  obtain ⟨hkX, hkM, hkO, haO, hse⟩ := hk0
  obtain ⟨hx, hb, hml, hown, hts, -⟩ := id C
  obtain ⟨h1, h2, r, e1, e2, hk⟩ := hS
  have m1 := mo_X9_astray N X h e1
  have m2 := mo_X10_astray N M h1 e2
  have hb1 := hK _ _ _ hk
  have a1 := m1.2.1
  have a2 := m1.2.2.1
  have a3 := m2.2.1
  have a4 := m2.2.2.1
  refine lv_aload_n hx hb dL_law_1137 rfl (lv_at hl 1 rfl) ?_
  refine jz_Vi (As := []) C hse w (cc_X9_astray N X h hkX e1) m1 ⟨by omega, by omega⟩ hkX (by decide) rfl (fs := fs12 h X) rfl rfl ⟨tw_3_5, tw_3_2, tw_3_3, tw_3_4, tw_1_1⟩ cd_X9_astray ⟨by decide, by decide⟩ hl.1 (by first | exact Nat.le_of_ble_eq_true rfl | simp [rf_cat, cat_i, cat_l, cat_r]) rfl dL_law_1138 (fun H1 locs1 w1 => ?_)
  have hkM1 : h1.kd M = 13 := kd_keep w m1 hkM (by decide)
  refine lv_aload_n hx hb dL_law_1141 rfl (lv_at hl 2 rfl) ?_
  refine jz_Vi (As := []) C (m1.2.2.2.1.trans hse) w1 (cc_X10_astray N M h1 hkM1 e2) m2 ⟨by omega, by omega⟩ hkM1 (by decide) rfl (fs := fs13 h1 M) rfl rfl ⟨tw_8_108, tw_8_105, tw_8_106, tw_8_107, tw_1_7⟩ cd_X10_astray ⟨by decide, by decide⟩ hl.1 (by first | exact Nat.le_of_ble_eq_true rfl | simp [rf_cat, cat_i, cat_l, cat_r]) rfl dL_law_1142 (fun H2 locs2 w2 => ?_)
  refine lv_icmp_eq (tgt := 1150) hx hb dL_law_1145 (by decide) (fun _ => ?_) (fun c9 => absurd rfl c9)
  rw [show cells + (h1.nx - h.nx) + (h2.nx - h1.nx) = cells + (h2.nx - h.nx) by omega, show slots + (h1.su - h.su) + (h2.su - h1.su) = slots + (h2.su - h.su) by omega]
  exact kk _ _ _ _ _ _ hk w2 hl
end LC
