theorem rf_cat (x : Option Nat) : (va_rf x).category = 1 := by cases x <;> rfl
theorem cat_i (x : Int32) : (Value.int x).category = 1 := rfl
theorem cat_l (x : Int64) : (Value.long x).category = 2 := rfl
theorem cat_r (x : Nat) : (Value.ref x).category = 1 := rfl
theorem rs2 {α β : Type} {a c : α} {b d : β} (e : some (a, b) = some (c, d)) : a = c ∧ b = d := by cases e; exact ⟨rfl, rfl⟩
theorem tw_obj : Cond.code Lib.objectInit ⟨#[0xb1]⟩ 1 none ∈ TB := tb_of tm_1 42 rfl rfl
theorem tw_max : Cond.code Lib.Math.max.name Lib.Math.max.code 2 (some .int) ∈ TB := tb_of tm_2 105 rfl rfl
theorem tw_min : Cond.code Lib.Math.min.name Lib.Math.min.code 2 (some .int) ∈ TB := tb_of tm_2 144 rfl rfl
theorem ne_ti {x k : Int32} {n : Int} (hk : k.toInt = n) (h : ¬ x = k) : x.toInt ≠ n := fun e => h (Int32.toInt_inj.mp (e.trans hk.symm))
section JG
variable {p : Program} {l : Launch} {e : Env} {R : Room} {s : State} {m : MethodId} {args : Array Value} {below : List Frame} {meth : Method} {c : Code} {H : Heap} {locs : List Loc} {cells slots : Nat} {Q : State → Prop}
variable {cc : ByteArray} {nL : Nat} {rt : Option FieldType} {own : String} {D : va_G} {cs : C4} {A : Nat → Prop} {h0 h h' hz : Hp} {se : Nat × Nat} {pc a mc ms F LO : Nat} {ls : Array Slot} {rest : List Value}
theorem kd_lt (w : Wo D cs A s h0 h H locs cells slots) {k : Nat} (hk : h.kd a = k) (h0k : k ≠ 0) : a < h.nx := Nat.lt_of_not_le fun q => h0k (by rw [← hk]; exact w.2.2.2.2.1 a q)
theorem kd_keep (w : Wo D cs A s h0 h H locs cells slots) (hm : Mo h h') {k : Nat} (hk : h.kd a = k) (h0k : k ≠ 0) : h'.kd a = k := (hm.1 a (kd_lt w hk h0k)).trans hk
theorem kd_new {k n sl : Nat} (w : Wo D cs A s h0 h H locs cells slots) {q : Nat} (hk : h.kd a = q) (h0k : q ≠ 0) : (h.new k n sl).kd a = q := kd_keep w (Mo.new h k n sl) hk h0k
theorem rm_now (w : Wo D cs A s h0 h H locs cells slots) (hm : Mo h hz) (hz2 : hz.nx ≤ h0.nx + mc ∧ hz.su ≤ h0.su + ms) : cells ≤ mc ∧ slots ≤ ms := by
  obtain ⟨w1, w2, w3, w4, w5, w6, w7, w8⟩ := w
  have a1 := hm.2.1
  have a2 := hm.2.2.1
  obtain ⟨a3, a4⟩ := hz2
  constructor <;> omega
theorem fa_20 (C : Cx p s m args meth c cc nL rt own D cs A se) (w : Wo D cs A s h0 h H locs cells slots) {n : Int32} (hn : ¬ n < 0 ∧ n.toNatClampNeg ≤ 67108864) (hz1 : Mo (h.new 20 n.toNatClampNeg n.toNatClampNeg) hz) (hz2 : hz.nx ≤ h0.nx + mc ∧ hz.su ≤ h0.su + ms) (hdg : decode cc pc = .ok (.newarray .int, 2))
    (kk : ∀ (H1 : Heap), Wo D cs A s h0 (h.new 20 n.toNatClampNeg n.toNatClampNeg) H1 locs (cells + 1) (slots + n.toNatClampNeg) → W p l e { frames := F, cells := mc, slots := ms, locals := LO } s m args below meth c H1 locs (cells + 1) (slots + n.toNatClampNeg) Q (F0 m (pc + 2) ls (va_rf (some h.nx) :: rest))) : W p l e { frames := F, cells := mc, slots := ms, locals := LO } s m args below meth c H locs cells slots Q (F0 m pc ls (.int n :: rest)) :=
  jr_newa (atype := .int) C w (k := 20) (t0 := 0) (a0 := (n.toNatClampNeg, .inl (fun _ => 0))) tw_1_130 rfl (by rw [cell_20]; show (Sum.inl (cs.1, va_up h.al h.nx _ h.nx, Sum.inl (va_up h.ai h.nx _ h.nx)) : va_E) = _; rw [va_up_self, va_up_self]) rfl hn.1 (by show _ * 4 ≤ _; omega) (rm_new w hz1 hz2).1 (rm_new w hz1 hz2).2 hdg kk
theorem fa_21 (C : Cx p s m args meth c cc nL rt own D cs A se) (w : Wo D cs A s h0 h H locs cells slots) {n : Int32} (hn : ¬ n < 0 ∧ n.toNatClampNeg ≤ 67108864) (hz1 : Mo (h.new 21 n.toNatClampNeg n.toNatClampNeg) hz) (hz2 : hz.nx ≤ h0.nx + mc ∧ hz.su ≤ h0.su + ms) (hdg : decode cc pc = .ok (.newarray .long, 2))
    (kk : ∀ (H1 : Heap), Wo D cs A s h0 (h.new 21 n.toNatClampNeg n.toNatClampNeg) H1 locs (cells + 1) (slots + n.toNatClampNeg) → W p l e { frames := F, cells := mc, slots := ms, locals := LO } s m args below meth c H1 locs (cells + 1) (slots + n.toNatClampNeg) Q (F0 m (pc + 2) ls (va_rf (some h.nx) :: rest))) : W p l e { frames := F, cells := mc, slots := ms, locals := LO } s m args below meth c H locs cells slots Q (F0 m pc ls (.int n :: rest)) :=
  jr_newa (atype := .long) C w (k := 21) (t0 := 1) (a0 := (n.toNatClampNeg, .inr (.inl (fun _ => 0)))) tw_1_131 rfl (by rw [cell_21]; show (Sum.inl (cs.2.1, va_up h.al h.nx _ h.nx, Sum.inr (Sum.inl (va_up h.aw h.nx _ h.nx))) : va_E) = _; rw [va_up_self, va_up_self]) rfl hn.1 (by show _ * 8 ≤ _; omega) (rm_new w hz1 hz2).1 (rm_new w hz1 hz2).2 hdg kk
theorem fa_22 (C : Cx p s m args meth c cc nL rt own D cs A se) (w : Wo D cs A s h0 h H locs cells slots) {n : Int32} (hn : ¬ n < 0 ∧ n.toNatClampNeg ≤ 67108864) (hz1 : Mo (h.new 22 n.toNatClampNeg n.toNatClampNeg) hz) (hz2 : hz.nx ≤ h0.nx + mc ∧ hz.su ≤ h0.su + ms) (hdg : decode cc pc = .ok (.newarray .boolean, 2))
    (kk : ∀ (H1 : Heap), Wo D cs A s h0 (h.new 22 n.toNatClampNeg n.toNatClampNeg) H1 locs (cells + 1) (slots + n.toNatClampNeg) → W p l e { frames := F, cells := mc, slots := ms, locals := LO } s m args below meth c H1 locs (cells + 1) (slots + n.toNatClampNeg) Q (F0 m (pc + 2) ls (va_rf (some h.nx) :: rest))) : W p l e { frames := F, cells := mc, slots := ms, locals := LO } s m args below meth c H locs cells slots Q (F0 m pc ls (.int n :: rest)) :=
  jr_newa (atype := .boolean) C w (k := 22) (t0 := 2) (a0 := (n.toNatClampNeg, .inl (fun _ => 0))) tw_7_125 rfl (by rw [cell_22]; show (Sum.inl (cs.2.2.1, va_up h.al h.nx _ h.nx, Sum.inl (va_up h.ai h.nx _ h.nx)) : va_E) = _; rw [va_up_self, va_up_self]) rfl hn.1 (by show _ * 1 ≤ _; omega) (rm_new w hz1 hz2).1 (rm_new w hz1 hz2).2 hdg kk
end JG
