/-- an index in range, as the machine asks -/
theorem nar_b01 {x : Int32} (h : x = 0 ∨ x = 1) : vp_nar .boolean x = x := by rcases h with rfl | rfl <;> rfl
section JA
variable {p : Program} {l : Launch} {e : Env} {R : Room} {s : State} {m : MethodId} {args : Array Value} {below : List Frame} {meth : Method} {c : Code} {H : Heap} {locs : List Loc} {cells slots : Nat} {Q : State → Prop}
variable {cc : ByteArray} {nL : Nat} {rt : Option FieldType} {own : String} {D : va_G} {cs : C4} {A : Nat → Prop} {h0 h : Hp} {se : Nat × Nat} {pc : Nat} {ls : Array Slot} {rest : List Value} {a : Nat} {i : Int32}
theorem cell_20 (h : Hp) (a : Nat) : cellK cs h 20 a = .inl (cs.1, h.al a, .inl (h.ai a)) := rfl
theorem cell_21 (h : Hp) (a : Nat) : cellK cs h 21 a = .inl (cs.2.1, h.al a, .inr (.inl (h.aw a))) := rfl
theorem cell_22 (h : Hp) (a : Nat) : cellK cs h 22 a = .inl (cs.2.2.1, h.al a, .inl (h.ai a)) := rfl
theorem cell_23 (h : Hp) (a : Nat) : cellK cs h 23 a = .inl (cs.2.2.2, h.al a, .inr (.inr (.inr (.inr (h.ar a))))) := rfl
theorem at_k (w : Wo D cs A s h0 h H locs cells slots) {k : Nat} (hk : h.kd a = k) (h0k : k ≠ 0) : va_at D vwCl (a, cellK cs h k a) H := by
  have := w.1 a (by rw [hk]; exact h0k)
  rw [hk] at this; exact this
theorem jr_iald (C : Cx p s m args meth c cc nL rt own D cs A se) (w : Wo D cs A s h0 h H locs cells slots) (hk : h.kd a = 20) (hin : ¬ (i < 0 ∨ h.al a ≤ i.toNatClampNeg)) (hdg : decode cc pc = .ok (.iaload, 1))
    (kk : W p l e R s m args below meth c H locs cells slots Q (F0 m (pc + 1) ls (.int (h.ai a i.toNatClampNeg) :: rest))) : W p l e R s m args below meth c H locs cells slots Q (F0 m pc ls (.int i :: .ref a :: rest)) := by
  have hat := at_k w hk (by decide)
  rw [cell_20] at hat
  exact va_iald C.1 C.2.1 C.2.2.2.2.2.1 (sg_P hat) 0 0 rfl rfl hin hdg kk
theorem jr_zald (C : Cx p s m args meth c cc nL rt own D cs A se) (w : Wo D cs A s h0 h H locs cells slots) (hk : h.kd a = 22) (hin : ¬ (i < 0 ∨ h.al a ≤ i.toNatClampNeg)) (hdg : decode cc pc = .ok (.baload, 1))
    (kk : W p l e R s m args below meth c H locs cells slots Q (F0 m (pc + 1) ls (.int (h.ai a i.toNatClampNeg) :: rest))) : W p l e R s m args below meth c H locs cells slots Q (F0 m pc ls (.int i :: .ref a :: rest)) := by
  have hat := at_k w hk (by decide)
  rw [cell_22] at hat
  exact va_zald C.1 C.2.1 C.2.2.2.2.2.1 (sg_P hat) 0 2 rfl rfl hin hdg kk
theorem jr_lald (C : Cx p s m args meth c cc nL rt own D cs A se) (w : Wo D cs A s h0 h H locs cells slots) (hk : h.kd a = 21) (hin : ¬ (i < 0 ∨ h.al a ≤ i.toNatClampNeg)) (hdg : decode cc pc = .ok (.laload, 1))
    (kk : W p l e R s m args below meth c H locs cells slots Q (F0 m (pc + 1) ls (.long (h.aw a i.toNatClampNeg) :: rest))) : W p l e R s m args below meth c H locs cells slots Q (F0 m pc ls (.int i :: .ref a :: rest)) := by
  have hat := at_k w hk (by decide)
  rw [cell_21] at hat
  exact va_lald C.1 C.2.1 C.2.2.2.2.2.1 (sg_P hat) 0 1 rfl rfl hin hdg kk
theorem jr_aald (C : Cx p s m args meth c cc nL rt own D cs A se) (w : Wo D cs A s h0 h H locs cells slots) (hk : h.kd a = 23) (hin : ¬ (i < 0 ∨ h.al a ≤ i.toNatClampNeg)) (hdg : decode cc pc = .ok (.aaload, 1))
    (kk : W p l e R s m args below meth c H locs cells slots Q (F0 m (pc + 1) ls (va_rf (h.ar a i.toNatClampNeg) :: rest))) : W p l e R s m args below meth c H locs cells slots Q (F0 m pc ls (.int i :: .ref a :: rest)) := by
  have hat := at_k w hk (by decide)
  rw [cell_23] at hat
  exact va_aldq C.1 C.2.1 C.2.2.2.2.2.1 (sg_P hat) 0 3 rfl rfl hin hdg kk
theorem jr_alen (C : Cx p s m args meth c cc nL rt own D cs A se) (w : Wo D cs A s h0 h H locs cells slots) {k : Nat} (hk : h.kd a = k) (h4 : k = 20 ∨ k = 21 ∨ k = 22 ∨ k = 23) (hdg : decode cc pc = .ok (.arraylength, 1))
    (kk : W p l e R s m args below meth c H locs cells slots Q (F0 m (pc + 1) ls (.int (nI (h.al a)) :: rest))) : W p l e R s m args below meth c H locs cells slots Q (F0 m pc ls (.ref a :: rest)) := by
  have hat := at_k w hk (by omega)
  rcases h4 with rfl | rfl | rfl | rfl
  · rw [cell_20] at hat
    exact va_alen C.1 C.2.1 C.2.2.2.2.2.1 (sg_P hat) 0 0 rfl rfl rfl hdg kk
  · rw [cell_21] at hat
    exact va_alen C.1 C.2.1 C.2.2.2.2.2.1 (sg_P hat) 0 1 rfl rfl rfl hdg kk
  · rw [cell_22] at hat
    exact va_alen C.1 C.2.1 C.2.2.2.2.2.1 (sg_P hat) 0 2 rfl rfl rfl hdg kk
  · rw [cell_23] at hat
    exact va_alen C.1 C.2.1 C.2.2.2.2.2.1 (sg_P hat) 0 3 rfl rfl rfl hdg kk
theorem jr_iast (C : Cx p s m args meth c cc nL rt own D cs A se) (w : Wo D cs A s h0 h H locs cells slots) {x : Int32} (hk : h.kd a = 20) (hin : ¬ (i < 0 ∨ h.al a ≤ i.toNatClampNeg)) (hdg : decode cc pc = .ok (.iastore, 1))
    (kk : ∀ (H1 : Heap) (locs1 : List Loc), Wo D cs A s h0 (h.sai a i.toNatClampNeg x) H1 locs1 cells slots → W p l e R s m args below meth c H1 locs1 cells slots Q (F0 m (pc + 1) ls rest)) : W p l e R s m args below meth c H locs cells slots Q (F0 m pc ls (.int x :: .int i :: .ref a :: rest)) := by
  have hat := at_k w hk (by decide)
  rw [cell_20] at hat
  refine W.iast C.1 C.2.1 hat ((C.2.2.2.2.2.1.2 0 _ rfl).1 (h.al a) (fun j => .int (h.ai a j))) (fun q => by cases q) (by show ¬ (i < 0 ∨ (arrV _ _ _).slots.size ≤ _); rw [arrV_size]; exact hin) rfl rfl hdg fun H1 e1 z oq => ?_
  refine kk H1 _ (w.put (by rw [hk]; decide) ?_ z oq (fun b hb => ag_sai h a _ x hb) rfl rfl rfl rfl)
  rw [hk, cell_20]
  show H1[a]? = some (vp_cell _ _)
  rw [e1, vp_cell_i, vp_cell_i, arrV_store]
  congr 2
  funext j
  show updV _ _ _ j = .int (va_up h.ai a (va_up (h.ai a) i.toNatClampNeg x) a j)
  rw [va_up_self]
  by_cases hj : j = i.toNatClampNeg
  · subst hj; simp [updV, va_up_self]
  · simp [updV, hj, va_up_ne _ _ hj]
theorem jr_zast (C : Cx p s m args meth c cc nL rt own D cs A se) (w : Wo D cs A s h0 h H locs cells slots) {x : Int32} (hk : h.kd a = 22) (hin : ¬ (i < 0 ∨ h.al a ≤ i.toNatClampNeg)) (h01 : x = 0 ∨ x = 1) (hdg : decode cc pc = .ok (.bastore, 1))
    (kk : ∀ (H1 : Heap) (locs1 : List Loc), Wo D cs A s h0 (h.sai a i.toNatClampNeg x) H1 locs1 cells slots → W p l e R s m args below meth c H1 locs1 cells slots Q (F0 m (pc + 1) ls rest)) : W p l e R s m args below meth c H locs cells slots Q (F0 m pc ls (.int x :: .int i :: .ref a :: rest)) := by
  have hat := at_k w hk (by decide)
  rw [cell_22] at hat
  refine W.zast C.1 C.2.1 hat ((C.2.2.2.2.2.1.2 2 _ rfl).1 (h.al a) (fun j => .int (h.ai a j))) (fun q => by cases q) (by show ¬ (i < 0 ∨ (arrV _ _ _).slots.size ≤ _); rw [arrV_size]; exact hin) rfl rfl hdg fun H1 e1 z oq => ?_
  refine kk H1 _ (w.put (by rw [hk]; decide) ?_ z oq (fun b hb => ag_sai h a _ x hb) rfl rfl rfl rfl)
  rw [hk, cell_22]
  show H1[a]? = some (vp_cell _ _)
  rw [e1, vp_cell_i, vp_cell_i, arrV_store]
  congr 2
  funext j
  show updV _ _ _ j = .int (va_up h.ai a (va_up (h.ai a) i.toNatClampNeg x) a j)
  rw [va_up_self]
  by_cases hj : j = i.toNatClampNeg
  · subst hj
    rw [va_up_self]
    rcases h01 with rfl | rfl <;> simp [updV] <;> rfl
  · simp [updV, hj, va_up_ne _ _ hj]
theorem jr_last (C : Cx p s m args meth c cc nL rt own D cs A se) (w : Wo D cs A s h0 h H locs cells slots) {x : Int64} (hk : h.kd a = 21) (hin : ¬ (i < 0 ∨ h.al a ≤ i.toNatClampNeg)) (hdg : decode cc pc = .ok (.lastore, 1))
    (kk : ∀ (H1 : Heap) (locs1 : List Loc), Wo D cs A s h0 (h.saw a i.toNatClampNeg x) H1 locs1 cells slots → W p l e R s m args below meth c H1 locs1 cells slots Q (F0 m (pc + 1) ls rest)) : W p l e R s m args below meth c H locs cells slots Q (F0 m pc ls (.long x :: .int i :: .ref a :: rest)) := by
  have hat := at_k w hk (by decide)
  rw [cell_21] at hat
  refine W.last C.1 C.2.1 hat ((C.2.2.2.2.2.1.2 1 _ rfl).1 (h.al a) (fun j => .long (h.aw a j))) (fun q => by cases q) (by show ¬ (i < 0 ∨ (arrV _ _ _).slots.size ≤ _); rw [arrV_size]; exact hin) rfl rfl hdg fun H1 e1 z oq => ?_
  refine kk H1 _ (w.put (by rw [hk]; decide) ?_ z oq (fun b hb => ag_saw h a _ x hb) rfl rfl rfl rfl)
  rw [hk, cell_21]
  show H1[a]? = some (vp_cell _ _)
  rw [e1, vp_cell_l, vp_cell_l, arrV_store]
  congr 2
  funext j
  show updV _ _ _ j = .long (va_up h.aw a (va_up (h.aw a) i.toNatClampNeg x) a j)
  rw [va_up_self]
  by_cases hj : j = i.toNatClampNeg
  · subst hj; simp [updV, va_up_self]
  · simp [updV, hj, va_up_ne _ _ hj]
theorem cell_30 (h : Hp) (a : Nat) : cellK cs h 30 a = .inl (cs.1, h.al a, .inl (h.bi a)) := rfl
theorem cell_31 (h : Hp) (a : Nat) : cellK cs h 31 a = .inl (cs.2.1, h.al a, .inr (.inl (h.bw a))) := rfl
theorem cell_32 (h : Hp) (a : Nat) : cellK cs h 32 a = .inl (cs.2.2.1, h.al a, .inl (h.bi a)) := rfl
theorem jr_ialdM (C : Cx p s m args meth c cc nL rt own D cs A se) (w : Wo D cs A s h0 h H locs cells slots) (hk : h.kd a = 30) (hin : ¬ (i < 0 ∨ h.al a ≤ i.toNatClampNeg)) (hdg : decode cc pc = .ok (.iaload, 1))
    (kk : W p l e R s m args below meth c H locs cells slots Q (F0 m (pc + 1) ls (.int (h.bi a i.toNatClampNeg) :: rest))) : W p l e R s m args below meth c H locs cells slots Q (F0 m pc ls (.int i :: .ref a :: rest)) := by
  have hat := at_k w hk (by decide)
  rw [cell_30] at hat
  exact va_iald C.1 C.2.1 C.2.2.2.2.2.1 (sg_P hat) 0 0 rfl rfl hin hdg kk
theorem jr_zaldM (C : Cx p s m args meth c cc nL rt own D cs A se) (w : Wo D cs A s h0 h H locs cells slots) (hk : h.kd a = 32) (hin : ¬ (i < 0 ∨ h.al a ≤ i.toNatClampNeg)) (hdg : decode cc pc = .ok (.baload, 1))
    (kk : W p l e R s m args below meth c H locs cells slots Q (F0 m (pc + 1) ls (.int (h.bi a i.toNatClampNeg) :: rest))) : W p l e R s m args below meth c H locs cells slots Q (F0 m pc ls (.int i :: .ref a :: rest)) := by
  have hat := at_k w hk (by decide)
  rw [cell_32] at hat
  exact va_zald C.1 C.2.1 C.2.2.2.2.2.1 (sg_P hat) 0 2 rfl rfl hin hdg kk
theorem jr_laldM (C : Cx p s m args meth c cc nL rt own D cs A se) (w : Wo D cs A s h0 h H locs cells slots) (hk : h.kd a = 31) (hin : ¬ (i < 0 ∨ h.al a ≤ i.toNatClampNeg)) (hdg : decode cc pc = .ok (.laload, 1))
    (kk : W p l e R s m args below meth c H locs cells slots Q (F0 m (pc + 1) ls (.long (h.bw a i.toNatClampNeg) :: rest))) : W p l e R s m args below meth c H locs cells slots Q (F0 m pc ls (.int i :: .ref a :: rest)) := by
  have hat := at_k w hk (by decide)
  rw [cell_31] at hat
  exact va_lald C.1 C.2.1 C.2.2.2.2.2.1 (sg_P hat) 0 1 rfl rfl hin hdg kk
theorem jr_iastM (C : Cx p s m args meth c cc nL rt own D cs A se) (w : Wo D cs A s h0 h H locs cells slots) {x : Int32} (hk : h.kd a = 30) (hin : ¬ (i < 0 ∨ h.al a ≤ i.toNatClampNeg)) (hdg : decode cc pc = .ok (.iastore, 1))
    (kk : ∀ (H1 : Heap) (locs1 : List Loc), Wo D cs A s h0 (h.sbi a i.toNatClampNeg x) H1 locs1 cells slots → W p l e R s m args below meth c H1 locs1 cells slots Q (F0 m (pc + 1) ls rest)) : W p l e R s m args below meth c H locs cells slots Q (F0 m pc ls (.int x :: .int i :: .ref a :: rest)) := by
  have hat := at_k w hk (by decide)
  rw [cell_30] at hat
  refine W.iast C.1 C.2.1 hat ((C.2.2.2.2.2.1.2 0 _ rfl).1 (h.al a) (fun j => .int (h.bi a j))) (fun q => by cases q) (by show ¬ (i < 0 ∨ (arrV _ _ _).slots.size ≤ _); rw [arrV_size]; exact hin) rfl rfl hdg fun H1 e1 z oq => ?_
  refine kk H1 _ (w.put (by rw [hk]; decide) ?_ z oq (fun b hb => ag_sbi h a _ x hb) rfl rfl rfl rfl)
  rw [hk, cell_30]
  show H1[a]? = some (vp_cell _ _)
  rw [e1, vp_cell_i, vp_cell_i, arrV_store]
  congr 2
  funext j
  show updV _ _ _ j = .int (va_up h.bi a (va_up (h.bi a) i.toNatClampNeg x) a j)
  rw [va_up_self]
  by_cases hj : j = i.toNatClampNeg
  · subst hj; simp [updV, va_up_self]
  · simp [updV, hj, va_up_ne _ _ hj]
theorem jr_zastM (C : Cx p s m args meth c cc nL rt own D cs A se) (w : Wo D cs A s h0 h H locs cells slots) {x : Int32} (hk : h.kd a = 32) (hin : ¬ (i < 0 ∨ h.al a ≤ i.toNatClampNeg)) (h01 : x = 0 ∨ x = 1) (hdg : decode cc pc = .ok (.bastore, 1))
    (kk : ∀ (H1 : Heap) (locs1 : List Loc), Wo D cs A s h0 (h.sbi a i.toNatClampNeg x) H1 locs1 cells slots → W p l e R s m args below meth c H1 locs1 cells slots Q (F0 m (pc + 1) ls rest)) : W p l e R s m args below meth c H locs cells slots Q (F0 m pc ls (.int x :: .int i :: .ref a :: rest)) := by
  have hat := at_k w hk (by decide)
  rw [cell_32] at hat
  refine W.zast C.1 C.2.1 hat ((C.2.2.2.2.2.1.2 2 _ rfl).1 (h.al a) (fun j => .int (h.bi a j))) (fun q => by cases q) (by show ¬ (i < 0 ∨ (arrV _ _ _).slots.size ≤ _); rw [arrV_size]; exact hin) rfl rfl hdg fun H1 e1 z oq => ?_
  refine kk H1 _ (w.put (by rw [hk]; decide) ?_ z oq (fun b hb => ag_sbi h a _ x hb) rfl rfl rfl rfl)
  rw [hk, cell_32]
  show H1[a]? = some (vp_cell _ _)
  rw [e1, vp_cell_i, vp_cell_i, arrV_store]
  congr 2
  funext j
  show updV _ _ _ j = .int (va_up h.bi a (va_up (h.bi a) i.toNatClampNeg x) a j)
  rw [va_up_self]
  by_cases hj : j = i.toNatClampNeg
  · subst hj
    rw [va_up_self]
    rcases h01 with rfl | rfl <;> simp [updV] <;> rfl
  · simp [updV, hj, va_up_ne _ _ hj]
theorem jr_lastM (C : Cx p s m args meth c cc nL rt own D cs A se) (w : Wo D cs A s h0 h H locs cells slots) {x : Int64} (hk : h.kd a = 31) (hin : ¬ (i < 0 ∨ h.al a ≤ i.toNatClampNeg)) (hdg : decode cc pc = .ok (.lastore, 1))
    (kk : ∀ (H1 : Heap) (locs1 : List Loc), Wo D cs A s h0 (h.sbw a i.toNatClampNeg x) H1 locs1 cells slots → W p l e R s m args below meth c H1 locs1 cells slots Q (F0 m (pc + 1) ls rest)) : W p l e R s m args below meth c H locs cells slots Q (F0 m pc ls (.long x :: .int i :: .ref a :: rest)) := by
  have hat := at_k w hk (by decide)
  rw [cell_31] at hat
  refine W.last C.1 C.2.1 hat ((C.2.2.2.2.2.1.2 1 _ rfl).1 (h.al a) (fun j => .long (h.bw a j))) (fun q => by cases q) (by show ¬ (i < 0 ∨ (arrV _ _ _).slots.size ≤ _); rw [arrV_size]; exact hin) rfl rfl hdg fun H1 e1 z oq => ?_
  refine kk H1 _ (w.put (by rw [hk]; decide) ?_ z oq (fun b hb => ag_sbw h a _ x hb) rfl rfl rfl rfl)
  rw [hk, cell_31]
  show H1[a]? = some (vp_cell _ _)
  rw [e1, vp_cell_l, vp_cell_l, arrV_store]
  congr 2
  funext j
  show updV _ _ _ j = .long (va_up h.bw a (va_up (h.bw a) i.toNatClampNeg x) a j)
  rw [va_up_self]
  by_cases hj : j = i.toNatClampNeg
  · subst hj; simp [updV, va_up_self]
  · simp [updV, hj, va_up_ne _ _ hj]
theorem jr_alenM (C : Cx p s m args meth c cc nL rt own D cs A se) (w : Wo D cs A s h0 h H locs cells slots) {k : Nat} (hk : h.kd a = k) (h4 : k = 30 ∨ k = 31 ∨ k = 32) (hdg : decode cc pc = .ok (.arraylength, 1))
    (kk : W p l e R s m args below meth c H locs cells slots Q (F0 m (pc + 1) ls (.int (nI (h.al a)) :: rest))) : W p l e R s m args below meth c H locs cells slots Q (F0 m pc ls (.ref a :: rest)) := by
  have hat := at_k w hk (by omega)
  rcases h4 with rfl | rfl | rfl
  · rw [cell_30] at hat
    exact va_alen C.1 C.2.1 C.2.2.2.2.2.1 (sg_P hat) 0 0 rfl rfl rfl hdg kk
  · rw [cell_31] at hat
    exact va_alen C.1 C.2.1 C.2.2.2.2.2.1 (sg_P hat) 0 1 rfl rfl rfl hdg kk
  · rw [cell_32] at hat
    exact va_alen C.1 C.2.1 C.2.2.2.2.2.1 (sg_P hat) 0 2 rfl rfl rfl hdg kk
/-- an object of a class of ours into an array of Object -/
theorem jr_aast (C : Cx p s m args meth c cc nL rt own D cs A se) (w : Wo D cs A s h0 h H locs cells slots) {v ci : Nat} {r : vw_C} {fs : List Value} (hk : h.kd a = 23) (hin : ¬ (i < 0 ∨ h.al a ≤ i.toNatClampNeg)) (hkv : h.kd v = ci) (h0c : ci ≠ 0) (hc : vwCl[ci]? = some r) (hf : cellK cs h ci v = .inr (ci, fs)) (hca : va_Nw (.castable r.1 "java/lang/Object") s) (hdg : decode cc pc = .ok (.aastore, 1))
    (kk : ∀ (H1 : Heap) (locs1 : List Loc), Wo D cs A s h0 (h.sar a i.toNatClampNeg (some v)) H1 locs1 cells slots → W p l e R s m args below meth c H1 locs1 cells slots Q (F0 m (pc + 1) ls rest)) : W p l e R s m args below meth c H locs cells slots Q (F0 m pc ls (.ref v :: .int i :: .ref a :: rest)) := by
  have hat := at_k w hk (by decide)
  rw [cell_23] at hat
  have hav := at_k w hkv h0c
  rw [hf] at hav
  have hK := C.2.2.2.2.2.1
  obtain ⟨r', hr', cellV, g1, g2, g3, -⟩ := hav
  have hcls := (hK.1 ci r hc).2
  obtain ⟨kA, comp, k1, k2, k3, -⟩ := (hK.2 3 _ rfl).2
  obtain ⟨kE, hkE, -⟩ := Vm.findClass_spec k3
  obtain ⟨c0, t1, f1, f2, f3⟩ := Cond.castable_spec (va_Nw.use (A := args) rfl hca)
  cases hcls.1.symm.trans f1
  cases k3.symm.trans f2
  obtain ⟨kC, hkC, -⟩ := hcls.2
  have hlt : i.toNatClampNeg < h.al a := Nat.not_le.mp fun q => hin (Or.inr q)
  have hnn : ¬ i < 0 := fun q => hin (Or.inl q)
  refine W.aast C.1 C.2.1 hat (fun q h => by cases h) (fun h => by cases h) k1 k2 rfl hkE ⟨hnn, by show _ < (arrV _ _ _).slots.size; rw [arrV_size]; exact hlt⟩ g1 (fun q h => by rw [g3] at h; cases h) (by rw [g2]; exact hkC) (by rw [g2]; exact f3) rfl rfl hdg fun H1 e1 z oq => ?_
  refine kk H1 _ (w.put (by rw [hk]; decide) ?_ z oq (fun b hb => ag_sar h a _ (some v) hb) rfl rfl rfl rfl)
  rw [hk, cell_23]
  show H1[a]? = some (vp_cell _ _)
  rw [e1, vp_cell_q, vp_cell_q, arrV_store]
  congr 2
  funext j
  show updV _ _ _ j = va_rf (va_up h.ar a (va_up (h.ar a) i.toNatClampNeg (some v)) a j)
  rw [va_up_self]
  by_cases hj : j = i.toNatClampNeg
  · subst hj; simp [updV, va_up_self, va_rf]
  · simp [updV, hj, va_up_ne _ _ hj]
theorem arr_uniq {s : State} {D : va_G} {cl : List vw_C} {cs : C4} (hK : va_K D cl (tyl cs) s) {cA : ClassId} (k : Nat) {q : ClassId × FieldType} (hq : (tyl cs)[k]? = some q) (h : s.vm.findClass ("[" ++ q.2.toString) = some cA) : cA = q.1 := by
  have h2 := (hK.2 k q hq).2
  obtain ⟨c0, ty⟩ := q
  have h3 : s.vm.findClass ("[" ++ ty.toString) = some c0 := by
    cases ty with
    | object C => obtain ⟨_, _, _, _, _, h4⟩ := h2; exact h4
    | _ => exact h2
  exact Option.some.inj (h.symm.trans h3)
variable {mc ms F LO : Nat}
/-- int[], long[], boolean[] -/
theorem jr_newa (C : Cx p s m args meth c cc nL rt own D cs A se) (w : Wo D cs A s h0 h H locs cells slots) {atype : ArrayType} {k t0 : Nat} {cA0 : ClassId} {a0 : vp_A} {n : Int32} (harr : Cond.arrayClass (newarray.typeOf atype) ∈ TB) (ht : (tyl cs)[t0]? = some (cA0, newarray.typeOf atype)) (hk : cellK cs (h.new k n.toNatClampNeg n.toNatClampNeg) k h.nx = .inl (cA0, a0)) (ha : vp_cell cA0 a0 = arrV cA0 n.toNatClampNeg (fun _ => defaultValue (newarray.typeOf atype)))
    (hn : ¬ n < 0) (hbytes : n.toNatClampNeg * componentBytes (newarray.typeOf atype) ≤ 536870912) (hcells : cells + 1 ≤ R.cells) (hslots : slots + n.toNatClampNeg ≤ R.slots) (hdg : decode cc pc = .ok (.newarray atype, 2))
    (kk : ∀ (H1 : Heap), Wo D cs A s h0 (h.new k n.toNatClampNeg n.toNatClampNeg) H1 locs (cells + 1) (slots + n.toNatClampNeg) → W p l e R s m args below meth c H1 locs (cells + 1) (slots + n.toNatClampNeg) Q (F0 m (pc + 2) ls (.ref h.nx :: rest))) : W p l e R s m args below meth c H locs cells slots Q (F0 m pc ls (.int n :: rest)) := by
  obtain ⟨hx, hb, hml, hown, hts, hK, hA, -⟩ := C
  refine va_newaK hx hb (hts _ harr) rfl hdg rfl hn rfl hbytes hcells hslots w.2.2.2.1 fun H1 cA e1 z1 o1 hAr hNm => ?_
  have e2 := arr_uniq hK t0 ht hNm
  dsimp only at e2
  subst e2
  refine kk H1 (w.new hA ?_ (by rw [w.2.2.2.1]; exact z1) (by rw [w.2.2.2.1]; exact o1))
  rw [hk]
  show H1[h.nx]? = some (vp_cell _ _)
  rw [ha]
  exact e1
/-- a cell's own part of the room -/
theorem rm_new {hz : Hp} {k n sl : Nat} (w : Wo D cs A s h0 h H locs cells slots) (hz1 : Mo (h.new k n sl) hz) (hz2 : hz.nx ≤ h0.nx + mc ∧ hz.su ≤ h0.su + ms) : cells + 1 ≤ mc ∧ slots + sl ≤ ms := by
  obtain ⟨w1, w2, w3, w4, w5, w6, w7, w8⟩ := w
  have a3 : h.nx + 1 ≤ hz.nx := hz1.2.1
  have a4 : h.su + sl ≤ hz.su := hz1.2.2.1
  have a5 := hz2.1
  have a6 := hz2.2
  constructor <;> omega
/-- references in locals -/
theorem jv_aload_n (hx : p.tables.exec = Jvm.exec) (hb : c.code = cc) {k : Fin 4} {i : Nat} {r : Option Nat} (hdg : decode cc pc = .ok (.aload_n k, 1)) (hi : (k : Nat) = i) (hl : ls[i]? = some (.val (va_rf r))) (kk : W p l e R s m args below meth c H locs cells slots Q (F0 m (pc + 1) ls (va_rf r :: rest))) : W p l e R s m args below meth c H locs cells slots Q (F0 m pc ls rest) := by
  cases r with
  | none => exact lv_aload_nN hx hb hdg hi hl kk
  | some a => exact lv_aload_n hx hb hdg hi hl kk
theorem jv_aload (hx : p.tables.exec = Jvm.exec) (hb : c.code = cc) {i : Nat} {r : Option Nat} (hdg : decode cc pc = .ok (.aload i, 2)) (hl : ls[i]? = some (.val (va_rf r))) (kk : W p l e R s m args below meth c H locs cells slots Q (F0 m (pc + 2) ls (va_rf r :: rest))) : W p l e R s m args below meth c H locs cells slots Q (F0 m pc ls rest) := by
  cases r with
  | none => exact lv_aloadN hx hb hdg hl kk
  | some a => exact lv_aload hx hb hdg hl kk
theorem jv_astore_n (hx : p.tables.exec = Jvm.exec) (hb : c.code = cc) {k : Fin 4} {i nL : Nat} {r : Option Nat} {lv lv' : List (Nat × Value)} (hdg : decode cc pc = .ok (.astore_n k, 1)) (hi : (k : Nat) = i) (h : lv_has ls nL lv) (hn : i < nL) (hl : (i, va_rf r) :: lv.filter (fun q => !(q.1 == i) && !(q.1 + 1 == i && q.2.category == 2)) = lv')
    (kk : ∀ ls' : Array Slot, lv_has ls' nL lv' → W p l e R s m args below meth c H locs cells slots Q (F0 m (pc + 1) ls' rest)) : W p l e R s m args below meth c H locs cells slots Q (F0 m pc ls (va_rf r :: rest)) := by
  cases r with
  | none => exact lv_astore_nN hx hb hdg hi h hn hl kk
  | some a => exact lv_astore_n hx hb hdg hi h hn hl kk
theorem jv_astore (hx : p.tables.exec = Jvm.exec) (hb : c.code = cc) {i nL : Nat} {r : Option Nat} {lv lv' : List (Nat × Value)} (hdg : decode cc pc = .ok (.astore i, 2)) (h : lv_has ls nL lv) (hn : i < nL) (hl : (i, va_rf r) :: lv.filter (fun q => !(q.1 == i) && !(q.1 + 1 == i && q.2.category == 2)) = lv')
    (kk : ∀ ls' : Array Slot, lv_has ls' nL lv' → W p l e R s m args below meth c H locs cells slots Q (F0 m (pc + 2) ls' rest)) : W p l e R s m args below meth c H locs cells slots Q (F0 m pc ls (va_rf r :: rest)) := by
  cases r with
  | none => exact lv_astoreN hx hb hdg h hn hl kk
  | some a => exact lv_astore hx hb hdg h hn hl kk
theorem jv_ifnull (hx : p.tables.exec = Jvm.exec) (hb : c.code = cc) {r : Option Nat} {off : Int} {tgt : Nat} (hdg : decode cc pc = .ok (.ifnull off, 3)) (ht : (pc : Int) + off = (tgt : Int)) (kt : r = none → W p l e R s m args below meth c H locs cells slots Q (F0 m tgt ls rest)) (kf : ∀ a, r = some a → W p l e R s m args below meth c H locs cells slots Q (F0 m (pc + 3) ls rest)) : W p l e R s m args below meth c H locs cells slots Q (F0 m pc ls (va_rf r :: rest)) := by
  cases r with
  | none => exact lv_ifnullN hx hb hdg ht (kt rfl)
  | some a => exact lv_ifnull hx hb hdg (kf a rfl)
theorem jv_ifnonnull (hx : p.tables.exec = Jvm.exec) (hb : c.code = cc) {r : Option Nat} {off : Int} {tgt : Nat} (hdg : decode cc pc = .ok (.ifnonnull off, 3)) (ht : (pc : Int) + off = (tgt : Int)) (kt : ∀ a, r = some a → W p l e R s m args below meth c H locs cells slots Q (F0 m tgt ls rest)) (kf : r = none → W p l e R s m args below meth c H locs cells slots Q (F0 m (pc + 3) ls rest)) : W p l e R s m args below meth c H locs cells slots Q (F0 m pc ls (va_rf r :: rest)) := by
  cases r with
  | none => exact lv_ifnonnullN hx hb hdg (kf rfl)
  | some a => exact lv_ifnonnull hx hb hdg ht (kt a rfl)
end JA
